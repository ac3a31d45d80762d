abbrev rmX2_init : Room := { frames := 1, cells := 8, slots := 633, locals := 12 }
theorem di_X2_init : yX2_init.cls ≠ "java/lang/invoke/MethodHandle" ∧ yX2_init.cls ≠ "java/lang/invoke/VarHandle" ∧ (parseMethodDescriptor yX2_init.desc).map (fun d => d.parameters.length) = some 0 := by decide +kernel
abbrev pw_X2_init (cI cJ cZ cS : ClassId) (a_this : Nat) (w9 : va_W) : Prop := ∃ a_n1 a_n2 a_n3 a_n4 a_n5 a_n6 a_n7 a_n8 : Nat, w9 = [(a_this, .inr (2, [.int (0 : Int32), .int (0 : Int32), .int (0 : Int32), .ref a_n1, .ref a_n2, .ref a_n3, .ref a_n4, .ref a_n5, .ref a_n6, .ref a_n7, .ref a_n8])), (a_n1, .inl (cI, 8, .inl (fun _ => (0 : Int32)))), (a_n2, .inl (cI, 8, .inl (fun _ => (0 : Int32)))), (a_n3, .inl (cI, 8, .inl (fun _ => (0 : Int32)))), (a_n4, .inl (cI, 4, .inl (fun _ => (0 : Int32)))), (a_n5, .inl (cI, 55, .inl (fun _ => (0 : Int32)))), (a_n6, .inl (cI, 55, .inl (fun _ => (0 : Int32)))), (a_n7, .inl (cI, 440, .inl (fun _ => (0 : Int32)))), (a_n8, .inl (cI, 55, .inl (fun _ => (0 : Int32))))]
set_option maxHeartbeats 4000000 in
set_option maxRecDepth 100000 in
theorem c_X2_init (l : Launch) (D : va_G) (cI cJ cZ cS : ClassId) (sz : Nat) (a_this : Nat) : MetN l yX2_init wsX2_init rmX2_init D (tyA cI cJ cZ cS) [(a_this, .inr (2, [.int (0 : Int32), .int (0 : Int32), .int (0 : Int32), .null, .null, .null, .null, .null, .null, .null, .null]))] sz [.ref a_this] (pw_X2_init cI cJ cZ cS a_this) 8 633 := by
  refine entN (cc := cX2_init) (maxL := 1) (own := RX2) (by decide) rfl rfl rfl (Nat.le_of_ble_eq_true rfl) ?_
  intro p e s m args below meth c A ls Q S hin9 hr hE hw hl hQ
  have hx := S.1.1
  have hb := S.1.2.1
  have hts := S.1.2.2.2.2
  have hl : lv_has ls 1 [(0, .ref a_this)] := hl
  obtain ⟨H, eH⟩ : ∃ H : Heap, H = s.heap := ⟨_, rfl⟩
  rw [← eH]
  have hw : Wd D (tyA cI cJ cZ cS) A s [(a_this, .inr (2, [.int (0 : Int32), .int (0 : Int32), .int (0 : Int32), .null, .null, .null, .null, .null, .null, .null, .null]))] H [] := by rw [eH]; exact hw
  have hinX2 : ∀ w ∈ u_ws RX2 TX2 11, w ∈ wsX2_init := (fun _ h => List.mem_cons_of_mem _ (List.mem_append_right _ h))
  have F9 : FLk s args wsX2_init RX2 9 RX2 TX2 11 2 0 := ⟨hinX2, rfl, by decide, hts (.fieldLink RX2 9 "SlowPaths$Net" "inputs" "I") (List.mem_of_getElem? (i := 4) rfl)⟩
  have F15 : FLk s args wsX2_init RX2 15 RX2 TX2 11 2 1 := ⟨hinX2, rfl, by decide, hts (.fieldLink RX2 15 "SlowPaths$Net" "gates" "I") (List.mem_of_getElem? (i := 5) rfl)⟩
  have F18 : FLk s args wsX2_init RX2 18 RX2 TX2 11 2 2 := ⟨hinX2, rfl, by decide, hts (.fieldLink RX2 18 "SlowPaths$Net" "paths" "I") (List.mem_of_getElem? (i := 6) rfl)⟩
  have F21 : FLk s args wsX2_init RX2 21 RX2 TX2 11 2 3 := ⟨hinX2, rfl, by decide, hts (.fieldLink RX2 21 "SlowPaths$Net" "told" "[I") (List.mem_of_getElem? (i := 8) rfl)⟩
  have F25 : FLk s args wsX2_init RX2 25 RX2 TX2 11 2 4 := ⟨hinX2, rfl, by decide, hts (.fieldLink RX2 25 "SlowPaths$Net" "lefts" "[I") (List.mem_of_getElem? (i := 9) rfl)⟩
  have F28 : FLk s args wsX2_init RX2 28 RX2 TX2 11 2 5 := ⟨hinX2, rfl, by decide, hts (.fieldLink RX2 28 "SlowPaths$Net" "rights" "[I") (List.mem_of_getElem? (i := 10) rfl)⟩
  have F31 : FLk s args wsX2_init RX2 31 RX2 TX2 11 2 6 := ⟨hinX2, rfl, by decide, hts (.fieldLink RX2 31 "SlowPaths$Net" "nexts" "[I") (List.mem_of_getElem? (i := 11) rfl)⟩
  have F34 : FLk s args wsX2_init RX2 34 RX2 TX2 11 2 7 := ⟨hinX2, rfl, by decide, hts (.fieldLink RX2 34 "SlowPaths$Net" "starts" "[I") (List.mem_of_getElem? (i := 12) rfl)⟩
  have F37 : FLk s args wsX2_init RX2 37 RX2 TX2 11 2 8 := ⟨hinX2, rfl, by decide, hts (.fieldLink RX2 37 "SlowPaths$Net" "sizes" "[I") (List.mem_of_getElem? (i := 13) rfl)⟩
  have F40 : FLk s args wsX2_init RX2 40 RX2 TX2 11 2 9 := ⟨hinX2, rfl, by decide, hts (.fieldLink RX2 40 "SlowPaths$Net" "steps" "[I") (List.mem_of_getElem? (i := 14) rfl)⟩
  have F43 : FLk s args wsX2_init RX2 43 RX2 TX2 11 2 10 := ⟨hinX2, rfl, by decide, hts (.fieldLink RX2 43 "SlowPaths$Net" "links" "[I") (List.mem_of_getElem? (i := 15) rfl)⟩
  have P9 : PLk TX2 11 0 tyX2 false .int := ⟨tyX2_ok, nmX2, rfl, rfl⟩
  have P15 : PLk TX2 11 1 tyX2 false .int := ⟨tyX2_ok, nmX2, rfl, rfl⟩
  have P18 : PLk TX2 11 2 tyX2 false .int := ⟨tyX2_ok, nmX2, rfl, rfl⟩
  have P21 : PLk TX2 11 3 tyX2 true (.array .int) := ⟨tyX2_ok, nmX2, rfl, rfl⟩
  have P25 : PLk TX2 11 4 tyX2 true (.array .int) := ⟨tyX2_ok, nmX2, rfl, rfl⟩
  have P28 : PLk TX2 11 5 tyX2 true (.array .int) := ⟨tyX2_ok, nmX2, rfl, rfl⟩
  have P31 : PLk TX2 11 6 tyX2 true (.array .int) := ⟨tyX2_ok, nmX2, rfl, rfl⟩
  have P34 : PLk TX2 11 7 tyX2 true (.array .int) := ⟨tyX2_ok, nmX2, rfl, rfl⟩
  have P37 : PLk TX2 11 8 tyX2 true (.array .int) := ⟨tyX2_ok, nmX2, rfl, rfl⟩
  have P40 : PLk TX2 11 9 tyX2 true (.array .int) := ⟨tyX2_ok, nmX2, rfl, rfl⟩
  have P43 : PLk TX2 11 10 tyX2 true (.array .int) := ⟨tyX2_ok, nmX2, rfl, rfl⟩
  refine lv_aload_n hx hb dX2_init_0 rfl (lv_at hl 0 rfl) ?_
  refine W.objInit hx hb S.1.2.2.2.1 (hts (.methodLink RX2 3 objectInit) (List.mem_of_getElem? (i := 1) rfl)) (hts (.instanceMethod objectInit) (List.mem_of_getElem? (i := 2) rfl)) (hts (.code objectInit ⟨#[0xb1]⟩ 1 none) (List.mem_of_getElem? (i := 3) rfl)) rfl (by rw [S.1.2.2.1]; exact hl.1) rfl dX2_init_1 (Nat.le_of_ble_eq_true rfl) (Nat.le_of_ble_eq_true rfl) ?_
  refine W.eq (g2 := F0 m 4 ls []) rfl ?_
  refine lv_aload_n hx hb dX2_init_4 rfl (lv_at hl 0 rfl) ?_
  refine lv_iconst (v := (0 : Int32)) hx hb dX2_init_5 (by decide) ?_
  refine z_put S hw F9 P9 rfl rfl 0 rfl (Nat.le_of_ble_eq_true rfl) dX2_init_6 (fun H locs hw => ?_)
  have hw : Wd D (tyA cI cJ cZ cS) A s [(a_this, .inr (2, [.int (0 : Int32), .int (0 : Int32), .int (0 : Int32), .null, .null, .null, .null, .null, .null, .null, .null]))] H locs := hw
  refine lv_aload_n hx hb dX2_init_9 rfl (lv_at hl 0 rfl) ?_
  refine lv_iconst (v := (0 : Int32)) hx hb dX2_init_10 (by decide) ?_
  refine z_put S hw F15 P15 rfl rfl 0 rfl (Nat.le_of_ble_eq_true rfl) dX2_init_11 (fun H locs hw => ?_)
  have hw : Wd D (tyA cI cJ cZ cS) A s [(a_this, .inr (2, [.int (0 : Int32), .int (0 : Int32), .int (0 : Int32), .null, .null, .null, .null, .null, .null, .null, .null]))] H locs := hw
  refine lv_aload_n hx hb dX2_init_14 rfl (lv_at hl 0 rfl) ?_
  refine lv_iconst (v := (0 : Int32)) hx hb dX2_init_15 (by decide) ?_
  refine z_put S hw F18 P18 rfl rfl 0 rfl (Nat.le_of_ble_eq_true rfl) dX2_init_16 (fun H locs hw => ?_)
  have hw : Wd D (tyA cI cJ cZ cS) A s [(a_this, .inr (2, [.int (0 : Int32), .int (0 : Int32), .int (0 : Int32), .null, .null, .null, .null, .null, .null, .null, .null]))] H locs := hw
  refine lv_aload_n hx hb dX2_init_19 rfl (lv_at hl 0 rfl) ?_
  refine lv_bipush (v := (8 : Int32)) hx hb dX2_init_20 (by decide) ?_
  refine z_newa (atype := .int) (a0 := (8, .inl (fun _ => (0 : Int32)))) (N' := 8) (ty := .int) S hw (hts (.arrayClass .int) (List.mem_of_getElem? (i := 7) rfl)) rfl 0 rfl (fun _ => rfl) (by decide) (by decide) (by decide) (Nat.le_of_ble_eq_true rfl) (Nat.le_of_ble_eq_true rfl) dX2_init_22 (fun a_n1 H hw => ?_)
  have hw : Wd D (tyA cI cJ cZ cS) A s [(a_this, .inr (2, [.int (0 : Int32), .int (0 : Int32), .int (0 : Int32), .null, .null, .null, .null, .null, .null, .null, .null])), (a_n1, .inl (cI, 8, .inl (fun _ => (0 : Int32))))] H locs := hw
  refine W.widen (k := 1) (n := 8) (Nat.le_of_ble_eq_true rfl) (Nat.le_of_ble_eq_true rfl) ?_
  refine z_putF S hin9 hw F21 P21 rfl rfl rfl 0 rfl (Nat.le_of_ble_eq_true rfl) dX2_init_24 (fun H locs hw => ?_)
  have hw : Wd D (tyA cI cJ cZ cS) A s [(a_this, .inr (2, [.int (0 : Int32), .int (0 : Int32), .int (0 : Int32), .ref a_n1, .null, .null, .null, .null, .null, .null, .null])), (a_n1, .inl (cI, 8, .inl (fun _ => (0 : Int32))))] H locs := hw
  refine lv_aload_n hx hb dX2_init_27 rfl (lv_at hl 0 rfl) ?_
  refine lv_bipush (v := (8 : Int32)) hx hb dX2_init_28 (by decide) ?_
  refine z_newa (atype := .int) (a0 := (8, .inl (fun _ => (0 : Int32)))) (N' := 8) (ty := .int) S hw (hts (.arrayClass .int) (List.mem_of_getElem? (i := 7) rfl)) rfl 0 rfl (fun _ => rfl) (by decide) (by decide) (by decide) (Nat.le_of_ble_eq_true rfl) (Nat.le_of_ble_eq_true rfl) dX2_init_30 (fun a_n2 H hw => ?_)
  have hw : Wd D (tyA cI cJ cZ cS) A s [(a_this, .inr (2, [.int (0 : Int32), .int (0 : Int32), .int (0 : Int32), .ref a_n1, .null, .null, .null, .null, .null, .null, .null])), (a_n1, .inl (cI, 8, .inl (fun _ => (0 : Int32)))), (a_n2, .inl (cI, 8, .inl (fun _ => (0 : Int32))))] H locs := hw
  refine W.widen (k := 2) (n := 16) (Nat.le_of_ble_eq_true rfl) (Nat.le_of_ble_eq_true rfl) ?_
  refine z_putF S hin9 hw F25 P25 rfl rfl rfl 0 rfl (Nat.le_of_ble_eq_true rfl) dX2_init_32 (fun H locs hw => ?_)
  have hw : Wd D (tyA cI cJ cZ cS) A s [(a_this, .inr (2, [.int (0 : Int32), .int (0 : Int32), .int (0 : Int32), .ref a_n1, .ref a_n2, .null, .null, .null, .null, .null, .null])), (a_n1, .inl (cI, 8, .inl (fun _ => (0 : Int32)))), (a_n2, .inl (cI, 8, .inl (fun _ => (0 : Int32))))] H locs := hw
  refine lv_aload_n hx hb dX2_init_35 rfl (lv_at hl 0 rfl) ?_
  refine lv_bipush (v := (8 : Int32)) hx hb dX2_init_36 (by decide) ?_
  refine z_newa (atype := .int) (a0 := (8, .inl (fun _ => (0 : Int32)))) (N' := 8) (ty := .int) S hw (hts (.arrayClass .int) (List.mem_of_getElem? (i := 7) rfl)) rfl 0 rfl (fun _ => rfl) (by decide) (by decide) (by decide) (Nat.le_of_ble_eq_true rfl) (Nat.le_of_ble_eq_true rfl) dX2_init_38 (fun a_n3 H hw => ?_)
  have hw : Wd D (tyA cI cJ cZ cS) A s [(a_this, .inr (2, [.int (0 : Int32), .int (0 : Int32), .int (0 : Int32), .ref a_n1, .ref a_n2, .null, .null, .null, .null, .null, .null])), (a_n1, .inl (cI, 8, .inl (fun _ => (0 : Int32)))), (a_n2, .inl (cI, 8, .inl (fun _ => (0 : Int32)))), (a_n3, .inl (cI, 8, .inl (fun _ => (0 : Int32))))] H locs := hw
  refine W.widen (k := 3) (n := 24) (Nat.le_of_ble_eq_true rfl) (Nat.le_of_ble_eq_true rfl) ?_
  refine z_putF S hin9 hw F28 P28 rfl rfl rfl 0 rfl (Nat.le_of_ble_eq_true rfl) dX2_init_40 (fun H locs hw => ?_)
  have hw : Wd D (tyA cI cJ cZ cS) A s [(a_this, .inr (2, [.int (0 : Int32), .int (0 : Int32), .int (0 : Int32), .ref a_n1, .ref a_n2, .ref a_n3, .null, .null, .null, .null, .null])), (a_n1, .inl (cI, 8, .inl (fun _ => (0 : Int32)))), (a_n2, .inl (cI, 8, .inl (fun _ => (0 : Int32)))), (a_n3, .inl (cI, 8, .inl (fun _ => (0 : Int32))))] H locs := hw
  refine lv_aload_n hx hb dX2_init_43 rfl (lv_at hl 0 rfl) ?_
  refine lv_iconst (v := (4 : Int32)) hx hb dX2_init_44 (by decide) ?_
  refine z_newa (atype := .int) (a0 := (4, .inl (fun _ => (0 : Int32)))) (N' := 4) (ty := .int) S hw (hts (.arrayClass .int) (List.mem_of_getElem? (i := 7) rfl)) rfl 0 rfl (fun _ => rfl) (by decide) (by decide) (by decide) (Nat.le_of_ble_eq_true rfl) (Nat.le_of_ble_eq_true rfl) dX2_init_45 (fun a_n4 H hw => ?_)
  have hw : Wd D (tyA cI cJ cZ cS) A s [(a_this, .inr (2, [.int (0 : Int32), .int (0 : Int32), .int (0 : Int32), .ref a_n1, .ref a_n2, .ref a_n3, .null, .null, .null, .null, .null])), (a_n1, .inl (cI, 8, .inl (fun _ => (0 : Int32)))), (a_n2, .inl (cI, 8, .inl (fun _ => (0 : Int32)))), (a_n3, .inl (cI, 8, .inl (fun _ => (0 : Int32)))), (a_n4, .inl (cI, 4, .inl (fun _ => (0 : Int32))))] H locs := hw
  refine W.widen (k := 4) (n := 28) (Nat.le_of_ble_eq_true rfl) (Nat.le_of_ble_eq_true rfl) ?_
  refine z_putF S hin9 hw F31 P31 rfl rfl rfl 0 rfl (Nat.le_of_ble_eq_true rfl) dX2_init_47 (fun H locs hw => ?_)
  have hw : Wd D (tyA cI cJ cZ cS) A s [(a_this, .inr (2, [.int (0 : Int32), .int (0 : Int32), .int (0 : Int32), .ref a_n1, .ref a_n2, .ref a_n3, .ref a_n4, .null, .null, .null, .null])), (a_n1, .inl (cI, 8, .inl (fun _ => (0 : Int32)))), (a_n2, .inl (cI, 8, .inl (fun _ => (0 : Int32)))), (a_n3, .inl (cI, 8, .inl (fun _ => (0 : Int32)))), (a_n4, .inl (cI, 4, .inl (fun _ => (0 : Int32))))] H locs := hw
  refine lv_aload_n hx hb dX2_init_50 rfl (lv_at hl 0 rfl) ?_
  refine lv_bipush (v := (55 : Int32)) hx hb dX2_init_51 (by decide) ?_
  refine z_newa (atype := .int) (a0 := (55, .inl (fun _ => (0 : Int32)))) (N' := 55) (ty := .int) S hw (hts (.arrayClass .int) (List.mem_of_getElem? (i := 7) rfl)) rfl 0 rfl (fun _ => rfl) (by decide) (by decide) (by decide) (Nat.le_of_ble_eq_true rfl) (Nat.le_of_ble_eq_true rfl) dX2_init_53 (fun a_n5 H hw => ?_)
  have hw : Wd D (tyA cI cJ cZ cS) A s [(a_this, .inr (2, [.int (0 : Int32), .int (0 : Int32), .int (0 : Int32), .ref a_n1, .ref a_n2, .ref a_n3, .ref a_n4, .null, .null, .null, .null])), (a_n1, .inl (cI, 8, .inl (fun _ => (0 : Int32)))), (a_n2, .inl (cI, 8, .inl (fun _ => (0 : Int32)))), (a_n3, .inl (cI, 8, .inl (fun _ => (0 : Int32)))), (a_n4, .inl (cI, 4, .inl (fun _ => (0 : Int32)))), (a_n5, .inl (cI, 55, .inl (fun _ => (0 : Int32))))] H locs := hw
  refine W.widen (k := 5) (n := 83) (Nat.le_of_ble_eq_true rfl) (Nat.le_of_ble_eq_true rfl) ?_
  refine z_putF S hin9 hw F34 P34 rfl rfl rfl 0 rfl (Nat.le_of_ble_eq_true rfl) dX2_init_55 (fun H locs hw => ?_)
  have hw : Wd D (tyA cI cJ cZ cS) A s [(a_this, .inr (2, [.int (0 : Int32), .int (0 : Int32), .int (0 : Int32), .ref a_n1, .ref a_n2, .ref a_n3, .ref a_n4, .ref a_n5, .null, .null, .null])), (a_n1, .inl (cI, 8, .inl (fun _ => (0 : Int32)))), (a_n2, .inl (cI, 8, .inl (fun _ => (0 : Int32)))), (a_n3, .inl (cI, 8, .inl (fun _ => (0 : Int32)))), (a_n4, .inl (cI, 4, .inl (fun _ => (0 : Int32)))), (a_n5, .inl (cI, 55, .inl (fun _ => (0 : Int32))))] H locs := hw
  refine lv_aload_n hx hb dX2_init_58 rfl (lv_at hl 0 rfl) ?_
  refine lv_bipush (v := (55 : Int32)) hx hb dX2_init_59 (by decide) ?_
  refine z_newa (atype := .int) (a0 := (55, .inl (fun _ => (0 : Int32)))) (N' := 55) (ty := .int) S hw (hts (.arrayClass .int) (List.mem_of_getElem? (i := 7) rfl)) rfl 0 rfl (fun _ => rfl) (by decide) (by decide) (by decide) (Nat.le_of_ble_eq_true rfl) (Nat.le_of_ble_eq_true rfl) dX2_init_61 (fun a_n6 H hw => ?_)
  have hw : Wd D (tyA cI cJ cZ cS) A s [(a_this, .inr (2, [.int (0 : Int32), .int (0 : Int32), .int (0 : Int32), .ref a_n1, .ref a_n2, .ref a_n3, .ref a_n4, .ref a_n5, .null, .null, .null])), (a_n1, .inl (cI, 8, .inl (fun _ => (0 : Int32)))), (a_n2, .inl (cI, 8, .inl (fun _ => (0 : Int32)))), (a_n3, .inl (cI, 8, .inl (fun _ => (0 : Int32)))), (a_n4, .inl (cI, 4, .inl (fun _ => (0 : Int32)))), (a_n5, .inl (cI, 55, .inl (fun _ => (0 : Int32)))), (a_n6, .inl (cI, 55, .inl (fun _ => (0 : Int32))))] H locs := hw
  refine W.widen (k := 6) (n := 138) (Nat.le_of_ble_eq_true rfl) (Nat.le_of_ble_eq_true rfl) ?_
  refine z_putF S hin9 hw F37 P37 rfl rfl rfl 0 rfl (Nat.le_of_ble_eq_true rfl) dX2_init_63 (fun H locs hw => ?_)
  have hw : Wd D (tyA cI cJ cZ cS) A s [(a_this, .inr (2, [.int (0 : Int32), .int (0 : Int32), .int (0 : Int32), .ref a_n1, .ref a_n2, .ref a_n3, .ref a_n4, .ref a_n5, .ref a_n6, .null, .null])), (a_n1, .inl (cI, 8, .inl (fun _ => (0 : Int32)))), (a_n2, .inl (cI, 8, .inl (fun _ => (0 : Int32)))), (a_n3, .inl (cI, 8, .inl (fun _ => (0 : Int32)))), (a_n4, .inl (cI, 4, .inl (fun _ => (0 : Int32)))), (a_n5, .inl (cI, 55, .inl (fun _ => (0 : Int32)))), (a_n6, .inl (cI, 55, .inl (fun _ => (0 : Int32))))] H locs := hw
  refine lv_aload_n hx hb dX2_init_66 rfl (lv_at hl 0 rfl) ?_
  refine lv_sipush (v := (440 : Int32)) hx hb dX2_init_67 (by decide) ?_
  refine z_newa (atype := .int) (a0 := (440, .inl (fun _ => (0 : Int32)))) (N' := 440) (ty := .int) S hw (hts (.arrayClass .int) (List.mem_of_getElem? (i := 7) rfl)) rfl 0 rfl (fun _ => rfl) (by decide) (by decide) (by decide) (Nat.le_of_ble_eq_true rfl) (Nat.le_of_ble_eq_true rfl) dX2_init_70 (fun a_n7 H hw => ?_)
  have hw : Wd D (tyA cI cJ cZ cS) A s [(a_this, .inr (2, [.int (0 : Int32), .int (0 : Int32), .int (0 : Int32), .ref a_n1, .ref a_n2, .ref a_n3, .ref a_n4, .ref a_n5, .ref a_n6, .null, .null])), (a_n1, .inl (cI, 8, .inl (fun _ => (0 : Int32)))), (a_n2, .inl (cI, 8, .inl (fun _ => (0 : Int32)))), (a_n3, .inl (cI, 8, .inl (fun _ => (0 : Int32)))), (a_n4, .inl (cI, 4, .inl (fun _ => (0 : Int32)))), (a_n5, .inl (cI, 55, .inl (fun _ => (0 : Int32)))), (a_n6, .inl (cI, 55, .inl (fun _ => (0 : Int32)))), (a_n7, .inl (cI, 440, .inl (fun _ => (0 : Int32))))] H locs := hw
  refine W.widen (k := 7) (n := 578) (Nat.le_of_ble_eq_true rfl) (Nat.le_of_ble_eq_true rfl) ?_
  refine z_putF S hin9 hw F40 P40 rfl rfl rfl 0 rfl (Nat.le_of_ble_eq_true rfl) dX2_init_72 (fun H locs hw => ?_)
  have hw : Wd D (tyA cI cJ cZ cS) A s [(a_this, .inr (2, [.int (0 : Int32), .int (0 : Int32), .int (0 : Int32), .ref a_n1, .ref a_n2, .ref a_n3, .ref a_n4, .ref a_n5, .ref a_n6, .ref a_n7, .null])), (a_n1, .inl (cI, 8, .inl (fun _ => (0 : Int32)))), (a_n2, .inl (cI, 8, .inl (fun _ => (0 : Int32)))), (a_n3, .inl (cI, 8, .inl (fun _ => (0 : Int32)))), (a_n4, .inl (cI, 4, .inl (fun _ => (0 : Int32)))), (a_n5, .inl (cI, 55, .inl (fun _ => (0 : Int32)))), (a_n6, .inl (cI, 55, .inl (fun _ => (0 : Int32)))), (a_n7, .inl (cI, 440, .inl (fun _ => (0 : Int32))))] H locs := hw
  refine lv_aload_n hx hb dX2_init_75 rfl (lv_at hl 0 rfl) ?_
  refine lv_bipush (v := (55 : Int32)) hx hb dX2_init_76 (by decide) ?_
  refine z_newa (atype := .int) (a0 := (55, .inl (fun _ => (0 : Int32)))) (N' := 55) (ty := .int) S hw (hts (.arrayClass .int) (List.mem_of_getElem? (i := 7) rfl)) rfl 0 rfl (fun _ => rfl) (by decide) (by decide) (by decide) (Nat.le_of_ble_eq_true rfl) (Nat.le_of_ble_eq_true rfl) dX2_init_78 (fun a_n8 H hw => ?_)
  have hw : Wd D (tyA cI cJ cZ cS) A s [(a_this, .inr (2, [.int (0 : Int32), .int (0 : Int32), .int (0 : Int32), .ref a_n1, .ref a_n2, .ref a_n3, .ref a_n4, .ref a_n5, .ref a_n6, .ref a_n7, .null])), (a_n1, .inl (cI, 8, .inl (fun _ => (0 : Int32)))), (a_n2, .inl (cI, 8, .inl (fun _ => (0 : Int32)))), (a_n3, .inl (cI, 8, .inl (fun _ => (0 : Int32)))), (a_n4, .inl (cI, 4, .inl (fun _ => (0 : Int32)))), (a_n5, .inl (cI, 55, .inl (fun _ => (0 : Int32)))), (a_n6, .inl (cI, 55, .inl (fun _ => (0 : Int32)))), (a_n7, .inl (cI, 440, .inl (fun _ => (0 : Int32)))), (a_n8, .inl (cI, 55, .inl (fun _ => (0 : Int32))))] H locs := hw
  refine W.widen (k := 8) (n := 633) (Nat.le_of_ble_eq_true rfl) (Nat.le_of_ble_eq_true rfl) ?_
  refine z_putF S hin9 hw F43 P43 rfl rfl rfl 0 rfl (Nat.le_of_ble_eq_true rfl) dX2_init_80 (fun H locs hw => ?_)
  have hw : Wd D (tyA cI cJ cZ cS) A s [(a_this, .inr (2, [.int (0 : Int32), .int (0 : Int32), .int (0 : Int32), .ref a_n1, .ref a_n2, .ref a_n3, .ref a_n4, .ref a_n5, .ref a_n6, .ref a_n7, .ref a_n8])), (a_n1, .inl (cI, 8, .inl (fun _ => (0 : Int32)))), (a_n2, .inl (cI, 8, .inl (fun _ => (0 : Int32)))), (a_n3, .inl (cI, 8, .inl (fun _ => (0 : Int32)))), (a_n4, .inl (cI, 4, .inl (fun _ => (0 : Int32)))), (a_n5, .inl (cI, 55, .inl (fun _ => (0 : Int32)))), (a_n6, .inl (cI, 55, .inl (fun _ => (0 : Int32)))), (a_n7, .inl (cI, 440, .inl (fun _ => (0 : Int32)))), (a_n8, .inl (cI, 55, .inl (fun _ => (0 : Int32))))] H locs := hw
  refine W.widen (k := 8) (n := 633) (Nat.le_of_ble_eq_true rfl) (Nat.le_of_ble_eq_true rfl) ?_
  exact z_vretN (w' := [(a_this, .inr (2, [.int (0 : Int32), .int (0 : Int32), .int (0 : Int32), .ref a_n1, .ref a_n2, .ref a_n3, .ref a_n4, .ref a_n5, .ref a_n6, .ref a_n7, .ref a_n8])), (a_n1, .inl (cI, 8, .inl (fun _ => (0 : Int32)))), (a_n2, .inl (cI, 8, .inl (fun _ => (0 : Int32)))), (a_n3, .inl (cI, 8, .inl (fun _ => (0 : Int32)))), (a_n4, .inl (cI, 4, .inl (fun _ => (0 : Int32)))), (a_n5, .inl (cI, 55, .inl (fun _ => (0 : Int32)))), (a_n6, .inl (cI, 55, .inl (fun _ => (0 : Int32)))), (a_n7, .inl (cI, 440, .inl (fun _ => (0 : Int32)))), (a_n8, .inl (cI, 55, .inl (fun _ => (0 : Int32))))]) S hQ hr hw [0, 1, 2, 3, 4, 5, 6, 7, 8] rfl rfl ⟨a_n1, a_n2, a_n3, a_n4, a_n5, a_n6, a_n7, a_n8, rfl⟩ dX2_init_83
