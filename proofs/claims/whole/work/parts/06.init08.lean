abbrev rmX3_init : Room := { frames := 2, cells := 6, slots := 805, locals := 32 }
theorem di_X3_init : yX3_init.cls ≠ "java/lang/invoke/MethodHandle" ∧ yX3_init.cls ≠ "java/lang/invoke/VarHandle" ∧ (parseMethodDescriptor yX3_init.desc).map (fun d => d.parameters.length) = some 0 := by decide +kernel
abbrev pw_X3_init (cI cJ cZ cS : ClassId) (a_this : Nat) (w9 : va_W) : Prop := ∃ a_n1 a_n2 a_n3 a_n4 a_n5 a_n6 : Nat, w9 = [(a_this, .inr (3, [.ref a_n1, .ref a_n3, .ref a_n4, .ref a_n5, .ref a_n6, .int (-1 : Int32)])), (a_n1, .inr (1, [.ref a_n2, .int (0 : Int32), .int (0 : Int32)])), (a_n2, .inl (cI, 18, .inl (fun _ => (0 : Int32)))), (a_n3, .inl (cI, 256, .inl (fun _ => (0 : Int32)))), (a_n4, .inl (cJ, 256, .inr (.inl (fun _ => (0 : Int64))))), (a_n5, .inl (cJ, 256, .inr (.inl (fun _ => (0 : Int64))))), (a_n6, .inl (cI, 16, .inl (fun _ => (0 : Int32))))]
set_option maxHeartbeats 4000000 in
set_option maxRecDepth 100000 in
theorem c_X3_init (l : Launch) (D : va_G) (cI cJ cZ cS : ClassId) (sz : Nat) (a_this : Nat) : MetN l yX3_init wsX3_init rmX3_init D (tyA cI cJ cZ cS) [(a_this, .inr (3, [.null, .null, .null, .null, .null, .int (0 : Int32)]))] sz [.ref a_this] (pw_X3_init cI cJ cZ cS a_this) 6 805 := by
  refine entN (cc := cX3_init) (maxL := 1) (own := RX3) (by decide) rfl rfl rfl (Nat.le_of_ble_eq_true rfl) ?_
  intro p e s m args below meth c A ls Q S hin9 hr hE hw hl hQ
  have hx := S.1.1
  have hb := S.1.2.1
  have hts := S.1.2.2.2.2
  have hl : lv_has ls 1 [(0, .ref a_this)] := hl
  obtain ⟨H, eH⟩ : ∃ H : Heap, H = s.heap := ⟨_, rfl⟩
  rw [← eH]
  have hw : Wd D (tyA cI cJ cZ cS) A s [(a_this, .inr (3, [.null, .null, .null, .null, .null, .int (0 : Int32)]))] H [] := by rw [eH]; exact hw
  have hinX1 : ∀ w ∈ u_ws RX1 TX1 3, w ∈ wsX3_init := (fun _ h => List.mem_cons_of_mem _ (List.mem_append_left _ (List.mem_append_right _ h)))
  have hinX3 : ∀ w ∈ u_ws RX3 TX3 6, w ∈ wsX3_init := (fun _ h => List.mem_cons_of_mem _ (List.mem_append_right _ h))
  have F12 : FLk s args wsX3_init RX3 12 RX3 TX3 6 3 0 := ⟨hinX3, rfl, by decide, hts (.fieldLink RX3 12 "SlowPaths$PairTable" "levels" "LSlowPaths$Levels;") (List.mem_of_getElem? (i := 7) rfl)⟩
  have F18 : FLk s args wsX3_init RX3 18 RX3 TX3 6 3 1 := ⟨hinX3, rfl, by decide, hts (.fieldLink RX3 18 "SlowPaths$PairTable" "sureLinks" "[I") (List.mem_of_getElem? (i := 9) rfl)⟩
  have F22 : FLk s args wsX3_init RX3 22 RX3 TX3 6 3 2 := ⟨hinX3, rfl, by decide, hts (.fieldLink RX3 22 "SlowPaths$PairTable" "risers" "[J") (List.mem_of_getElem? (i := 11) rfl)⟩
  have F26 : FLk s args wsX3_init RX3 26 RX3 TX3 6 3 3 := ⟨hinX3, rfl, by decide, hts (.fieldLink RX3 26 "SlowPaths$PairTable" "fallers" "[J") (List.mem_of_getElem? (i := 12) rfl)⟩
  have F29 : FLk s args wsX3_init RX3 29 RX3 TX3 6 3 4 := ⟨hinX3, rfl, by decide, hts (.fieldLink RX3 29 "SlowPaths$PairTable" "captured" "[I") (List.mem_of_getElem? (i := 13) rfl)⟩
  have F32 : FLk s args wsX3_init RX3 32 RX3 TX3 6 3 5 := ⟨hinX3, rfl, by decide, hts (.fieldLink RX3 32 "SlowPaths$PairTable" "madeFor" "I") (List.mem_of_getElem? (i := 14) rfl)⟩
  have P12 : PLk TX3 6 0 tyX3 true (.object "SlowPaths$Levels") := ⟨tyX3_ok, nmX3, rfl, rfl⟩
  have P18 : PLk TX3 6 1 tyX3 true (.array .int) := ⟨tyX3_ok, nmX3, rfl, rfl⟩
  have P22 : PLk TX3 6 2 tyX3 true (.array .long) := ⟨tyX3_ok, nmX3, rfl, rfl⟩
  have P26 : PLk TX3 6 3 tyX3 true (.array .long) := ⟨tyX3_ok, nmX3, rfl, rfl⟩
  have P29 : PLk TX3 6 4 tyX3 true (.array .int) := ⟨tyX3_ok, nmX3, rfl, rfl⟩
  have P32 : PLk TX3 6 5 tyX3 false .int := ⟨tyX3_ok, nmX3, rfl, rfl⟩
  refine lv_aload_n hx hb dX3_init_0 rfl (lv_at hl 0 rfl) ?_
  refine W.objInit hx hb S.1.2.2.2.1 (hts (.methodLink RX3 3 objectInit) (List.mem_of_getElem? (i := 1) rfl)) (hts (.instanceMethod objectInit) (List.mem_of_getElem? (i := 2) rfl)) (hts (.code objectInit ⟨#[0xb1]⟩ 1 none) (List.mem_of_getElem? (i := 3) rfl)) rfl (by rw [S.1.2.2.1]; exact hl.1) rfl dX3_init_1 (Nat.le_of_ble_eq_true rfl) (Nat.le_of_ble_eq_true rfl) ?_
  refine W.eq (g2 := F0 m 4 ls []) rfl ?_
  refine lv_aload_n hx hb dX3_init_4 rfl (lv_at hl 0 rfl) ?_
  refine z_new (ci := 1) (fs := [.null, .int (0 : Int32), .int (0 : Int32)]) (ty0 := tyX1) (C := RX1) (T := TX1) (N := 3) S hw hinX1 tyX1_ok rfl (hts (.classLink RX3 9 RX1) (List.mem_of_getElem? (i := 4) rfl)) (hts (.instantiable RX1 3) (List.mem_of_getElem? (i := 5) rfl)) (hts (.initialized RX1) (List.mem_of_getElem? (i := 6) rfl)) (fun j hj => by rcases (show j = 0 ∨ j = 1 ∨ j = 2 by omega) with rfl | rfl | rfl <;> rfl) (Nat.le_of_ble_eq_true rfl) (Nat.le_of_ble_eq_true rfl) dX3_init_5 (fun a_n1 H hw => ?_)
  have hw : Wd D (tyA cI cJ cZ cS) A s [(a_this, .inr (3, [.null, .null, .null, .null, .null, .int (0 : Int32)])), (a_n1, .inr (1, [.null, .int (0 : Int32), .int (0 : Int32)]))] H [] := hw
  refine W.widen (k := 1) (n := 3) (Nat.le_of_ble_eq_true rfl) (Nat.le_of_ble_eq_true rfl) ?_
  refine lv_dup hx hb dX3_init_8 rfl ?_
  refine zc_N (rest := [.ref a_n1, .ref a_this]) (wr := [(a_this, .inr (3, [.null, .null, .null, .null, .null, .int (0 : Int32)]))]) S hE hw (c_X1_init l D cI cJ cZ cS H.size a_n1) ⟨va_cnB 0 hts gX3_init_X1_init_n11 rfl rfl rfl (hE.1 nestL[6] (List.getElem_mem _)) (hts (.initialized RX1) (List.mem_of_getElem? (i := 6) rfl)) di_X1_init ⟨Nat.le_of_ble_eq_true rfl, Nat.le_of_ble_eq_true rfl⟩, rfl, (hts (.instanceMethod yX1_init) (List.mem_of_getElem? (i := 15) rfl))⟩ [1] [0] rfl rfl rfl rfl (by decide) hl.1 rfl (Nat.le_of_ble_eq_true rfl) dX3_init_9 ⟨Nat.le_of_ble_eq_true rfl, Nat.le_of_ble_eq_true rfl⟩ (fun H locs w9 hpw hw => ?_)
  obtain ⟨a_n2, rfl⟩ := hpw
  have hw : Wd D (tyA cI cJ cZ cS) A s [(a_this, .inr (3, [.null, .null, .null, .null, .null, .int (0 : Int32)])), (a_n1, .inr (1, [.ref a_n2, .int (0 : Int32), .int (0 : Int32)])), (a_n2, .inl (cI, 18, .inl (fun _ => (0 : Int32))))] H locs := hw
  refine W.widen (k := 2) (n := 21) (Nat.le_of_ble_eq_true rfl) (Nat.le_of_ble_eq_true rfl) ?_
  refine z_putF S hin9 hw F12 P12 rfl rfl rfl 0 rfl (Nat.le_of_ble_eq_true rfl) dX3_init_12 (fun H locs hw => ?_)
  have hw : Wd D (tyA cI cJ cZ cS) A s [(a_this, .inr (3, [.ref a_n1, .null, .null, .null, .null, .int (0 : Int32)])), (a_n1, .inr (1, [.ref a_n2, .int (0 : Int32), .int (0 : Int32)])), (a_n2, .inl (cI, 18, .inl (fun _ => (0 : Int32))))] H locs := hw
  refine lv_aload_n hx hb dX3_init_15 rfl (lv_at hl 0 rfl) ?_
  refine lv_sipush (v := (256 : Int32)) hx hb dX3_init_16 (by decide) ?_
  refine z_newa (atype := .int) (a0 := (256, .inl (fun _ => (0 : Int32)))) (N' := 256) (ty := .int) S hw (hts (.arrayClass .int) (List.mem_of_getElem? (i := 8) rfl)) rfl 0 rfl (fun _ => rfl) (by decide) (by decide) (by decide) (Nat.le_of_ble_eq_true rfl) (Nat.le_of_ble_eq_true rfl) dX3_init_19 (fun a_n3 H hw => ?_)
  have hw : Wd D (tyA cI cJ cZ cS) A s [(a_this, .inr (3, [.ref a_n1, .null, .null, .null, .null, .int (0 : Int32)])), (a_n1, .inr (1, [.ref a_n2, .int (0 : Int32), .int (0 : Int32)])), (a_n2, .inl (cI, 18, .inl (fun _ => (0 : Int32)))), (a_n3, .inl (cI, 256, .inl (fun _ => (0 : Int32))))] H locs := hw
  refine W.widen (k := 3) (n := 277) (Nat.le_of_ble_eq_true rfl) (Nat.le_of_ble_eq_true rfl) ?_
  refine z_putF S hin9 hw F18 P18 rfl rfl rfl 0 rfl (Nat.le_of_ble_eq_true rfl) dX3_init_21 (fun H locs hw => ?_)
  have hw : Wd D (tyA cI cJ cZ cS) A s [(a_this, .inr (3, [.ref a_n1, .ref a_n3, .null, .null, .null, .int (0 : Int32)])), (a_n1, .inr (1, [.ref a_n2, .int (0 : Int32), .int (0 : Int32)])), (a_n2, .inl (cI, 18, .inl (fun _ => (0 : Int32)))), (a_n3, .inl (cI, 256, .inl (fun _ => (0 : Int32))))] H locs := hw
  refine lv_aload_n hx hb dX3_init_24 rfl (lv_at hl 0 rfl) ?_
  refine lv_sipush (v := (256 : Int32)) hx hb dX3_init_25 (by decide) ?_
  refine z_newa (atype := .long) (a0 := (256, .inr (.inl (fun _ => (0 : Int64))))) (N' := 256) (ty := .long) S hw (hts (.arrayClass .long) (List.mem_of_getElem? (i := 10) rfl)) rfl 1 rfl (fun _ => rfl) (by decide) (by decide) (by decide) (Nat.le_of_ble_eq_true rfl) (Nat.le_of_ble_eq_true rfl) dX3_init_28 (fun a_n4 H hw => ?_)
  have hw : Wd D (tyA cI cJ cZ cS) A s [(a_this, .inr (3, [.ref a_n1, .ref a_n3, .null, .null, .null, .int (0 : Int32)])), (a_n1, .inr (1, [.ref a_n2, .int (0 : Int32), .int (0 : Int32)])), (a_n2, .inl (cI, 18, .inl (fun _ => (0 : Int32)))), (a_n3, .inl (cI, 256, .inl (fun _ => (0 : Int32)))), (a_n4, .inl (cJ, 256, .inr (.inl (fun _ => (0 : Int64)))))] H locs := hw
  refine W.widen (k := 4) (n := 533) (Nat.le_of_ble_eq_true rfl) (Nat.le_of_ble_eq_true rfl) ?_
  refine z_putF S hin9 hw F22 P22 rfl rfl rfl 0 rfl (Nat.le_of_ble_eq_true rfl) dX3_init_30 (fun H locs hw => ?_)
  have hw : Wd D (tyA cI cJ cZ cS) A s [(a_this, .inr (3, [.ref a_n1, .ref a_n3, .ref a_n4, .null, .null, .int (0 : Int32)])), (a_n1, .inr (1, [.ref a_n2, .int (0 : Int32), .int (0 : Int32)])), (a_n2, .inl (cI, 18, .inl (fun _ => (0 : Int32)))), (a_n3, .inl (cI, 256, .inl (fun _ => (0 : Int32)))), (a_n4, .inl (cJ, 256, .inr (.inl (fun _ => (0 : Int64)))))] H locs := hw
  refine lv_aload_n hx hb dX3_init_33 rfl (lv_at hl 0 rfl) ?_
  refine lv_sipush (v := (256 : Int32)) hx hb dX3_init_34 (by decide) ?_
  refine z_newa (atype := .long) (a0 := (256, .inr (.inl (fun _ => (0 : Int64))))) (N' := 256) (ty := .long) S hw (hts (.arrayClass .long) (List.mem_of_getElem? (i := 10) rfl)) rfl 1 rfl (fun _ => rfl) (by decide) (by decide) (by decide) (Nat.le_of_ble_eq_true rfl) (Nat.le_of_ble_eq_true rfl) dX3_init_37 (fun a_n5 H hw => ?_)
  have hw : Wd D (tyA cI cJ cZ cS) A s [(a_this, .inr (3, [.ref a_n1, .ref a_n3, .ref a_n4, .null, .null, .int (0 : Int32)])), (a_n1, .inr (1, [.ref a_n2, .int (0 : Int32), .int (0 : Int32)])), (a_n2, .inl (cI, 18, .inl (fun _ => (0 : Int32)))), (a_n3, .inl (cI, 256, .inl (fun _ => (0 : Int32)))), (a_n4, .inl (cJ, 256, .inr (.inl (fun _ => (0 : Int64))))), (a_n5, .inl (cJ, 256, .inr (.inl (fun _ => (0 : Int64)))))] H locs := hw
  refine W.widen (k := 5) (n := 789) (Nat.le_of_ble_eq_true rfl) (Nat.le_of_ble_eq_true rfl) ?_
  refine z_putF S hin9 hw F26 P26 rfl rfl rfl 0 rfl (Nat.le_of_ble_eq_true rfl) dX3_init_39 (fun H locs hw => ?_)
  have hw : Wd D (tyA cI cJ cZ cS) A s [(a_this, .inr (3, [.ref a_n1, .ref a_n3, .ref a_n4, .ref a_n5, .null, .int (0 : Int32)])), (a_n1, .inr (1, [.ref a_n2, .int (0 : Int32), .int (0 : Int32)])), (a_n2, .inl (cI, 18, .inl (fun _ => (0 : Int32)))), (a_n3, .inl (cI, 256, .inl (fun _ => (0 : Int32)))), (a_n4, .inl (cJ, 256, .inr (.inl (fun _ => (0 : Int64))))), (a_n5, .inl (cJ, 256, .inr (.inl (fun _ => (0 : Int64)))))] H locs := hw
  refine lv_aload_n hx hb dX3_init_42 rfl (lv_at hl 0 rfl) ?_
  refine lv_bipush (v := (16 : Int32)) hx hb dX3_init_43 (by decide) ?_
  refine z_newa (atype := .int) (a0 := (16, .inl (fun _ => (0 : Int32)))) (N' := 16) (ty := .int) S hw (hts (.arrayClass .int) (List.mem_of_getElem? (i := 8) rfl)) rfl 0 rfl (fun _ => rfl) (by decide) (by decide) (by decide) (Nat.le_of_ble_eq_true rfl) (Nat.le_of_ble_eq_true rfl) dX3_init_45 (fun a_n6 H hw => ?_)
  have hw : Wd D (tyA cI cJ cZ cS) A s [(a_this, .inr (3, [.ref a_n1, .ref a_n3, .ref a_n4, .ref a_n5, .null, .int (0 : Int32)])), (a_n1, .inr (1, [.ref a_n2, .int (0 : Int32), .int (0 : Int32)])), (a_n2, .inl (cI, 18, .inl (fun _ => (0 : Int32)))), (a_n3, .inl (cI, 256, .inl (fun _ => (0 : Int32)))), (a_n4, .inl (cJ, 256, .inr (.inl (fun _ => (0 : Int64))))), (a_n5, .inl (cJ, 256, .inr (.inl (fun _ => (0 : Int64))))), (a_n6, .inl (cI, 16, .inl (fun _ => (0 : Int32))))] H locs := hw
  refine W.widen (k := 6) (n := 805) (Nat.le_of_ble_eq_true rfl) (Nat.le_of_ble_eq_true rfl) ?_
  refine z_putF S hin9 hw F29 P29 rfl rfl rfl 0 rfl (Nat.le_of_ble_eq_true rfl) dX3_init_47 (fun H locs hw => ?_)
  have hw : Wd D (tyA cI cJ cZ cS) A s [(a_this, .inr (3, [.ref a_n1, .ref a_n3, .ref a_n4, .ref a_n5, .ref a_n6, .int (0 : Int32)])), (a_n1, .inr (1, [.ref a_n2, .int (0 : Int32), .int (0 : Int32)])), (a_n2, .inl (cI, 18, .inl (fun _ => (0 : Int32)))), (a_n3, .inl (cI, 256, .inl (fun _ => (0 : Int32)))), (a_n4, .inl (cJ, 256, .inr (.inl (fun _ => (0 : Int64))))), (a_n5, .inl (cJ, 256, .inr (.inl (fun _ => (0 : Int64))))), (a_n6, .inl (cI, 16, .inl (fun _ => (0 : Int32))))] H locs := hw
  refine lv_aload_n hx hb dX3_init_50 rfl (lv_at hl 0 rfl) ?_
  refine lv_iconst (v := (-1 : Int32)) hx hb dX3_init_51 (by decide) ?_
  refine z_put S hw F32 P32 rfl rfl 0 rfl (Nat.le_of_ble_eq_true rfl) dX3_init_52 (fun H locs hw => ?_)
  have hw : Wd D (tyA cI cJ cZ cS) A s [(a_this, .inr (3, [.ref a_n1, .ref a_n3, .ref a_n4, .ref a_n5, .ref a_n6, .int (-1 : Int32)])), (a_n1, .inr (1, [.ref a_n2, .int (0 : Int32), .int (0 : Int32)])), (a_n2, .inl (cI, 18, .inl (fun _ => (0 : Int32)))), (a_n3, .inl (cI, 256, .inl (fun _ => (0 : Int32)))), (a_n4, .inl (cJ, 256, .inr (.inl (fun _ => (0 : Int64))))), (a_n5, .inl (cJ, 256, .inr (.inl (fun _ => (0 : Int64))))), (a_n6, .inl (cI, 16, .inl (fun _ => (0 : Int32))))] H locs := hw
  refine W.widen (k := 6) (n := 805) (Nat.le_of_ble_eq_true rfl) (Nat.le_of_ble_eq_true rfl) ?_
  exact z_vretN (w' := [(a_this, .inr (3, [.ref a_n1, .ref a_n3, .ref a_n4, .ref a_n5, .ref a_n6, .int (-1 : Int32)])), (a_n1, .inr (1, [.ref a_n2, .int (0 : Int32), .int (0 : Int32)])), (a_n2, .inl (cI, 18, .inl (fun _ => (0 : Int32)))), (a_n3, .inl (cI, 256, .inl (fun _ => (0 : Int32)))), (a_n4, .inl (cJ, 256, .inr (.inl (fun _ => (0 : Int64))))), (a_n5, .inl (cJ, 256, .inr (.inl (fun _ => (0 : Int64))))), (a_n6, .inl (cI, 16, .inl (fun _ => (0 : Int32))))]) S hQ hr hw [0, 1, 2, 3, 4, 5, 6] rfl rfl ⟨a_n1, a_n2, a_n3, a_n4, a_n5, a_n6, rfl⟩ dX3_init_55
