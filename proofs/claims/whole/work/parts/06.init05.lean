abbrev rmX6_init : Room := { frames := 1, cells := 3, slots := 18, locals := 12 }
theorem di_X6_init : yX6_init.cls ≠ "java/lang/invoke/MethodHandle" ∧ yX6_init.cls ≠ "java/lang/invoke/VarHandle" ∧ (parseMethodDescriptor yX6_init.desc).map (fun d => d.parameters.length) = some 0 := by decide +kernel
abbrev pw_X6_init (cI cJ cZ cS : ClassId) (a_this : Nat) (w9 : va_W) : Prop := ∃ a_n1 a_n2 a_n3 : Nat, w9 = [(a_this, .inr (6, [.ref a_n1, .ref a_n2, .ref a_n3, .int (0 : Int32)])), (a_n1, .inl (cI, 6, .inl (fun _ => (0 : Int32)))), (a_n2, .inl (cI, 6, .inl (fun _ => (0 : Int32)))), (a_n3, .inl (cI, 6, .inl (fun _ => (0 : Int32))))]
set_option maxHeartbeats 4000000 in
set_option maxRecDepth 100000 in
theorem c_X6_init (l : Launch) (D : va_G) (cI cJ cZ cS : ClassId) (sz : Nat) (a_this : Nat) : MetN l yX6_init wsX6_init rmX6_init D (tyA cI cJ cZ cS) [(a_this, .inr (6, [.null, .null, .null, .int (0 : Int32)]))] sz [.ref a_this] (pw_X6_init cI cJ cZ cS a_this) 3 18 := by
  refine entN (cc := cX6_init) (maxL := 1) (own := RX6) (by decide) rfl rfl rfl (Nat.le_of_ble_eq_true rfl) ?_
  intro p e s m args below meth c A ls Q S hin9 hr hE hw hl hQ
  have hx := S.1.1
  have hb := S.1.2.1
  have hts := S.1.2.2.2.2
  have hl : lv_has ls 1 [(0, .ref a_this)] := hl
  obtain ⟨H, eH⟩ : ∃ H : Heap, H = s.heap := ⟨_, rfl⟩
  rw [← eH]
  have hw : Wd D (tyA cI cJ cZ cS) A s [(a_this, .inr (6, [.null, .null, .null, .int (0 : Int32)]))] H [] := by rw [eH]; exact hw
  have hinX6 : ∀ w ∈ u_ws RX6 TX6 4, w ∈ wsX6_init := (fun _ h => List.mem_cons_of_mem _ (List.mem_append_right _ h))
  have F9 : FLk s args wsX6_init RX6 9 RX6 TX6 4 6 0 := ⟨hinX6, rfl, by decide, hts (.fieldLink RX6 9 "SlowPaths$Sightings" "pairs" "[I") (List.mem_of_getElem? (i := 5) rfl)⟩
  have F15 : FLk s args wsX6_init RX6 15 RX6 TX6 4 6 1 := ⟨hinX6, rfl, by decide, hts (.fieldLink RX6 15 "SlowPaths$Sightings" "times" "[I") (List.mem_of_getElem? (i := 6) rfl)⟩
  have F18 : FLk s args wsX6_init RX6 18 RX6 TX6 4 6 2 := ⟨hinX6, rfl, by decide, hts (.fieldLink RX6 18 "SlowPaths$Sightings" "lates" "[I") (List.mem_of_getElem? (i := 7) rfl)⟩
  have F21 : FLk s args wsX6_init RX6 21 RX6 TX6 4 6 3 := ⟨hinX6, rfl, by decide, hts (.fieldLink RX6 21 "SlowPaths$Sightings" "size" "I") (List.mem_of_getElem? (i := 8) rfl)⟩
  have P9 : PLk TX6 4 0 tyX6 true (.array .int) := ⟨tyX6_ok, nmX6, rfl, rfl⟩
  have P15 : PLk TX6 4 1 tyX6 true (.array .int) := ⟨tyX6_ok, nmX6, rfl, rfl⟩
  have P18 : PLk TX6 4 2 tyX6 true (.array .int) := ⟨tyX6_ok, nmX6, rfl, rfl⟩
  have P21 : PLk TX6 4 3 tyX6 false .int := ⟨tyX6_ok, nmX6, rfl, rfl⟩
  refine lv_aload_n hx hb dX6_init_0 rfl (lv_at hl 0 rfl) ?_
  refine W.objInit hx hb S.1.2.2.2.1 (hts (.methodLink RX6 3 objectInit) (List.mem_of_getElem? (i := 1) rfl)) (hts (.instanceMethod objectInit) (List.mem_of_getElem? (i := 2) rfl)) (hts (.code objectInit ⟨#[0xb1]⟩ 1 none) (List.mem_of_getElem? (i := 3) rfl)) rfl (by rw [S.1.2.2.1]; exact hl.1) rfl dX6_init_1 (Nat.le_of_ble_eq_true rfl) (Nat.le_of_ble_eq_true rfl) ?_
  refine W.eq (g2 := F0 m 4 ls []) rfl ?_
  refine lv_aload_n hx hb dX6_init_4 rfl (lv_at hl 0 rfl) ?_
  refine lv_bipush (v := (6 : Int32)) hx hb dX6_init_5 (by decide) ?_
  refine z_newa (atype := .int) (a0 := (6, .inl (fun _ => (0 : Int32)))) (N' := 6) (ty := .int) S hw (hts (.arrayClass .int) (List.mem_of_getElem? (i := 4) rfl)) rfl 0 rfl (fun _ => rfl) (by decide) (by decide) (by decide) (Nat.le_of_ble_eq_true rfl) (Nat.le_of_ble_eq_true rfl) dX6_init_7 (fun a_n1 H hw => ?_)
  have hw : Wd D (tyA cI cJ cZ cS) A s [(a_this, .inr (6, [.null, .null, .null, .int (0 : Int32)])), (a_n1, .inl (cI, 6, .inl (fun _ => (0 : Int32))))] H [] := hw
  refine W.widen (k := 1) (n := 6) (Nat.le_of_ble_eq_true rfl) (Nat.le_of_ble_eq_true rfl) ?_
  refine z_putF S hin9 hw F9 P9 rfl rfl rfl 0 rfl (Nat.le_of_ble_eq_true rfl) dX6_init_9 (fun H locs hw => ?_)
  have hw : Wd D (tyA cI cJ cZ cS) A s [(a_this, .inr (6, [.ref a_n1, .null, .null, .int (0 : Int32)])), (a_n1, .inl (cI, 6, .inl (fun _ => (0 : Int32))))] H locs := hw
  refine lv_aload_n hx hb dX6_init_12 rfl (lv_at hl 0 rfl) ?_
  refine lv_bipush (v := (6 : Int32)) hx hb dX6_init_13 (by decide) ?_
  refine z_newa (atype := .int) (a0 := (6, .inl (fun _ => (0 : Int32)))) (N' := 6) (ty := .int) S hw (hts (.arrayClass .int) (List.mem_of_getElem? (i := 4) rfl)) rfl 0 rfl (fun _ => rfl) (by decide) (by decide) (by decide) (Nat.le_of_ble_eq_true rfl) (Nat.le_of_ble_eq_true rfl) dX6_init_15 (fun a_n2 H hw => ?_)
  have hw : Wd D (tyA cI cJ cZ cS) A s [(a_this, .inr (6, [.ref a_n1, .null, .null, .int (0 : Int32)])), (a_n1, .inl (cI, 6, .inl (fun _ => (0 : Int32)))), (a_n2, .inl (cI, 6, .inl (fun _ => (0 : Int32))))] H locs := hw
  refine W.widen (k := 2) (n := 12) (Nat.le_of_ble_eq_true rfl) (Nat.le_of_ble_eq_true rfl) ?_
  refine z_putF S hin9 hw F15 P15 rfl rfl rfl 0 rfl (Nat.le_of_ble_eq_true rfl) dX6_init_17 (fun H locs hw => ?_)
  have hw : Wd D (tyA cI cJ cZ cS) A s [(a_this, .inr (6, [.ref a_n1, .ref a_n2, .null, .int (0 : Int32)])), (a_n1, .inl (cI, 6, .inl (fun _ => (0 : Int32)))), (a_n2, .inl (cI, 6, .inl (fun _ => (0 : Int32))))] H locs := hw
  refine lv_aload_n hx hb dX6_init_20 rfl (lv_at hl 0 rfl) ?_
  refine lv_bipush (v := (6 : Int32)) hx hb dX6_init_21 (by decide) ?_
  refine z_newa (atype := .int) (a0 := (6, .inl (fun _ => (0 : Int32)))) (N' := 6) (ty := .int) S hw (hts (.arrayClass .int) (List.mem_of_getElem? (i := 4) rfl)) rfl 0 rfl (fun _ => rfl) (by decide) (by decide) (by decide) (Nat.le_of_ble_eq_true rfl) (Nat.le_of_ble_eq_true rfl) dX6_init_23 (fun a_n3 H hw => ?_)
  have hw : Wd D (tyA cI cJ cZ cS) A s [(a_this, .inr (6, [.ref a_n1, .ref a_n2, .null, .int (0 : Int32)])), (a_n1, .inl (cI, 6, .inl (fun _ => (0 : Int32)))), (a_n2, .inl (cI, 6, .inl (fun _ => (0 : Int32)))), (a_n3, .inl (cI, 6, .inl (fun _ => (0 : Int32))))] H locs := hw
  refine W.widen (k := 3) (n := 18) (Nat.le_of_ble_eq_true rfl) (Nat.le_of_ble_eq_true rfl) ?_
  refine z_putF S hin9 hw F18 P18 rfl rfl rfl 0 rfl (Nat.le_of_ble_eq_true rfl) dX6_init_25 (fun H locs hw => ?_)
  have hw : Wd D (tyA cI cJ cZ cS) A s [(a_this, .inr (6, [.ref a_n1, .ref a_n2, .ref a_n3, .int (0 : Int32)])), (a_n1, .inl (cI, 6, .inl (fun _ => (0 : Int32)))), (a_n2, .inl (cI, 6, .inl (fun _ => (0 : Int32)))), (a_n3, .inl (cI, 6, .inl (fun _ => (0 : Int32))))] H locs := hw
  refine lv_aload_n hx hb dX6_init_28 rfl (lv_at hl 0 rfl) ?_
  refine lv_iconst (v := (0 : Int32)) hx hb dX6_init_29 (by decide) ?_
  refine z_put S hw F21 P21 rfl rfl 0 rfl (Nat.le_of_ble_eq_true rfl) dX6_init_30 (fun H locs hw => ?_)
  have hw : Wd D (tyA cI cJ cZ cS) A s [(a_this, .inr (6, [.ref a_n1, .ref a_n2, .ref a_n3, .int (0 : Int32)])), (a_n1, .inl (cI, 6, .inl (fun _ => (0 : Int32)))), (a_n2, .inl (cI, 6, .inl (fun _ => (0 : Int32)))), (a_n3, .inl (cI, 6, .inl (fun _ => (0 : Int32))))] H locs := hw
  refine W.widen (k := 3) (n := 18) (Nat.le_of_ble_eq_true rfl) (Nat.le_of_ble_eq_true rfl) ?_
  exact z_vretN (w' := [(a_this, .inr (6, [.ref a_n1, .ref a_n2, .ref a_n3, .int (0 : Int32)])), (a_n1, .inl (cI, 6, .inl (fun _ => (0 : Int32)))), (a_n2, .inl (cI, 6, .inl (fun _ => (0 : Int32)))), (a_n3, .inl (cI, 6, .inl (fun _ => (0 : Int32))))]) S hQ hr hw [0, 1, 2, 3] rfl rfl ⟨a_n1, a_n2, a_n3, rfl⟩ dX6_init_33
