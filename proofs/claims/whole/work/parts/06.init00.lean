abbrev rmX0_init : Room := { frames := 1, cells := 3, slots := 42, locals := 12 }
theorem di_X0_init : yX0_init.cls ≠ "java/lang/invoke/MethodHandle" ∧ yX0_init.cls ≠ "java/lang/invoke/VarHandle" ∧ (parseMethodDescriptor yX0_init.desc).map (fun d => d.parameters.length) = some 0 := by decide +kernel
abbrev pw_X0_init (cI cJ cZ cS : ClassId) (a_this : Nat) (w9 : va_W) : Prop := ∃ a_n1 a_n2 a_n3 : Nat, w9 = [(a_this, .inr (0, [.ref a_n1, .ref a_n2, .ref a_n3, .int (0 : Int32)])), (a_n1, .inl (cI, 14, .inl (fun _ => (0 : Int32)))), (a_n2, .inl (cZ, 14, .inl (fun _ => (0 : Int32)))), (a_n3, .inl (cI, 14, .inl (fun _ => (0 : Int32))))]
set_option maxHeartbeats 4000000 in
set_option maxRecDepth 100000 in
theorem c_X0_init (l : Launch) (D : va_G) (cI cJ cZ cS : ClassId) (sz : Nat) (a_this : Nat) : MetN l yX0_init wsX0_init rmX0_init D (tyA cI cJ cZ cS) [(a_this, .inr (0, [.null, .null, .null, .int (0 : Int32)]))] sz [.ref a_this] (pw_X0_init cI cJ cZ cS a_this) 3 42 := by
  refine entN (cc := cX0_init) (maxL := 1) (own := RX0) (by decide) rfl rfl rfl (Nat.le_of_ble_eq_true rfl) ?_
  intro p e s m args below meth c A ls Q S hin9 hr hE hw hl hQ
  have hx := S.1.1
  have hb := S.1.2.1
  have hts := S.1.2.2.2.2
  have hl : lv_has ls 1 [(0, .ref a_this)] := hl
  obtain ⟨H, eH⟩ : ∃ H : Heap, H = s.heap := ⟨_, rfl⟩
  rw [← eH]
  have hw : Wd D (tyA cI cJ cZ cS) A s [(a_this, .inr (0, [.null, .null, .null, .int (0 : Int32)]))] H [] := by rw [eH]; exact hw
  have hinX0 : ∀ w ∈ u_ws RX0 TX0 4, w ∈ wsX0_init := (fun _ h => List.mem_cons_of_mem _ (List.mem_append_right _ h))
  have F9 : FLk s args wsX0_init RX0 9 RX0 TX0 4 0 0 := ⟨hinX0, rfl, by decide, hts (.fieldLink RX0 9 "SlowPaths$Acts" "gates" "[I") (List.mem_of_getElem? (i := 5) rfl)⟩
  have F15 : FLk s args wsX0_init RX0 15 RX0 TX0 4 0 1 := ⟨hinX0, rfl, by decide, hts (.fieldLink RX0 15 "SlowPaths$Acts" "turned" "[Z") (List.mem_of_getElem? (i := 7) rfl)⟩
  have F19 : FLk s args wsX0_init RX0 19 RX0 TX0 4 0 2 := ⟨hinX0, rfl, by decide, hts (.fieldLink RX0 19 "SlowPaths$Acts" "olds" "[I") (List.mem_of_getElem? (i := 8) rfl)⟩
  have F22 : FLk s args wsX0_init RX0 22 RX0 TX0 4 0 3 := ⟨hinX0, rfl, by decide, hts (.fieldLink RX0 22 "SlowPaths$Acts" "size" "I") (List.mem_of_getElem? (i := 9) rfl)⟩
  have P9 : PLk TX0 4 0 tyX0 true (.array .int) := ⟨tyX0_ok, nmX0, rfl, rfl⟩
  have P15 : PLk TX0 4 1 tyX0 true (.array .boolean) := ⟨tyX0_ok, nmX0, rfl, rfl⟩
  have P19 : PLk TX0 4 2 tyX0 true (.array .int) := ⟨tyX0_ok, nmX0, rfl, rfl⟩
  have P22 : PLk TX0 4 3 tyX0 false .int := ⟨tyX0_ok, nmX0, rfl, rfl⟩
  refine lv_aload_n hx hb dX0_init_0 rfl (lv_at hl 0 rfl) ?_
  refine W.objInit hx hb S.1.2.2.2.1 (hts (.methodLink RX0 3 objectInit) (List.mem_of_getElem? (i := 1) rfl)) (hts (.instanceMethod objectInit) (List.mem_of_getElem? (i := 2) rfl)) (hts (.code objectInit ⟨#[0xb1]⟩ 1 none) (List.mem_of_getElem? (i := 3) rfl)) rfl (by rw [S.1.2.2.1]; exact hl.1) rfl dX0_init_1 (Nat.le_of_ble_eq_true rfl) (Nat.le_of_ble_eq_true rfl) ?_
  refine W.eq (g2 := F0 m 4 ls []) rfl ?_
  refine lv_aload_n hx hb dX0_init_4 rfl (lv_at hl 0 rfl) ?_
  refine lv_bipush (v := (14 : Int32)) hx hb dX0_init_5 (by decide) ?_
  refine z_newa (atype := .int) (a0 := (14, .inl (fun _ => (0 : Int32)))) (N' := 14) (ty := .int) S hw (hts (.arrayClass .int) (List.mem_of_getElem? (i := 4) rfl)) rfl 0 rfl (fun _ => rfl) (by decide) (by decide) (by decide) (Nat.le_of_ble_eq_true rfl) (Nat.le_of_ble_eq_true rfl) dX0_init_7 (fun a_n1 H hw => ?_)
  have hw : Wd D (tyA cI cJ cZ cS) A s [(a_this, .inr (0, [.null, .null, .null, .int (0 : Int32)])), (a_n1, .inl (cI, 14, .inl (fun _ => (0 : Int32))))] H [] := hw
  refine W.widen (k := 1) (n := 14) (Nat.le_of_ble_eq_true rfl) (Nat.le_of_ble_eq_true rfl) ?_
  refine z_putF S hin9 hw F9 P9 rfl rfl rfl 0 rfl (Nat.le_of_ble_eq_true rfl) dX0_init_9 (fun H locs hw => ?_)
  have hw : Wd D (tyA cI cJ cZ cS) A s [(a_this, .inr (0, [.ref a_n1, .null, .null, .int (0 : Int32)])), (a_n1, .inl (cI, 14, .inl (fun _ => (0 : Int32))))] H locs := hw
  refine lv_aload_n hx hb dX0_init_12 rfl (lv_at hl 0 rfl) ?_
  refine lv_bipush (v := (14 : Int32)) hx hb dX0_init_13 (by decide) ?_
  refine z_newa (atype := .boolean) (a0 := (14, .inl (fun _ => (0 : Int32)))) (N' := 14) (ty := .boolean) S hw (hts (.arrayClass .boolean) (List.mem_of_getElem? (i := 6) rfl)) rfl 2 rfl (fun _ => rfl) (by decide) (by decide) (by decide) (Nat.le_of_ble_eq_true rfl) (Nat.le_of_ble_eq_true rfl) dX0_init_15 (fun a_n2 H hw => ?_)
  have hw : Wd D (tyA cI cJ cZ cS) A s [(a_this, .inr (0, [.ref a_n1, .null, .null, .int (0 : Int32)])), (a_n1, .inl (cI, 14, .inl (fun _ => (0 : Int32)))), (a_n2, .inl (cZ, 14, .inl (fun _ => (0 : Int32))))] H locs := hw
  refine W.widen (k := 2) (n := 28) (Nat.le_of_ble_eq_true rfl) (Nat.le_of_ble_eq_true rfl) ?_
  refine z_putF S hin9 hw F15 P15 rfl rfl rfl 0 rfl (Nat.le_of_ble_eq_true rfl) dX0_init_17 (fun H locs hw => ?_)
  have hw : Wd D (tyA cI cJ cZ cS) A s [(a_this, .inr (0, [.ref a_n1, .ref a_n2, .null, .int (0 : Int32)])), (a_n1, .inl (cI, 14, .inl (fun _ => (0 : Int32)))), (a_n2, .inl (cZ, 14, .inl (fun _ => (0 : Int32))))] H locs := hw
  refine lv_aload_n hx hb dX0_init_20 rfl (lv_at hl 0 rfl) ?_
  refine lv_bipush (v := (14 : Int32)) hx hb dX0_init_21 (by decide) ?_
  refine z_newa (atype := .int) (a0 := (14, .inl (fun _ => (0 : Int32)))) (N' := 14) (ty := .int) S hw (hts (.arrayClass .int) (List.mem_of_getElem? (i := 4) rfl)) rfl 0 rfl (fun _ => rfl) (by decide) (by decide) (by decide) (Nat.le_of_ble_eq_true rfl) (Nat.le_of_ble_eq_true rfl) dX0_init_23 (fun a_n3 H hw => ?_)
  have hw : Wd D (tyA cI cJ cZ cS) A s [(a_this, .inr (0, [.ref a_n1, .ref a_n2, .null, .int (0 : Int32)])), (a_n1, .inl (cI, 14, .inl (fun _ => (0 : Int32)))), (a_n2, .inl (cZ, 14, .inl (fun _ => (0 : Int32)))), (a_n3, .inl (cI, 14, .inl (fun _ => (0 : Int32))))] H locs := hw
  refine W.widen (k := 3) (n := 42) (Nat.le_of_ble_eq_true rfl) (Nat.le_of_ble_eq_true rfl) ?_
  refine z_putF S hin9 hw F19 P19 rfl rfl rfl 0 rfl (Nat.le_of_ble_eq_true rfl) dX0_init_25 (fun H locs hw => ?_)
  have hw : Wd D (tyA cI cJ cZ cS) A s [(a_this, .inr (0, [.ref a_n1, .ref a_n2, .ref a_n3, .int (0 : Int32)])), (a_n1, .inl (cI, 14, .inl (fun _ => (0 : Int32)))), (a_n2, .inl (cZ, 14, .inl (fun _ => (0 : Int32)))), (a_n3, .inl (cI, 14, .inl (fun _ => (0 : Int32))))] H locs := hw
  refine lv_aload_n hx hb dX0_init_28 rfl (lv_at hl 0 rfl) ?_
  refine lv_iconst (v := (0 : Int32)) hx hb dX0_init_29 (by decide) ?_
  refine z_put S hw F22 P22 rfl rfl 0 rfl (Nat.le_of_ble_eq_true rfl) dX0_init_30 (fun H locs hw => ?_)
  have hw : Wd D (tyA cI cJ cZ cS) A s [(a_this, .inr (0, [.ref a_n1, .ref a_n2, .ref a_n3, .int (0 : Int32)])), (a_n1, .inl (cI, 14, .inl (fun _ => (0 : Int32)))), (a_n2, .inl (cZ, 14, .inl (fun _ => (0 : Int32)))), (a_n3, .inl (cI, 14, .inl (fun _ => (0 : Int32))))] H locs := hw
  refine W.widen (k := 3) (n := 42) (Nat.le_of_ble_eq_true rfl) (Nat.le_of_ble_eq_true rfl) ?_
  exact z_vretN (w' := [(a_this, .inr (0, [.ref a_n1, .ref a_n2, .ref a_n3, .int (0 : Int32)])), (a_n1, .inl (cI, 14, .inl (fun _ => (0 : Int32)))), (a_n2, .inl (cZ, 14, .inl (fun _ => (0 : Int32)))), (a_n3, .inl (cI, 14, .inl (fun _ => (0 : Int32))))]) S hQ hr hw [0, 1, 2, 3] rfl rfl ⟨a_n1, a_n2, a_n3, rfl⟩ dX0_init_33
