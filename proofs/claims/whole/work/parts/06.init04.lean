abbrev rmX5_init : Room := { frames := 1, cells := 2, slots := 16, locals := 12 }
theorem di_X5_init : yX5_init.cls ≠ "java/lang/invoke/MethodHandle" ∧ yX5_init.cls ≠ "java/lang/invoke/VarHandle" ∧ (parseMethodDescriptor yX5_init.desc).map (fun d => d.parameters.length) = some 0 := by decide +kernel
abbrev pw_X5_init (cI cJ cZ cS : ClassId) (a_this : Nat) (w9 : va_W) : Prop := ∃ a_n1 a_n2 : Nat, w9 = [(a_this, .inr (5, [.ref a_n1, .ref a_n2, .int (0 : Int32)])), (a_n1, .inl (cI, 8, .inl (fun _ => (0 : Int32)))), (a_n2, .inl (cI, 8, .inl (fun _ => (0 : Int32))))]
set_option maxHeartbeats 4000000 in
set_option maxRecDepth 100000 in
theorem c_X5_init (l : Launch) (D : va_G) (cI cJ cZ cS : ClassId) (sz : Nat) (a_this : Nat) : MetN l yX5_init wsX5_init rmX5_init D (tyA cI cJ cZ cS) [(a_this, .inr (5, [.null, .null, .int (0 : Int32)]))] sz [.ref a_this] (pw_X5_init cI cJ cZ cS a_this) 2 16 := by
  refine entN (cc := cX5_init) (maxL := 1) (own := RX5) (by decide) rfl rfl rfl (Nat.le_of_ble_eq_true rfl) ?_
  intro p e s m args below meth c A ls Q S hin9 hr hE hw hl hQ
  have hx := S.1.1
  have hb := S.1.2.1
  have hts := S.1.2.2.2.2
  have hl : lv_has ls 1 [(0, .ref a_this)] := hl
  obtain ⟨H, eH⟩ : ∃ H : Heap, H = s.heap := ⟨_, rfl⟩
  rw [← eH]
  have hw : Wd D (tyA cI cJ cZ cS) A s [(a_this, .inr (5, [.null, .null, .int (0 : Int32)]))] H [] := by rw [eH]; exact hw
  have hinX5 : ∀ w ∈ u_ws RX5 TX5 3, w ∈ wsX5_init := (fun _ h => List.mem_cons_of_mem _ (List.mem_append_right _ h))
  have F9 : FLk s args wsX5_init RX5 9 RX5 TX5 3 5 0 := ⟨hinX5, rfl, by decide, hts (.fieldLink RX5 9 "SlowPaths$Setting" "kinds" "[I") (List.mem_of_getElem? (i := 5) rfl)⟩
  have F15 : FLk s args wsX5_init RX5 15 RX5 TX5 3 5 1 := ⟨hinX5, rfl, by decide, hts (.fieldLink RX5 15 "SlowPaths$Setting" "delays" "[I") (List.mem_of_getElem? (i := 6) rfl)⟩
  have F18 : FLk s args wsX5_init RX5 18 RX5 TX5 3 5 2 := ⟨hinX5, rfl, by decide, hts (.fieldLink RX5 18 "SlowPaths$Setting" "held" "Z") (List.mem_of_getElem? (i := 7) rfl)⟩
  have P9 : PLk TX5 3 0 tyX5 true (.array .int) := ⟨tyX5_ok, nmX5, rfl, rfl⟩
  have P15 : PLk TX5 3 1 tyX5 true (.array .int) := ⟨tyX5_ok, nmX5, rfl, rfl⟩
  have P18 : PLk TX5 3 2 tyX5 false .boolean := ⟨tyX5_ok, nmX5, rfl, rfl⟩
  refine lv_aload_n hx hb dX5_init_0 rfl (lv_at hl 0 rfl) ?_
  refine W.objInit hx hb S.1.2.2.2.1 (hts (.methodLink RX5 3 objectInit) (List.mem_of_getElem? (i := 1) rfl)) (hts (.instanceMethod objectInit) (List.mem_of_getElem? (i := 2) rfl)) (hts (.code objectInit ⟨#[0xb1]⟩ 1 none) (List.mem_of_getElem? (i := 3) rfl)) rfl (by rw [S.1.2.2.1]; exact hl.1) rfl dX5_init_1 (Nat.le_of_ble_eq_true rfl) (Nat.le_of_ble_eq_true rfl) ?_
  refine W.eq (g2 := F0 m 4 ls []) rfl ?_
  refine lv_aload_n hx hb dX5_init_4 rfl (lv_at hl 0 rfl) ?_
  refine lv_bipush (v := (8 : Int32)) hx hb dX5_init_5 (by decide) ?_
  refine z_newa (atype := .int) (a0 := (8, .inl (fun _ => (0 : Int32)))) (N' := 8) (ty := .int) S hw (hts (.arrayClass .int) (List.mem_of_getElem? (i := 4) rfl)) rfl 0 rfl (fun _ => rfl) (by decide) (by decide) (by decide) (Nat.le_of_ble_eq_true rfl) (Nat.le_of_ble_eq_true rfl) dX5_init_7 (fun a_n1 H hw => ?_)
  have hw : Wd D (tyA cI cJ cZ cS) A s [(a_this, .inr (5, [.null, .null, .int (0 : Int32)])), (a_n1, .inl (cI, 8, .inl (fun _ => (0 : Int32))))] H [] := hw
  refine W.widen (k := 1) (n := 8) (Nat.le_of_ble_eq_true rfl) (Nat.le_of_ble_eq_true rfl) ?_
  refine z_putF S hin9 hw F9 P9 rfl rfl rfl 0 rfl (Nat.le_of_ble_eq_true rfl) dX5_init_9 (fun H locs hw => ?_)
  have hw : Wd D (tyA cI cJ cZ cS) A s [(a_this, .inr (5, [.ref a_n1, .null, .int (0 : Int32)])), (a_n1, .inl (cI, 8, .inl (fun _ => (0 : Int32))))] H locs := hw
  refine lv_aload_n hx hb dX5_init_12 rfl (lv_at hl 0 rfl) ?_
  refine lv_bipush (v := (8 : Int32)) hx hb dX5_init_13 (by decide) ?_
  refine z_newa (atype := .int) (a0 := (8, .inl (fun _ => (0 : Int32)))) (N' := 8) (ty := .int) S hw (hts (.arrayClass .int) (List.mem_of_getElem? (i := 4) rfl)) rfl 0 rfl (fun _ => rfl) (by decide) (by decide) (by decide) (Nat.le_of_ble_eq_true rfl) (Nat.le_of_ble_eq_true rfl) dX5_init_15 (fun a_n2 H hw => ?_)
  have hw : Wd D (tyA cI cJ cZ cS) A s [(a_this, .inr (5, [.ref a_n1, .null, .int (0 : Int32)])), (a_n1, .inl (cI, 8, .inl (fun _ => (0 : Int32)))), (a_n2, .inl (cI, 8, .inl (fun _ => (0 : Int32))))] H locs := hw
  refine W.widen (k := 2) (n := 16) (Nat.le_of_ble_eq_true rfl) (Nat.le_of_ble_eq_true rfl) ?_
  refine z_putF S hin9 hw F15 P15 rfl rfl rfl 0 rfl (Nat.le_of_ble_eq_true rfl) dX5_init_17 (fun H locs hw => ?_)
  have hw : Wd D (tyA cI cJ cZ cS) A s [(a_this, .inr (5, [.ref a_n1, .ref a_n2, .int (0 : Int32)])), (a_n1, .inl (cI, 8, .inl (fun _ => (0 : Int32)))), (a_n2, .inl (cI, 8, .inl (fun _ => (0 : Int32))))] H locs := hw
  refine lv_aload_n hx hb dX5_init_20 rfl (lv_at hl 0 rfl) ?_
  refine lv_iconst (v := (0 : Int32)) hx hb dX5_init_21 (by decide) ?_
  refine z_put S hw F18 P18 rfl rfl 0 rfl (Nat.le_of_ble_eq_true rfl) dX5_init_22 (fun H locs hw => ?_)
  have hw : Wd D (tyA cI cJ cZ cS) A s [(a_this, .inr (5, [.ref a_n1, .ref a_n2, .int (0 : Int32)])), (a_n1, .inl (cI, 8, .inl (fun _ => (0 : Int32)))), (a_n2, .inl (cI, 8, .inl (fun _ => (0 : Int32))))] H locs := hw
  refine W.widen (k := 2) (n := 16) (Nat.le_of_ble_eq_true rfl) (Nat.le_of_ble_eq_true rfl) ?_
  exact z_vretN (w' := [(a_this, .inr (5, [.ref a_n1, .ref a_n2, .int (0 : Int32)])), (a_n1, .inl (cI, 8, .inl (fun _ => (0 : Int32)))), (a_n2, .inl (cI, 8, .inl (fun _ => (0 : Int32))))]) S hQ hr hw [0, 1, 2] rfl rfl ⟨a_n1, a_n2, rfl⟩ dX5_init_25
