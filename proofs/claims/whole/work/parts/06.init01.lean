abbrev rmX1_init : Room := { frames := 1, cells := 1, slots := 18, locals := 12 }
theorem di_X1_init : yX1_init.cls ≠ "java/lang/invoke/MethodHandle" ∧ yX1_init.cls ≠ "java/lang/invoke/VarHandle" ∧ (parseMethodDescriptor yX1_init.desc).map (fun d => d.parameters.length) = some 0 := by decide +kernel
abbrev pw_X1_init (cI cJ cZ cS : ClassId) (a_this : Nat) (w9 : va_W) : Prop := ∃ a_n1 : Nat, w9 = [(a_this, .inr (1, [.ref a_n1, .int (0 : Int32), .int (0 : Int32)])), (a_n1, .inl (cI, 18, .inl (fun _ => (0 : Int32))))]
set_option maxHeartbeats 4000000 in
set_option maxRecDepth 100000 in
theorem c_X1_init (l : Launch) (D : va_G) (cI cJ cZ cS : ClassId) (sz : Nat) (a_this : Nat) : MetN l yX1_init wsX1_init rmX1_init D (tyA cI cJ cZ cS) [(a_this, .inr (1, [.null, .int (0 : Int32), .int (0 : Int32)]))] sz [.ref a_this] (pw_X1_init cI cJ cZ cS a_this) 1 18 := by
  refine entN (cc := cX1_init) (maxL := 1) (own := RX1) (by decide) rfl rfl rfl (Nat.le_of_ble_eq_true rfl) ?_
  intro p e s m args below meth c A ls Q S hin9 hr hE hw hl hQ
  have hx := S.1.1
  have hb := S.1.2.1
  have hts := S.1.2.2.2.2
  have hl : lv_has ls 1 [(0, .ref a_this)] := hl
  obtain ⟨H, eH⟩ : ∃ H : Heap, H = s.heap := ⟨_, rfl⟩
  rw [← eH]
  have hw : Wd D (tyA cI cJ cZ cS) A s [(a_this, .inr (1, [.null, .int (0 : Int32), .int (0 : Int32)]))] H [] := by rw [eH]; exact hw
  have hinX1 : ∀ w ∈ u_ws RX1 TX1 3, w ∈ wsX1_init := (fun _ h => List.mem_cons_of_mem _ (List.mem_append_right _ h))
  have F9 : FLk s args wsX1_init RX1 9 RX1 TX1 3 1 0 := ⟨hinX1, rfl, by decide, hts (.fieldLink RX1 9 "SlowPaths$Levels" "of" "[I") (List.mem_of_getElem? (i := 5) rfl)⟩
  have F15 : FLk s args wsX1_init RX1 15 RX1 TX1 3 1 1 := ⟨hinX1, rfl, by decide, hts (.fieldLink RX1 15 "SlowPaths$Levels" "links" "I") (List.mem_of_getElem? (i := 6) rfl)⟩
  have F19 : FLk s args wsX1_init RX1 19 RX1 TX1 3 1 2 := ⟨hinX1, rfl, by decide, hts (.fieldLink RX1 19 "SlowPaths$Levels" "sureLinks" "I") (List.mem_of_getElem? (i := 7) rfl)⟩
  have P9 : PLk TX1 3 0 tyX1 true (.array .int) := ⟨tyX1_ok, nmX1, rfl, rfl⟩
  have P15 : PLk TX1 3 1 tyX1 false .int := ⟨tyX1_ok, nmX1, rfl, rfl⟩
  have P19 : PLk TX1 3 2 tyX1 false .int := ⟨tyX1_ok, nmX1, rfl, rfl⟩
  refine lv_aload_n hx hb dX1_init_0 rfl (lv_at hl 0 rfl) ?_
  refine W.objInit hx hb S.1.2.2.2.1 (hts (.methodLink RX1 3 objectInit) (List.mem_of_getElem? (i := 1) rfl)) (hts (.instanceMethod objectInit) (List.mem_of_getElem? (i := 2) rfl)) (hts (.code objectInit ⟨#[0xb1]⟩ 1 none) (List.mem_of_getElem? (i := 3) rfl)) rfl (by rw [S.1.2.2.1]; exact hl.1) rfl dX1_init_1 (Nat.le_of_ble_eq_true rfl) (Nat.le_of_ble_eq_true rfl) ?_
  refine W.eq (g2 := F0 m 4 ls []) rfl ?_
  refine lv_aload_n hx hb dX1_init_4 rfl (lv_at hl 0 rfl) ?_
  refine lv_bipush (v := (18 : Int32)) hx hb dX1_init_5 (by decide) ?_
  refine z_newa (atype := .int) (a0 := (18, .inl (fun _ => (0 : Int32)))) (N' := 18) (ty := .int) S hw (hts (.arrayClass .int) (List.mem_of_getElem? (i := 4) rfl)) rfl 0 rfl (fun _ => rfl) (by decide) (by decide) (by decide) (Nat.le_of_ble_eq_true rfl) (Nat.le_of_ble_eq_true rfl) dX1_init_7 (fun a_n1 H hw => ?_)
  have hw : Wd D (tyA cI cJ cZ cS) A s [(a_this, .inr (1, [.null, .int (0 : Int32), .int (0 : Int32)])), (a_n1, .inl (cI, 18, .inl (fun _ => (0 : Int32))))] H [] := hw
  refine W.widen (k := 1) (n := 18) (Nat.le_of_ble_eq_true rfl) (Nat.le_of_ble_eq_true rfl) ?_
  refine z_putF S hin9 hw F9 P9 rfl rfl rfl 0 rfl (Nat.le_of_ble_eq_true rfl) dX1_init_9 (fun H locs hw => ?_)
  have hw : Wd D (tyA cI cJ cZ cS) A s [(a_this, .inr (1, [.ref a_n1, .int (0 : Int32), .int (0 : Int32)])), (a_n1, .inl (cI, 18, .inl (fun _ => (0 : Int32))))] H locs := hw
  refine lv_aload_n hx hb dX1_init_12 rfl (lv_at hl 0 rfl) ?_
  refine lv_iconst (v := (0 : Int32)) hx hb dX1_init_13 (by decide) ?_
  refine z_put S hw F15 P15 rfl rfl 0 rfl (Nat.le_of_ble_eq_true rfl) dX1_init_14 (fun H locs hw => ?_)
  have hw : Wd D (tyA cI cJ cZ cS) A s [(a_this, .inr (1, [.ref a_n1, .int (0 : Int32), .int (0 : Int32)])), (a_n1, .inl (cI, 18, .inl (fun _ => (0 : Int32))))] H locs := hw
  refine lv_aload_n hx hb dX1_init_17 rfl (lv_at hl 0 rfl) ?_
  refine lv_iconst (v := (0 : Int32)) hx hb dX1_init_18 (by decide) ?_
  refine z_put S hw F19 P19 rfl rfl 0 rfl (Nat.le_of_ble_eq_true rfl) dX1_init_19 (fun H locs hw => ?_)
  have hw : Wd D (tyA cI cJ cZ cS) A s [(a_this, .inr (1, [.ref a_n1, .int (0 : Int32), .int (0 : Int32)])), (a_n1, .inl (cI, 18, .inl (fun _ => (0 : Int32))))] H locs := hw
  refine W.widen (k := 1) (n := 18) (Nat.le_of_ble_eq_true rfl) (Nat.le_of_ble_eq_true rfl) ?_
  exact z_vretN (w' := [(a_this, .inr (1, [.ref a_n1, .int (0 : Int32), .int (0 : Int32)])), (a_n1, .inl (cI, 18, .inl (fun _ => (0 : Int32))))]) S hQ hr hw [0, 1] rfl rfl ⟨a_n1, rfl⟩ dX1_init_22
