abbrev rmX7_init : Room := { frames := 1, cells := 1, slots := 18, locals := 12 }
theorem di_X7_init : yX7_init.cls ≠ "java/lang/invoke/MethodHandle" ∧ yX7_init.cls ≠ "java/lang/invoke/VarHandle" ∧ (parseMethodDescriptor yX7_init.desc).map (fun d => d.parameters.length) = some 0 := by decide +kernel
abbrev pw_X7_init (cI cJ cZ cS : ClassId) (a_this : Nat) (w9 : va_W) : Prop := ∃ a_n1 : Nat, w9 = [(a_this, .inr (7, [.ref a_n1])), (a_n1, .inl (cI, 18, .inl (fun _ => (0 : Int32))))]
set_option maxHeartbeats 4000000 in
set_option maxRecDepth 100000 in
theorem c_X7_init (l : Launch) (D : va_G) (cI cJ cZ cS : ClassId) (sz : Nat) (a_this : Nat) : MetN l yX7_init wsX7_init rmX7_init D (tyA cI cJ cZ cS) [(a_this, .inr (7, [.null]))] sz [.ref a_this] (pw_X7_init cI cJ cZ cS a_this) 1 18 := by
  refine entN (cc := cX7_init) (maxL := 1) (own := RX7) (by decide) rfl rfl rfl (Nat.le_of_ble_eq_true rfl) ?_
  intro p e s m args below meth c A ls Q S hin9 hr hE hw hl hQ
  have hx := S.1.1
  have hb := S.1.2.1
  have hts := S.1.2.2.2.2
  have hl : lv_has ls 1 [(0, .ref a_this)] := hl
  obtain ⟨H, eH⟩ : ∃ H : Heap, H = s.heap := ⟨_, rfl⟩
  rw [← eH]
  have hw : Wd D (tyA cI cJ cZ cS) A s [(a_this, .inr (7, [.null]))] H [] := by rw [eH]; exact hw
  have hinX7 : ∀ w ∈ u_ws RX7 TX7 1, w ∈ wsX7_init := (fun _ h => List.mem_cons_of_mem _ (List.mem_append_right _ h))
  have F9 : FLk s args wsX7_init RX7 9 RX7 TX7 1 7 0 := ⟨hinX7, rfl, by decide, hts (.fieldLink RX7 9 "SlowPaths$Spans" "upTo" "[I") (List.mem_of_getElem? (i := 5) rfl)⟩
  have P9 : PLk TX7 1 0 tyX7 true (.array .int) := ⟨tyX7_ok, nmX7, rfl, rfl⟩
  refine lv_aload_n hx hb dX7_init_0 rfl (lv_at hl 0 rfl) ?_
  refine W.objInit hx hb S.1.2.2.2.1 (hts (.methodLink RX7 3 objectInit) (List.mem_of_getElem? (i := 1) rfl)) (hts (.instanceMethod objectInit) (List.mem_of_getElem? (i := 2) rfl)) (hts (.code objectInit ⟨#[0xb1]⟩ 1 none) (List.mem_of_getElem? (i := 3) rfl)) rfl (by rw [S.1.2.2.1]; exact hl.1) rfl dX7_init_1 (Nat.le_of_ble_eq_true rfl) (Nat.le_of_ble_eq_true rfl) ?_
  refine W.eq (g2 := F0 m 4 ls []) rfl ?_
  refine lv_aload_n hx hb dX7_init_4 rfl (lv_at hl 0 rfl) ?_
  refine lv_bipush (v := (18 : Int32)) hx hb dX7_init_5 (by decide) ?_
  refine z_newa (atype := .int) (a0 := (18, .inl (fun _ => (0 : Int32)))) (N' := 18) (ty := .int) S hw (hts (.arrayClass .int) (List.mem_of_getElem? (i := 4) rfl)) rfl 0 rfl (fun _ => rfl) (by decide) (by decide) (by decide) (Nat.le_of_ble_eq_true rfl) (Nat.le_of_ble_eq_true rfl) dX7_init_7 (fun a_n1 H hw => ?_)
  have hw : Wd D (tyA cI cJ cZ cS) A s [(a_this, .inr (7, [.null])), (a_n1, .inl (cI, 18, .inl (fun _ => (0 : Int32))))] H [] := hw
  refine W.widen (k := 1) (n := 18) (Nat.le_of_ble_eq_true rfl) (Nat.le_of_ble_eq_true rfl) ?_
  refine z_putF S hin9 hw F9 P9 rfl rfl rfl 0 rfl (Nat.le_of_ble_eq_true rfl) dX7_init_9 (fun H locs hw => ?_)
  have hw : Wd D (tyA cI cJ cZ cS) A s [(a_this, .inr (7, [.ref a_n1])), (a_n1, .inl (cI, 18, .inl (fun _ => (0 : Int32))))] H locs := hw
  refine W.widen (k := 1) (n := 18) (Nat.le_of_ble_eq_true rfl) (Nat.le_of_ble_eq_true rfl) ?_
  exact z_vretN (w' := [(a_this, .inr (7, [.ref a_n1])), (a_n1, .inl (cI, 18, .inl (fun _ => (0 : Int32))))]) S hQ hr hw [0, 1] rfl rfl ⟨a_n1, rfl⟩ dX7_init_12
