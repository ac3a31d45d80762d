abbrev rmX8_init : Room := { frames := 1, cells := 4, slots := 72, locals := 12 }
theorem di_X8_init : yX8_init.cls ≠ "java/lang/invoke/MethodHandle" ∧ yX8_init.cls ≠ "java/lang/invoke/VarHandle" ∧ (parseMethodDescriptor yX8_init.desc).map (fun d => d.parameters.length) = some 0 := by decide +kernel
abbrev pw_X8_init (cI cJ cZ cS : ClassId) (a_this : Nat) (w9 : va_W) : Prop := ∃ a_n1 a_n2 a_n3 a_n4 : Nat, w9 = [(a_this, .inr (8, [.ref a_n1, .ref a_n2, .ref a_n3, .ref a_n4])), (a_n1, .inl (cJ, 18, .inr (.inl (fun _ => (0 : Int64))))), (a_n2, .inl (cJ, 18, .inr (.inl (fun _ => (0 : Int64))))), (a_n3, .inl (cJ, 18, .inr (.inl (fun _ => (0 : Int64))))), (a_n4, .inl (cJ, 18, .inr (.inl (fun _ => (0 : Int64)))))]
set_option maxHeartbeats 4000000 in
set_option maxRecDepth 100000 in
theorem c_X8_init (l : Launch) (D : va_G) (cI cJ cZ cS : ClassId) (sz : Nat) (a_this : Nat) : MetN l yX8_init wsX8_init rmX8_init D (tyA cI cJ cZ cS) [(a_this, .inr (8, [.null, .null, .null, .null]))] sz [.ref a_this] (pw_X8_init cI cJ cZ cS a_this) 4 72 := by
  refine entN (cc := cX8_init) (maxL := 1) (own := RX8) (by decide) rfl rfl rfl (Nat.le_of_ble_eq_true rfl) ?_
  intro p e s m args below meth c A ls Q S hin9 hr hE hw hl hQ
  have hx := S.1.1
  have hb := S.1.2.1
  have hts := S.1.2.2.2.2
  have hl : lv_has ls 1 [(0, .ref a_this)] := hl
  obtain ⟨H, eH⟩ : ∃ H : Heap, H = s.heap := ⟨_, rfl⟩
  rw [← eH]
  have hw : Wd D (tyA cI cJ cZ cS) A s [(a_this, .inr (8, [.null, .null, .null, .null]))] H [] := by rw [eH]; exact hw
  have hinX8 : ∀ w ∈ u_ws RX8 TX8 4, w ∈ wsX8_init := (fun _ h => List.mem_cons_of_mem _ (List.mem_append_right _ h))
  have F9 : FLk s args wsX8_init RX8 9 RX8 TX8 4 8 0 := ⟨hinX8, rfl, by decide, hts (.fieldLink RX8 9 "SlowPaths$Waves" "before" "[J") (List.mem_of_getElem? (i := 5) rfl)⟩
  have F15 : FLk s args wsX8_init RX8 15 RX8 TX8 4 8 1 := ⟨hinX8, rfl, by decide, hts (.fieldLink RX8 15 "SlowPaths$Waves" "after" "[J") (List.mem_of_getElem? (i := 6) rfl)⟩
  have F18 : FLk s args wsX8_init RX8 18 RX8 TX8 4 8 2 := ⟨hinX8, rfl, by decide, hts (.fieldLink RX8 18 "SlowPaths$Waves" "low" "[J") (List.mem_of_getElem? (i := 7) rfl)⟩
  have F21 : FLk s args wsX8_init RX8 21 RX8 TX8 4 8 3 := ⟨hinX8, rfl, by decide, hts (.fieldLink RX8 21 "SlowPaths$Waves" "high" "[J") (List.mem_of_getElem? (i := 8) rfl)⟩
  have P9 : PLk TX8 4 0 tyX8 true (.array .long) := ⟨tyX8_ok, nmX8, rfl, rfl⟩
  have P15 : PLk TX8 4 1 tyX8 true (.array .long) := ⟨tyX8_ok, nmX8, rfl, rfl⟩
  have P18 : PLk TX8 4 2 tyX8 true (.array .long) := ⟨tyX8_ok, nmX8, rfl, rfl⟩
  have P21 : PLk TX8 4 3 tyX8 true (.array .long) := ⟨tyX8_ok, nmX8, rfl, rfl⟩
  refine lv_aload_n hx hb dX8_init_0 rfl (lv_at hl 0 rfl) ?_
  refine W.objInit hx hb S.1.2.2.2.1 (hts (.methodLink RX8 3 objectInit) (List.mem_of_getElem? (i := 1) rfl)) (hts (.instanceMethod objectInit) (List.mem_of_getElem? (i := 2) rfl)) (hts (.code objectInit ⟨#[0xb1]⟩ 1 none) (List.mem_of_getElem? (i := 3) rfl)) rfl (by rw [S.1.2.2.1]; exact hl.1) rfl dX8_init_1 (Nat.le_of_ble_eq_true rfl) (Nat.le_of_ble_eq_true rfl) ?_
  refine W.eq (g2 := F0 m 4 ls []) rfl ?_
  refine lv_aload_n hx hb dX8_init_4 rfl (lv_at hl 0 rfl) ?_
  refine lv_bipush (v := (18 : Int32)) hx hb dX8_init_5 (by decide) ?_
  refine z_newa (atype := .long) (a0 := (18, .inr (.inl (fun _ => (0 : Int64))))) (N' := 18) (ty := .long) S hw (hts (.arrayClass .long) (List.mem_of_getElem? (i := 4) rfl)) rfl 1 rfl (fun _ => rfl) (by decide) (by decide) (by decide) (Nat.le_of_ble_eq_true rfl) (Nat.le_of_ble_eq_true rfl) dX8_init_7 (fun a_n1 H hw => ?_)
  have hw : Wd D (tyA cI cJ cZ cS) A s [(a_this, .inr (8, [.null, .null, .null, .null])), (a_n1, .inl (cJ, 18, .inr (.inl (fun _ => (0 : Int64)))))] H [] := hw
  refine W.widen (k := 1) (n := 18) (Nat.le_of_ble_eq_true rfl) (Nat.le_of_ble_eq_true rfl) ?_
  refine z_putF S hin9 hw F9 P9 rfl rfl rfl 0 rfl (Nat.le_of_ble_eq_true rfl) dX8_init_9 (fun H locs hw => ?_)
  have hw : Wd D (tyA cI cJ cZ cS) A s [(a_this, .inr (8, [.ref a_n1, .null, .null, .null])), (a_n1, .inl (cJ, 18, .inr (.inl (fun _ => (0 : Int64)))))] H locs := hw
  refine lv_aload_n hx hb dX8_init_12 rfl (lv_at hl 0 rfl) ?_
  refine lv_bipush (v := (18 : Int32)) hx hb dX8_init_13 (by decide) ?_
  refine z_newa (atype := .long) (a0 := (18, .inr (.inl (fun _ => (0 : Int64))))) (N' := 18) (ty := .long) S hw (hts (.arrayClass .long) (List.mem_of_getElem? (i := 4) rfl)) rfl 1 rfl (fun _ => rfl) (by decide) (by decide) (by decide) (Nat.le_of_ble_eq_true rfl) (Nat.le_of_ble_eq_true rfl) dX8_init_15 (fun a_n2 H hw => ?_)
  have hw : Wd D (tyA cI cJ cZ cS) A s [(a_this, .inr (8, [.ref a_n1, .null, .null, .null])), (a_n1, .inl (cJ, 18, .inr (.inl (fun _ => (0 : Int64))))), (a_n2, .inl (cJ, 18, .inr (.inl (fun _ => (0 : Int64)))))] H locs := hw
  refine W.widen (k := 2) (n := 36) (Nat.le_of_ble_eq_true rfl) (Nat.le_of_ble_eq_true rfl) ?_
  refine z_putF S hin9 hw F15 P15 rfl rfl rfl 0 rfl (Nat.le_of_ble_eq_true rfl) dX8_init_17 (fun H locs hw => ?_)
  have hw : Wd D (tyA cI cJ cZ cS) A s [(a_this, .inr (8, [.ref a_n1, .ref a_n2, .null, .null])), (a_n1, .inl (cJ, 18, .inr (.inl (fun _ => (0 : Int64))))), (a_n2, .inl (cJ, 18, .inr (.inl (fun _ => (0 : Int64)))))] H locs := hw
  refine lv_aload_n hx hb dX8_init_20 rfl (lv_at hl 0 rfl) ?_
  refine lv_bipush (v := (18 : Int32)) hx hb dX8_init_21 (by decide) ?_
  refine z_newa (atype := .long) (a0 := (18, .inr (.inl (fun _ => (0 : Int64))))) (N' := 18) (ty := .long) S hw (hts (.arrayClass .long) (List.mem_of_getElem? (i := 4) rfl)) rfl 1 rfl (fun _ => rfl) (by decide) (by decide) (by decide) (Nat.le_of_ble_eq_true rfl) (Nat.le_of_ble_eq_true rfl) dX8_init_23 (fun a_n3 H hw => ?_)
  have hw : Wd D (tyA cI cJ cZ cS) A s [(a_this, .inr (8, [.ref a_n1, .ref a_n2, .null, .null])), (a_n1, .inl (cJ, 18, .inr (.inl (fun _ => (0 : Int64))))), (a_n2, .inl (cJ, 18, .inr (.inl (fun _ => (0 : Int64))))), (a_n3, .inl (cJ, 18, .inr (.inl (fun _ => (0 : Int64)))))] H locs := hw
  refine W.widen (k := 3) (n := 54) (Nat.le_of_ble_eq_true rfl) (Nat.le_of_ble_eq_true rfl) ?_
  refine z_putF S hin9 hw F18 P18 rfl rfl rfl 0 rfl (Nat.le_of_ble_eq_true rfl) dX8_init_25 (fun H locs hw => ?_)
  have hw : Wd D (tyA cI cJ cZ cS) A s [(a_this, .inr (8, [.ref a_n1, .ref a_n2, .ref a_n3, .null])), (a_n1, .inl (cJ, 18, .inr (.inl (fun _ => (0 : Int64))))), (a_n2, .inl (cJ, 18, .inr (.inl (fun _ => (0 : Int64))))), (a_n3, .inl (cJ, 18, .inr (.inl (fun _ => (0 : Int64)))))] H locs := hw
  refine lv_aload_n hx hb dX8_init_28 rfl (lv_at hl 0 rfl) ?_
  refine lv_bipush (v := (18 : Int32)) hx hb dX8_init_29 (by decide) ?_
  refine z_newa (atype := .long) (a0 := (18, .inr (.inl (fun _ => (0 : Int64))))) (N' := 18) (ty := .long) S hw (hts (.arrayClass .long) (List.mem_of_getElem? (i := 4) rfl)) rfl 1 rfl (fun _ => rfl) (by decide) (by decide) (by decide) (Nat.le_of_ble_eq_true rfl) (Nat.le_of_ble_eq_true rfl) dX8_init_31 (fun a_n4 H hw => ?_)
  have hw : Wd D (tyA cI cJ cZ cS) A s [(a_this, .inr (8, [.ref a_n1, .ref a_n2, .ref a_n3, .null])), (a_n1, .inl (cJ, 18, .inr (.inl (fun _ => (0 : Int64))))), (a_n2, .inl (cJ, 18, .inr (.inl (fun _ => (0 : Int64))))), (a_n3, .inl (cJ, 18, .inr (.inl (fun _ => (0 : Int64))))), (a_n4, .inl (cJ, 18, .inr (.inl (fun _ => (0 : Int64)))))] H locs := hw
  refine W.widen (k := 4) (n := 72) (Nat.le_of_ble_eq_true rfl) (Nat.le_of_ble_eq_true rfl) ?_
  refine z_putF S hin9 hw F21 P21 rfl rfl rfl 0 rfl (Nat.le_of_ble_eq_true rfl) dX8_init_33 (fun H locs hw => ?_)
  have hw : Wd D (tyA cI cJ cZ cS) A s [(a_this, .inr (8, [.ref a_n1, .ref a_n2, .ref a_n3, .ref a_n4])), (a_n1, .inl (cJ, 18, .inr (.inl (fun _ => (0 : Int64))))), (a_n2, .inl (cJ, 18, .inr (.inl (fun _ => (0 : Int64))))), (a_n3, .inl (cJ, 18, .inr (.inl (fun _ => (0 : Int64))))), (a_n4, .inl (cJ, 18, .inr (.inl (fun _ => (0 : Int64)))))] H locs := hw
  refine W.widen (k := 4) (n := 72) (Nat.le_of_ble_eq_true rfl) (Nat.le_of_ble_eq_true rfl) ?_
  exact z_vretN (w' := [(a_this, .inr (8, [.ref a_n1, .ref a_n2, .ref a_n3, .ref a_n4])), (a_n1, .inl (cJ, 18, .inr (.inl (fun _ => (0 : Int64))))), (a_n2, .inl (cJ, 18, .inr (.inl (fun _ => (0 : Int64))))), (a_n3, .inl (cJ, 18, .inr (.inl (fun _ => (0 : Int64))))), (a_n4, .inl (cJ, 18, .inr (.inl (fun _ => (0 : Int64)))))]) S hQ hr hw [0, 1, 2, 3, 4] rfl rfl ⟨a_n1, a_n2, a_n3, a_n4, rfl⟩ dX8_init_36
