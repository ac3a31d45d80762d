abbrev rmX0_forgetFirst : Room := { frames := 0, cells := 0, slots := 0, locals := 0 }
theorem dv_X0_forgetFirst : yX0_forgetFirst.cls = RX0 ∧ yX0_forgetFirst.cls ≠ "java/lang/invoke/MethodHandle" ∧ yX0_forgetFirst.cls ≠ "java/lang/invoke/VarHandle" ∧ (parseMethodDescriptor yX0_forgetFirst.desc).map (fun d => d.parameters.length) = some 0 := by decide +kernel
noncomputable def f_X0_forgetFirst_L2 (N : Nat) (j56_1 : (Nat → Int32) → (Nat → Int32) → (Nat → Int32) → Option (Int32 × (Nat → Int32) × (Nat → Int32) × (Nat → Int32))) : Nat → Int32 → (Nat → Int32) → (Nat → Int32) → (Nat → Int32) → Option (Int32 × (Nat → Int32) × (Nat → Int32) × (Nat → Int32))
  | 0, _, _, _, _ => none
  | n_2 + 1, x1_4, k_gates_5, k_turned_6, k_olds_7 =>
    (if (14 : Int32) ≤ x1_4 then (j56_1 k_gates_5 k_turned_6 k_olds_7) else (grd (inb x1_4 14) <| grd (inb (x1_4 - (1 : Int32)) 14) <| bnd (upd k_gates_5 (x1_4 - (1 : Int32)).toNatClampNeg (k_gates_5 x1_4.toNatClampNeg)) fun (k_gates_8 : (Nat → Int32)) => grd (inb x1_4 14) <| grd (inb (x1_4 - (1 : Int32)) 14) <| bnd (upd k_turned_6 (x1_4 - (1 : Int32)).toNatClampNeg (vp_nar .boolean (k_turned_6 x1_4.toNatClampNeg))) fun (k_turned_9 : (Nat → Int32)) => grd (inb x1_4 14) <| grd (inb (x1_4 - (1 : Int32)) 14) <| bnd (upd k_olds_7 (x1_4 - (1 : Int32)).toNatClampNeg (k_olds_7 x1_4.toNatClampNeg)) fun (k_olds_10 : (Nat → Int32)) => bnd (x1_4 + (1 : Int32)) fun (x1_11 : Int32) => f_X0_forgetFirst_L2 N j56_1 n_2 x1_11 k_gates_8 k_turned_9 k_olds_10))
noncomputable def f_X0_forgetFirst (N : Nat)  (i_this_size : Int32) (k_gates : (Nat → Int32)) (k_turned : (Nat → Int32)) (k_olds : (Nat → Int32)) : Option (Int32 × (Nat → Int32) × (Nat → Int32) × (Nat → Int32)) :=
  bnd (fun (k_gates_1 : (Nat → Int32)) (k_turned_2 : (Nat → Int32)) (k_olds_3 : (Nat → Int32)) => (some ((13 : Int32), k_gates_1, k_turned_2, k_olds_3))) fun (j56_1 : (Nat → Int32) → (Nat → Int32) → (Nat → Int32) → Option (Int32 × (Nat → Int32) × (Nat → Int32) × (Nat → Int32))) => f_X0_forgetFirst_L2 N j56_1 N ((1 : Int32)) k_gates k_turned k_olds
set_option maxHeartbeats 4000000 in
set_option maxRecDepth 100000 in
theorem c_X0_forgetFirst (l : Launch) (D : va_G) (cI cJ cZ cS : ClassId) (sz N : Nat) (a_this a_gates a_turned a_olds : Nat) (i_this_size : Int32) (k_gates : (Nat → Int32)) (k_turned : (Nat → Int32)) (k_olds : (Nat → Int32))  (o_this_size : Int32) (o_gates : (Nat → Int32)) (o_turned : (Nat → Int32)) (o_olds : (Nat → Int32)) (hf : f_X0_forgetFirst N i_this_size k_gates k_turned k_olds = some (o_this_size, o_gates, o_turned, o_olds)) : MetV l yX0_forgetFirst wsX0_forgetFirst rmX0_forgetFirst D (tyA cI cJ cZ cS) [(a_this, .inr (0, [.ref a_gates, .ref a_turned, .ref a_olds, .int i_this_size])), (a_gates, .inl (cI, 14, .inl k_gates)), (a_turned, .inl (cZ, 14, .inl k_turned)), (a_olds, .inl (cI, 14, .inl k_olds))] sz [.ref a_this] [(a_this, .inr (0, [.ref a_gates, .ref a_turned, .ref a_olds, .int o_this_size])), (a_gates, .inl (cI, 14, .inl o_gates)), (a_turned, .inl (cZ, 14, .inl o_turned)), (a_olds, .inl (cI, 14, .inl o_olds))] := by
  refine entV (cc := cX0_forgetFirst) (maxL := 2) (own := RX0) (by decide) rfl rfl (Nat.le_of_ble_eq_true rfl) ?_
  intro p e s m args below meth c A ls Q H locs S hr hw hl hQ
  have hx := S.1.1
  have hb := S.1.2.1
  have hts := S.1.2.2.2.2
  have hl : lv_has ls 2 [(0, .ref a_this)] := hl
  have hinX0 : ∀ w ∈ u_ws RX0 TX0 4, w ∈ wsX0_forgetFirst := (fun _ h => List.mem_cons_of_mem _ (List.mem_append_right _ h))
  have F9 : FLk s args wsX0_forgetFirst RX0 9 RX0 TX0 4 0 0 := ⟨hinX0, rfl, by decide, hts (.fieldLink RX0 9 "SlowPaths$Acts" "gates" "[I") (List.mem_of_getElem? (i := 1) rfl)⟩
  have F15 : FLk s args wsX0_forgetFirst RX0 15 RX0 TX0 4 0 1 := ⟨hinX0, rfl, by decide, hts (.fieldLink RX0 15 "SlowPaths$Acts" "turned" "[Z") (List.mem_of_getElem? (i := 2) rfl)⟩
  have F19 : FLk s args wsX0_forgetFirst RX0 19 RX0 TX0 4 0 2 := ⟨hinX0, rfl, by decide, hts (.fieldLink RX0 19 "SlowPaths$Acts" "olds" "[I") (List.mem_of_getElem? (i := 3) rfl)⟩
  have F22 : FLk s args wsX0_forgetFirst RX0 22 RX0 TX0 4 0 3 := ⟨hinX0, rfl, by decide, hts (.fieldLink RX0 22 "SlowPaths$Acts" "size" "I") (List.mem_of_getElem? (i := 4) rfl)⟩
  have P22 : PLk TX0 4 3 tyX0 false .int := ⟨tyX0_ok, nmX0, rfl, rfl⟩
  have h := hf
  rw [f_X0_forgetFirst] at h
  refine lv_iconst (v := (1 : Int32)) hx hb dX0_forgetFirst_0 (by decide) ?_
  refine lv_istore_n (lv' := [(1, .int (1 : Int32)), (0, .ref a_this)]) hx hb dX0_forgetFirst_1 rfl hl (by decide) rfl (fun ls hl => ?_)
  obtain ⟨j56_1, ej56_1, h⟩ := bnd_ex h
  have hj56_1 : ∀ (k_gates_1 : (Nat → Int32)) (k_turned_2 : (Nat → Int32)) (k_olds_3 : (Nat → Int32)) (H : Heap) (locs : List Loc) (ls : Array Slot), j56_1 k_gates_1 k_turned_2 k_olds_3 = some (o_this_size, o_gates, o_turned, o_olds) → Wd D (tyA cI cJ cZ cS) A s [(a_this, .inr (0, [.ref a_gates, .ref a_turned, .ref a_olds, .int i_this_size])), (a_gates, .inl (cI, 14, .inl k_gates_1)), (a_turned, .inl (cZ, 14, .inl k_turned_2)), (a_olds, .inl (cI, 14, .inl k_olds_3))] H locs → lv_has ls 2 [(0, .ref a_this)] → W p l e rmX0_forgetFirst s m args below meth c H locs 0 0 Q (F0 m 56 ls []) := by
    intro k_gates_1 k_turned_2 k_olds_3 H locs ls h hw hl
    replace h := ap3 ej56_1 h
    refine lv_aload_n hx hb dX0_forgetFirst_56 rfl (lv_at hl 0 rfl) ?_
    refine lv_bipush (v := (13 : Int32)) hx hb dX0_forgetFirst_57 (by decide) ?_
    refine z_put S hw F22 P22 rfl rfl 0 rfl (Nat.le_of_ble_eq_true rfl) dX0_forgetFirst_59 (fun H locs hw => ?_)
    cases h
    exact z_vret S hQ hr hw [0, 1, 2, 3] rfl rfl dX0_forgetFirst_62
  have hL2_1 : ∀ (nf : Nat) (x1_4 : Int32) (k_gates_5 : (Nat → Int32)) (k_turned_6 : (Nat → Int32)) (k_olds_7 : (Nat → Int32)) (H : Heap) (locs : List Loc) (ls : Array Slot), f_X0_forgetFirst_L2 N j56_1 nf x1_4 k_gates_5 k_turned_6 k_olds_7 = some (o_this_size, o_gates, o_turned, o_olds) → Wd D (tyA cI cJ cZ cS) A s [(a_this, .inr (0, [.ref a_gates, .ref a_turned, .ref a_olds, .int i_this_size])), (a_gates, .inl (cI, 14, .inl k_gates_5)), (a_turned, .inl (cZ, 14, .inl k_turned_6)), (a_olds, .inl (cI, 14, .inl k_olds_7))] H locs → lv_has ls 2 [(0, .ref a_this), (1, .int x1_4)] → W p l e rmX0_forgetFirst s m args below meth c H locs 0 0 Q (F0 m 2 ls []) := by
    intro nf
    induction nf with
    | zero =>
      intro x1_4 k_gates_5 k_turned_6 k_olds_7 H locs ls h
      rw [f_X0_forgetFirst_L2] at h
      cases h
    | succ n_2 ih_2 =>
      intro x1_4 k_gates_5 k_turned_6 k_olds_7 H locs ls h hw hl
      rw [f_X0_forgetFirst_L2] at h
      refine lv_iload_n hx hb dX0_forgetFirst_2 rfl (lv_at hl 1 rfl) ?_
      refine lv_bipush (v := (14 : Int32)) hx hb dX0_forgetFirst_3 (by decide) ?_
      refine lv_icmp_ge (tgt := 56) hx hb dX0_forgetFirst_5 (by decide) (fun hc => ?_) (fun hc => ?_)
      · replace h := if_t hc h
        exact hj56_1 k_gates_5 k_turned_6 k_olds_7 H locs ls h hw (lv_sub hl [0] rfl)
      · replace h := if_f hc h
        refine lv_aload_n hx hb dX0_forgetFirst_8 rfl (lv_at hl 0 rfl) ?_
        refine z_get S hw F9 0 rfl rfl dX0_forgetFirst_9 ?_
        refine lv_iload_n hx hb dX0_forgetFirst_12 rfl (lv_at hl 1 rfl) ?_
        refine lv_iconst (v := (1 : Int32)) hx hb dX0_forgetFirst_13 (by decide) ?_
        refine lv_isub hx hb dX0_forgetFirst_14 ?_
        refine lv_aload_n hx hb dX0_forgetFirst_15 rfl (lv_at hl 0 rfl) ?_
        refine z_get S hw F9 0 rfl rfl dX0_forgetFirst_16 ?_
        refine lv_iload_n hx hb dX0_forgetFirst_19 rfl (lv_at hl 1 rfl) ?_
        obtain ⟨hg, h⟩ := grd_el h
        refine z_iald S hw 1 0 rfl rfl hg dX0_forgetFirst_20 ?_
        obtain ⟨hg, h⟩ := grd_el h
        obtain ⟨k_gates_8, ek_gates_8, h⟩ := bnd_ex h
        refine z_iast S hw ek_gates_8 1 0 rfl rfl hg dX0_forgetFirst_21 (fun H locs hw => ?_)
        refine lv_aload_n hx hb dX0_forgetFirst_22 rfl (lv_at hl 0 rfl) ?_
        refine z_get S hw F15 0 rfl rfl dX0_forgetFirst_23 ?_
        refine lv_iload_n hx hb dX0_forgetFirst_26 rfl (lv_at hl 1 rfl) ?_
        refine lv_iconst (v := (1 : Int32)) hx hb dX0_forgetFirst_27 (by decide) ?_
        refine lv_isub hx hb dX0_forgetFirst_28 ?_
        refine lv_aload_n hx hb dX0_forgetFirst_29 rfl (lv_at hl 0 rfl) ?_
        refine z_get S hw F15 0 rfl rfl dX0_forgetFirst_30 ?_
        refine lv_iload_n hx hb dX0_forgetFirst_33 rfl (lv_at hl 1 rfl) ?_
        obtain ⟨hg, h⟩ := grd_el h
        refine z_zald S hw 2 2 rfl rfl hg dX0_forgetFirst_34 ?_
        obtain ⟨hg, h⟩ := grd_el h
        obtain ⟨k_turned_9, ek_turned_9, h⟩ := bnd_ex h
        refine z_zast S hw ek_turned_9 2 2 rfl rfl hg dX0_forgetFirst_35 (fun H locs hw => ?_)
        refine lv_aload_n hx hb dX0_forgetFirst_36 rfl (lv_at hl 0 rfl) ?_
        refine z_get S hw F19 0 rfl rfl dX0_forgetFirst_37 ?_
        refine lv_iload_n hx hb dX0_forgetFirst_40 rfl (lv_at hl 1 rfl) ?_
        refine lv_iconst (v := (1 : Int32)) hx hb dX0_forgetFirst_41 (by decide) ?_
        refine lv_isub hx hb dX0_forgetFirst_42 ?_
        refine lv_aload_n hx hb dX0_forgetFirst_43 rfl (lv_at hl 0 rfl) ?_
        refine z_get S hw F19 0 rfl rfl dX0_forgetFirst_44 ?_
        refine lv_iload_n hx hb dX0_forgetFirst_47 rfl (lv_at hl 1 rfl) ?_
        obtain ⟨hg, h⟩ := grd_el h
        refine z_iald S hw 3 0 rfl rfl hg dX0_forgetFirst_48 ?_
        obtain ⟨hg, h⟩ := grd_el h
        obtain ⟨k_olds_10, ek_olds_10, h⟩ := bnd_ex h
        refine z_iast S hw ek_olds_10 3 0 rfl rfl hg dX0_forgetFirst_49 (fun H locs hw => ?_)
        obtain ⟨x1_11, ex1_11, h⟩ := bnd_ex h
        refine lv_iinc (v := x1_11) (lv' := [(1, .int x1_11), (0, .ref a_this)]) hx hb dX0_forgetFirst_50 hl (k := 1) rfl (by rw [ex1_11]; rfl) (by decide) rfl (fun ls hl => ?_)
        refine lv_goto (tgt := 2) hx hb dX0_forgetFirst_53 (by decide) ?_
        exact ih_2 x1_11 k_gates_8 k_turned_9 k_olds_10 H locs ls h hw (lv_sub hl [1, 0] rfl)
  exact hL2_1 N ((1 : Int32)) k_gates k_turned k_olds H locs ls h hw (lv_sub hl [1, 0] rfl)
abbrev rmX0_add : Room := { frames := 1, cells := 0, slots := 0, locals := 21 }
theorem dv_X0_add : yX0_add.cls = RX0 ∧ yX0_add.cls ≠ "java/lang/invoke/MethodHandle" ∧ yX0_add.cls ≠ "java/lang/invoke/VarHandle" ∧ (parseMethodDescriptor yX0_add.desc).map (fun d => d.parameters.length) = some 3 := by decide +kernel
noncomputable def f_X0_add (N : Nat) (y1 : Int32) (y2 : Int32) (y3 : Int32) (i_this_size : Int32) (k_gates : (Nat → Int32)) (k_turned : (Nat → Int32)) (k_olds : (Nat → Int32)) : Option (Int32 × (Nat → Int32) × (Nat → Int32) × (Nat → Int32)) :=
  bnd (fun (i_this_size_1 : Int32) (k_gates_2 : (Nat → Int32)) (k_turned_3 : (Nat → Int32)) (k_olds_4 : (Nat → Int32)) => (grd (inb i_this_size_1 14) <| bnd (upd k_gates_2 i_this_size_1.toNatClampNeg y1) fun (k_gates_5 : (Nat → Int32)) => grd (inb i_this_size_1 14) <| bnd (upd k_turned_3 i_this_size_1.toNatClampNeg (vp_nar .boolean y2)) fun (k_turned_6 : (Nat → Int32)) => grd (inb i_this_size_1 14) <| bnd (upd k_olds_4 i_this_size_1.toNatClampNeg y3) fun (k_olds_7 : (Nat → Int32)) => bnd ((i_this_size_1 + (1 : Int32))) fun (i_size_8 : Int32) => some (i_size_8, k_gates_5, k_turned_6, k_olds_7))) fun (j13_1 : Int32 → (Nat → Int32) → (Nat → Int32) → (Nat → Int32) → Option (Int32 × (Nat → Int32) × (Nat → Int32) × (Nat → Int32))) => (if i_this_size < (14 : Int32) then (j13_1 i_this_size k_gates k_turned k_olds) else (obd4 (f_X0_forgetFirst N i_this_size k_gates k_turned k_olds) fun (i_this_size_9 : Int32) (k_gates_10 : (Nat → Int32)) (k_turned_11 : (Nat → Int32)) (k_olds_12 : (Nat → Int32)) => j13_1 i_this_size_9 k_gates_10 k_turned_11 k_olds_12))
set_option maxHeartbeats 4000000 in
set_option maxRecDepth 100000 in
theorem c_X0_add (l : Launch) (D : va_G) (cI cJ cZ cS : ClassId) (sz N : Nat) (a_this a_gates a_turned a_olds : Nat) (i_this_size : Int32) (k_gates : (Nat → Int32)) (k_turned : (Nat → Int32)) (k_olds : (Nat → Int32)) (y1 : Int32) (y2 : Int32) (y3 : Int32) (o_this_size : Int32) (o_gates : (Nat → Int32)) (o_turned : (Nat → Int32)) (o_olds : (Nat → Int32)) (hf : f_X0_add N y1 y2 y3 i_this_size k_gates k_turned k_olds = some (o_this_size, o_gates, o_turned, o_olds)) : MetV l yX0_add wsX0_add rmX0_add D (tyA cI cJ cZ cS) [(a_this, .inr (0, [.ref a_gates, .ref a_turned, .ref a_olds, .int i_this_size])), (a_gates, .inl (cI, 14, .inl k_gates)), (a_turned, .inl (cZ, 14, .inl k_turned)), (a_olds, .inl (cI, 14, .inl k_olds))] sz [.ref a_this, .int y1, .int y2, .int y3] [(a_this, .inr (0, [.ref a_gates, .ref a_turned, .ref a_olds, .int o_this_size])), (a_gates, .inl (cI, 14, .inl o_gates)), (a_turned, .inl (cZ, 14, .inl o_turned)), (a_olds, .inl (cI, 14, .inl o_olds))] := by
  refine entV (cc := cX0_add) (maxL := 4) (own := RX0) (by decide) rfl rfl (Nat.le_of_ble_eq_true rfl) ?_
  intro p e s m args below meth c A ls Q H locs S hr hw hl hQ
  have hx := S.1.1
  have hb := S.1.2.1
  have hts := S.1.2.2.2.2
  have hl : lv_has ls 4 [(0, .ref a_this), (1, .int y1), (2, .int y2), (3, .int y3)] := hl
  have hinX0 : ∀ w ∈ u_ws RX0 TX0 4, w ∈ wsX0_add := (fun _ h => List.mem_cons_of_mem _ (List.mem_append_right _ h))
  have F9 : FLk s args wsX0_add RX0 9 RX0 TX0 4 0 0 := ⟨hinX0, rfl, by decide, hts (.fieldLink RX0 9 "SlowPaths$Acts" "gates" "[I") (List.mem_of_getElem? (i := 2) rfl)⟩
  have F15 : FLk s args wsX0_add RX0 15 RX0 TX0 4 0 1 := ⟨hinX0, rfl, by decide, hts (.fieldLink RX0 15 "SlowPaths$Acts" "turned" "[Z") (List.mem_of_getElem? (i := 3) rfl)⟩
  have F19 : FLk s args wsX0_add RX0 19 RX0 TX0 4 0 2 := ⟨hinX0, rfl, by decide, hts (.fieldLink RX0 19 "SlowPaths$Acts" "olds" "[I") (List.mem_of_getElem? (i := 4) rfl)⟩
  have F22 : FLk s args wsX0_add RX0 22 RX0 TX0 4 0 3 := ⟨hinX0, rfl, by decide, hts (.fieldLink RX0 22 "SlowPaths$Acts" "size" "I") (List.mem_of_getElem? (i := 1) rfl)⟩
  have P22 : PLk TX0 4 3 tyX0 false .int := ⟨tyX0_ok, nmX0, rfl, rfl⟩
  have h := hf
  rw [f_X0_add] at h
  refine lv_aload_n hx hb dX0_add_0 rfl (lv_at hl 0 rfl) ?_
  refine z_get S hw F22 0 rfl rfl dX0_add_1 ?_
  refine lv_bipush (v := (14 : Int32)) hx hb dX0_add_4 (by decide) ?_
  obtain ⟨j13_1, ej13_1, h⟩ := bnd_ex h
  have hj13_1 : ∀ (i_this_size_1 : Int32) (k_gates_2 : (Nat → Int32)) (k_turned_3 : (Nat → Int32)) (k_olds_4 : (Nat → Int32)) (H : Heap) (locs : List Loc) (ls : Array Slot), j13_1 i_this_size_1 k_gates_2 k_turned_3 k_olds_4 = some (o_this_size, o_gates, o_turned, o_olds) → Wd D (tyA cI cJ cZ cS) A s [(a_this, .inr (0, [.ref a_gates, .ref a_turned, .ref a_olds, .int i_this_size_1])), (a_gates, .inl (cI, 14, .inl k_gates_2)), (a_turned, .inl (cZ, 14, .inl k_turned_3)), (a_olds, .inl (cI, 14, .inl k_olds_4))] H locs → lv_has ls 4 [(0, .ref a_this), (1, .int y1), (2, .int y2), (3, .int y3)] → W p l e rmX0_add s m args below meth c H locs 0 0 Q (F0 m 13 ls []) := by
    intro i_this_size_1 k_gates_2 k_turned_3 k_olds_4 H locs ls h hw hl
    replace h := ap4 ej13_1 h
    refine lv_aload_n hx hb dX0_add_13 rfl (lv_at hl 0 rfl) ?_
    refine z_get S hw F9 0 rfl rfl dX0_add_14 ?_
    refine lv_aload_n hx hb dX0_add_17 rfl (lv_at hl 0 rfl) ?_
    refine z_get S hw F22 0 rfl rfl dX0_add_18 ?_
    refine lv_iload_n hx hb dX0_add_21 rfl (lv_at hl 1 rfl) ?_
    obtain ⟨hg, h⟩ := grd_el h
    obtain ⟨k_gates_5, ek_gates_5, h⟩ := bnd_ex h
    refine z_iast S hw ek_gates_5 1 0 rfl rfl hg dX0_add_22 (fun H locs hw => ?_)
    refine lv_aload_n hx hb dX0_add_23 rfl (lv_at hl 0 rfl) ?_
    refine z_get S hw F15 0 rfl rfl dX0_add_24 ?_
    refine lv_aload_n hx hb dX0_add_27 rfl (lv_at hl 0 rfl) ?_
    refine z_get S hw F22 0 rfl rfl dX0_add_28 ?_
    refine lv_iload_n hx hb dX0_add_31 rfl (lv_at hl 2 rfl) ?_
    obtain ⟨hg, h⟩ := grd_el h
    obtain ⟨k_turned_6, ek_turned_6, h⟩ := bnd_ex h
    refine z_zast S hw ek_turned_6 2 2 rfl rfl hg dX0_add_32 (fun H locs hw => ?_)
    refine lv_aload_n hx hb dX0_add_33 rfl (lv_at hl 0 rfl) ?_
    refine z_get S hw F19 0 rfl rfl dX0_add_34 ?_
    refine lv_aload_n hx hb dX0_add_37 rfl (lv_at hl 0 rfl) ?_
    refine z_get S hw F22 0 rfl rfl dX0_add_38 ?_
    refine lv_iload_n hx hb dX0_add_41 rfl (lv_at hl 3 rfl) ?_
    obtain ⟨hg, h⟩ := grd_el h
    obtain ⟨k_olds_7, ek_olds_7, h⟩ := bnd_ex h
    refine z_iast S hw ek_olds_7 3 0 rfl rfl hg dX0_add_42 (fun H locs hw => ?_)
    refine lv_aload_n hx hb dX0_add_43 rfl (lv_at hl 0 rfl) ?_
    refine lv_dup hx hb dX0_add_44 rfl ?_
    refine z_get S hw F22 0 rfl rfl dX0_add_45 ?_
    refine lv_iconst (v := (1 : Int32)) hx hb dX0_add_48 (by decide) ?_
    refine lv_iadd hx hb dX0_add_49 ?_
    refine lv_topi (fun i_size_8 ei_size_8 => ?_)
    replace h := bnd_at ei_size_8 h
    refine z_put S hw F22 P22 rfl rfl 0 rfl (Nat.le_of_ble_eq_true rfl) dX0_add_50 (fun H locs hw => ?_)
    cases h
    exact z_vret S hQ hr hw [0, 1, 2, 3] rfl rfl dX0_add_53
  refine lv_icmp_lt (tgt := 13) hx hb dX0_add_6 (by decide) (fun hc => ?_) (fun hc => ?_)
  · replace h := if_t hc h
    exact hj13_1 i_this_size k_gates k_turned k_olds H locs ls h hw hl
  · replace h := if_f hc h
    refine lv_aload_n hx hb dX0_add_9 rfl (lv_at hl 0 rfl) ?_
    obtain ⟨i_this_size_9, k_gates_10, k_turned_11, k_olds_12, e10_1, h⟩ := obd4_el h
    refine zc_VV (As := []) (rest := []) (wr := []) (q0 := 0) S hw (c_X0_forgetFirst l D cI cJ cZ cS H.size N a_this a_gates a_turned a_olds i_this_size k_gates k_turned k_olds i_this_size_9 k_gates_10 k_turned_11 k_olds_12 e10_1) (cwV 0 hts gX0_add_X0_forgetFirst rfl rfl rfl dv_X0_forgetFirst ⟨Nat.le_of_ble_eq_true rfl, Nat.le_of_ble_eq_true rfl⟩) [0, 1, 2, 3] [] rfl rfl rfl rfl (by decide) rfl rfl rfl rfl hl.1 rfl (Nat.le_of_ble_eq_true rfl) dX0_add_10 ⟨Nat.zero_le _, Nat.zero_le _⟩ (fun H locs hw => ?_)
    exact hj13_1 i_this_size_9 k_gates_10 k_turned_11 k_olds_12 H locs ls h hw hl
abbrev rmX0_takeBack : Room := { frames := 0, cells := 0, slots := 0, locals := 0 }
theorem dv_X0_takeBack : yX0_takeBack.cls = RX0 ∧ yX0_takeBack.cls ≠ "java/lang/invoke/MethodHandle" ∧ yX0_takeBack.cls ≠ "java/lang/invoke/VarHandle" ∧ (parseMethodDescriptor yX0_takeBack.desc).map (fun d => d.parameters.length) = some 2 := by decide +kernel
noncomputable def f_X0_takeBack (N : Nat) (y2 : Int32) (k_turned : (Nat → Int32)) (k_gates : (Nat → Int32)) (k_olds : (Nat → Int32)) (k_p1_delays : (Nat → Int32)) (k_p1_kinds : (Nat → Int32)) : Option ((Nat → Int32) × (Nat → Int32)) :=
  grd (inb y2 14) <| (if (k_turned y2.toNatClampNeg) = (0 : Int32) then (grd (inb y2 14) <| grd (inb y2 14) <| grd (inb (k_gates y2.toNatClampNeg) 8) <| bnd (upd k_p1_delays (k_gates y2.toNatClampNeg).toNatClampNeg (k_olds y2.toNatClampNeg)) fun (k_p1_delays_1 : (Nat → Int32)) => some (k_p1_delays_1, k_p1_kinds)) else (grd (inb y2 14) <| grd (inb y2 14) <| grd (inb (k_gates y2.toNatClampNeg) 8) <| bnd (upd k_p1_kinds (k_gates y2.toNatClampNeg).toNatClampNeg (k_olds y2.toNatClampNeg)) fun (k_p1_kinds_2 : (Nat → Int32)) => some (k_p1_delays, k_p1_kinds_2)))
set_option maxHeartbeats 4000000 in
set_option maxRecDepth 100000 in
theorem c_X0_takeBack (l : Launch) (D : va_G) (cI cJ cZ cS : ClassId) (sz N : Nat) (a_this a_p1 a_turned a_gates a_olds a_p1_delays a_p1_kinds : Nat) (i_this_size : Int32) (i_p1_held : Int32) (k_turned : (Nat → Int32)) (k_gates : (Nat → Int32)) (k_olds : (Nat → Int32)) (k_p1_delays : (Nat → Int32)) (k_p1_kinds : (Nat → Int32)) (y2 : Int32) (o_p1_delays : (Nat → Int32)) (o_p1_kinds : (Nat → Int32)) (hf : f_X0_takeBack N y2 k_turned k_gates k_olds k_p1_delays k_p1_kinds = some (o_p1_delays, o_p1_kinds)) : MetV l yX0_takeBack wsX0_takeBack rmX0_takeBack D (tyA cI cJ cZ cS) [(a_this, .inr (0, [.ref a_gates, .ref a_turned, .ref a_olds, .int i_this_size])), (a_p1, .inr (5, [.ref a_p1_kinds, .ref a_p1_delays, .int i_p1_held])), (a_turned, .inl (cZ, 14, .inl k_turned)), (a_gates, .inl (cI, 14, .inl k_gates)), (a_olds, .inl (cI, 14, .inl k_olds)), (a_p1_delays, .inl (cI, 8, .inl k_p1_delays)), (a_p1_kinds, .inl (cI, 8, .inl k_p1_kinds))] sz [.ref a_this, .ref a_p1, .int y2] [(a_this, .inr (0, [.ref a_gates, .ref a_turned, .ref a_olds, .int i_this_size])), (a_p1, .inr (5, [.ref a_p1_kinds, .ref a_p1_delays, .int i_p1_held])), (a_turned, .inl (cZ, 14, .inl k_turned)), (a_gates, .inl (cI, 14, .inl k_gates)), (a_olds, .inl (cI, 14, .inl k_olds)), (a_p1_delays, .inl (cI, 8, .inl o_p1_delays)), (a_p1_kinds, .inl (cI, 8, .inl o_p1_kinds))] := by
  refine entV (cc := cX0_takeBack) (maxL := 3) (own := RX0) (by decide) rfl rfl (Nat.le_of_ble_eq_true rfl) ?_
  intro p e s m args below meth c A ls Q H locs S hr hw hl hQ
  have hx := S.1.1
  have hb := S.1.2.1
  have hts := S.1.2.2.2.2
  have hl : lv_has ls 3 [(0, .ref a_this), (1, .ref a_p1), (2, .int y2)] := hl
  have hinX0 : ∀ w ∈ u_ws RX0 TX0 4, w ∈ wsX0_takeBack := (fun _ h => List.mem_cons_of_mem _ (List.mem_append_left _ (List.mem_append_right _ h)))
  have F9 : FLk s args wsX0_takeBack RX0 9 RX0 TX0 4 0 0 := ⟨hinX0, rfl, by decide, hts (.fieldLink RX0 9 "SlowPaths$Acts" "gates" "[I") (List.mem_of_getElem? (i := 3) rfl)⟩
  have F15 : FLk s args wsX0_takeBack RX0 15 RX0 TX0 4 0 1 := ⟨hinX0, rfl, by decide, hts (.fieldLink RX0 15 "SlowPaths$Acts" "turned" "[Z") (List.mem_of_getElem? (i := 1) rfl)⟩
  have F19 : FLk s args wsX0_takeBack RX0 19 RX0 TX0 4 0 2 := ⟨hinX0, rfl, by decide, hts (.fieldLink RX0 19 "SlowPaths$Acts" "olds" "[I") (List.mem_of_getElem? (i := 4) rfl)⟩
  have hinX5 : ∀ w ∈ u_ws RX5 TX5 3, w ∈ wsX0_takeBack := (fun _ h => List.mem_cons_of_mem _ (List.mem_append_right _ h))
  have F29 : FLk s args wsX0_takeBack RX0 29 RX5 TX5 3 5 0 := ⟨hinX5, rfl, by decide, hts (.fieldLink RX0 29 "SlowPaths$Setting" "kinds" "[I") (List.mem_of_getElem? (i := 2) rfl)⟩
  have F34 : FLk s args wsX0_takeBack RX0 34 RX5 TX5 3 5 1 := ⟨hinX5, rfl, by decide, hts (.fieldLink RX0 34 "SlowPaths$Setting" "delays" "[I") (List.mem_of_getElem? (i := 5) rfl)⟩
  have h := hf
  rw [f_X0_takeBack] at h
  refine lv_aload_n hx hb dX0_takeBack_0 rfl (lv_at hl 0 rfl) ?_
  refine z_get S hw F15 0 rfl rfl dX0_takeBack_1 ?_
  refine lv_iload_n hx hb dX0_takeBack_4 rfl (lv_at hl 2 rfl) ?_
  obtain ⟨hg, h⟩ := grd_el h
  refine z_zald S hw 2 2 rfl rfl hg dX0_takeBack_5 ?_
  refine lv_if_eq (tgt := 29) hx hb dX0_takeBack_6 (by decide) (fun hc => ?_) (fun hc => ?_)
  · replace h := if_t hc h
    refine lv_aload_n hx hb dX0_takeBack_29 rfl (lv_at hl 1 rfl) ?_
    refine z_get S hw F34 1 rfl rfl dX0_takeBack_30 ?_
    refine lv_aload_n hx hb dX0_takeBack_33 rfl (lv_at hl 0 rfl) ?_
    refine z_get S hw F9 0 rfl rfl dX0_takeBack_34 ?_
    refine lv_iload_n hx hb dX0_takeBack_37 rfl (lv_at hl 2 rfl) ?_
    obtain ⟨hg, h⟩ := grd_el h
    refine z_iald S hw 3 0 rfl rfl hg dX0_takeBack_38 ?_
    refine lv_aload_n hx hb dX0_takeBack_39 rfl (lv_at hl 0 rfl) ?_
    refine z_get S hw F19 0 rfl rfl dX0_takeBack_40 ?_
    refine lv_iload_n hx hb dX0_takeBack_43 rfl (lv_at hl 2 rfl) ?_
    obtain ⟨hg, h⟩ := grd_el h
    refine z_iald S hw 4 0 rfl rfl hg dX0_takeBack_44 ?_
    obtain ⟨hg, h⟩ := grd_el h
    obtain ⟨k_p1_delays_1, ek_p1_delays_1, h⟩ := bnd_ex h
    refine z_iast S hw ek_p1_delays_1 5 0 rfl rfl hg dX0_takeBack_45 (fun H locs hw => ?_)
    cases h
    exact z_vret S hQ hr hw [0, 1, 2, 3, 4, 5, 6] rfl rfl dX0_takeBack_46
  · replace h := if_f hc h
    refine lv_aload_n hx hb dX0_takeBack_9 rfl (lv_at hl 1 rfl) ?_
    refine z_get S hw F29 1 rfl rfl dX0_takeBack_10 ?_
    refine lv_aload_n hx hb dX0_takeBack_13 rfl (lv_at hl 0 rfl) ?_
    refine z_get S hw F9 0 rfl rfl dX0_takeBack_14 ?_
    refine lv_iload_n hx hb dX0_takeBack_17 rfl (lv_at hl 2 rfl) ?_
    obtain ⟨hg, h⟩ := grd_el h
    refine z_iald S hw 3 0 rfl rfl hg dX0_takeBack_18 ?_
    refine lv_aload_n hx hb dX0_takeBack_19 rfl (lv_at hl 0 rfl) ?_
    refine z_get S hw F19 0 rfl rfl dX0_takeBack_20 ?_
    refine lv_iload_n hx hb dX0_takeBack_23 rfl (lv_at hl 2 rfl) ?_
    obtain ⟨hg, h⟩ := grd_el h
    refine z_iald S hw 4 0 rfl rfl hg dX0_takeBack_24 ?_
    obtain ⟨hg, h⟩ := grd_el h
    obtain ⟨k_p1_kinds_2, ek_p1_kinds_2, h⟩ := bnd_ex h
    refine z_iast S hw ek_p1_kinds_2 6 0 rfl rfl hg dX0_takeBack_25 (fun H locs hw => ?_)
    refine lv_goto (tgt := 46) hx hb dX0_takeBack_26 (by decide) ?_
    cases h
    exact z_vret S hQ hr hw [0, 1, 2, 3, 4, 5, 6] rfl rfl dX0_takeBack_46
abbrev rmX1_both : Room := { frames := 0, cells := 0, slots := 0, locals := 0 }
theorem ds_X1_both : yX1_both.cls ≠ "java/lang/invoke/MethodHandle" ∧ yX1_both.cls ≠ "java/lang/invoke/VarHandle" ∧ (parseMethodDescriptor yX1_both.desc).map (fun d => d.parameters.length) = some 2 := by decide +kernel
noncomputable def f_X1_both (N : Nat) (y0 : Int32) (y1 : Int32)  : Option (Int32) :=
  (if y0 = (0 : Int32) then (some ((0 : Int32))) else ((if y1 = (0 : Int32) then (some ((0 : Int32))) else (bnd (α := Option (Int32)) (some (((2 : Int32) + ((y0 &&& y1) &&& (1 : Int32))))) fun (j22_1 : Option (Int32)) => (if y0 = (1 : Int32) then ((if y1 = (1 : Int32) then (some ((1 : Int32))) else (j22_1))) else (j22_1))))))
set_option maxHeartbeats 4000000 in
set_option maxRecDepth 100000 in
theorem c_X1_both (l : Launch) (D : va_G) (cI cJ cZ cS : ClassId) (sz N : Nat)   (y0 : Int32) (y1 : Int32) (rr : Int32) (hf : f_X1_both N y0 y1 = some (rr)) : MetIr l yX1_both wsX1_both rmX1_both D (tyA cI cJ cZ cS) [] sz [.int y0, .int y1] rr := by
  refine entIr (cc := cX1_both) (maxL := 2) (own := RX1) (by decide) rfl rfl (Nat.le_of_ble_eq_true rfl) ?_
  intro p e s m args below meth c A ls Q S hr hw hl hQ
  have hx := S.1.1
  have hb := S.1.2.1
  have hts := S.1.2.2.2.2
  have hl : lv_has ls 2 [(0, .int y0), (1, .int y1)] := hl
  have h := hf
  rw [f_X1_both] at h
  refine lv_iload_n hx hb dX1_both_0 rfl (lv_at hl 0 rfl) ?_
  refine lv_if_eq (tgt := 8) hx hb dX1_both_1 (by decide) (fun hc => ?_) (fun hc => ?_)
  · replace h := if_t hc h
    refine lv_iconst (v := (0 : Int32)) hx hb dX1_both_8 (by decide) ?_
    cases h
    exact z_iretr S hQ hr dX1_both_9
  · replace h := if_f hc h
    refine lv_iload_n hx hb dX1_both_4 rfl (lv_at hl 1 rfl) ?_
    refine lv_if_ne (tgt := 10) hx hb dX1_both_5 (by decide) (fun hc => ?_) (fun hc => ?_)
    · replace h := if_f hc h
      refine lv_iload_n hx hb dX1_both_10 rfl (lv_at hl 0 rfl) ?_
      refine lv_iconst (v := (1 : Int32)) hx hb dX1_both_11 (by decide) ?_
      obtain ⟨j22_1, ej22_1, h⟩ := bnd_ex h
      have hj22_1 : ∀ (ls : Array Slot), j22_1 = some (rr) → lv_has ls 2 [(0, .int y0), (1, .int y1)] → W p l e rmX1_both s m args below meth c s.heap [] 0 0 Q (F0 m 22 ls []) := by
        intro ls h hl
        replace h := ap0 ej22_1 h
        refine lv_iconst (v := (2 : Int32)) hx hb dX1_both_22 (by decide) ?_
        refine lv_iload_n hx hb dX1_both_23 rfl (lv_at hl 0 rfl) ?_
        refine lv_iload_n hx hb dX1_both_24 rfl (lv_at hl 1 rfl) ?_
        refine lv_iand hx hb dX1_both_25 ?_
        refine lv_iconst (v := (1 : Int32)) hx hb dX1_both_26 (by decide) ?_
        refine lv_iand hx hb dX1_both_27 ?_
        refine lv_iadd hx hb dX1_both_28 ?_
        cases h
        exact z_iretr S hQ hr dX1_both_29
      refine lv_icmp_ne (tgt := 22) hx hb dX1_both_12 (by decide) (fun hc => ?_) (fun hc => ?_)
      · replace h := if_f hc h
        exact hj22_1  ls h hl
      · replace h := if_t hc h
        refine lv_iload_n hx hb dX1_both_15 rfl (lv_at hl 1 rfl) ?_
        refine lv_iconst (v := (1 : Int32)) hx hb dX1_both_16 (by decide) ?_
        refine lv_icmp_ne (tgt := 22) hx hb dX1_both_17 (by decide) (fun hc => ?_) (fun hc => ?_)
        · replace h := if_f hc h
          exact hj22_1  ls h hl
        · replace h := if_t hc h
          refine lv_iconst (v := (1 : Int32)) hx hb dX1_both_20 (by decide) ?_
          cases h
          exact z_iretr S hQ hr dX1_both_21
    · replace h := if_t hc h
      refine lv_iconst (v := (0 : Int32)) hx hb dX1_both_8 (by decide) ?_
      cases h
      exact z_iretr S hQ hr dX1_both_9
abbrev rmX1_any : Room := { frames := 0, cells := 0, slots := 0, locals := 0 }
theorem ds_X1_any : yX1_any.cls ≠ "java/lang/invoke/MethodHandle" ∧ yX1_any.cls ≠ "java/lang/invoke/VarHandle" ∧ (parseMethodDescriptor yX1_any.desc).map (fun d => d.parameters.length) = some 2 := by decide +kernel
noncomputable def f_X1_any (N : Nat) (y0 : Int32) (y1 : Int32)  : Option (Int32) :=
  (if y0 = (1 : Int32) then (some ((1 : Int32))) else ((if y1 = (1 : Int32) then (some ((1 : Int32))) else (bnd (α := Option (Int32)) (some (((2 : Int32) + ((y0 ||| y1) &&& (1 : Int32))))) fun (j22_1 : Option (Int32)) => (if y0 = (0 : Int32) then ((if y1 = (0 : Int32) then (some ((0 : Int32))) else (j22_1))) else (j22_1))))))
set_option maxHeartbeats 4000000 in
set_option maxRecDepth 100000 in
theorem c_X1_any (l : Launch) (D : va_G) (cI cJ cZ cS : ClassId) (sz N : Nat)   (y0 : Int32) (y1 : Int32) (rr : Int32) (hf : f_X1_any N y0 y1 = some (rr)) : MetIr l yX1_any wsX1_any rmX1_any D (tyA cI cJ cZ cS) [] sz [.int y0, .int y1] rr := by
  refine entIr (cc := cX1_any) (maxL := 2) (own := RX1) (by decide) rfl rfl (Nat.le_of_ble_eq_true rfl) ?_
  intro p e s m args below meth c A ls Q S hr hw hl hQ
  have hx := S.1.1
  have hb := S.1.2.1
  have hts := S.1.2.2.2.2
  have hl : lv_has ls 2 [(0, .int y0), (1, .int y1)] := hl
  have h := hf
  rw [f_X1_any] at h
  refine lv_iload_n hx hb dX1_any_0 rfl (lv_at hl 0 rfl) ?_
  refine lv_iconst (v := (1 : Int32)) hx hb dX1_any_1 (by decide) ?_
  refine lv_icmp_eq (tgt := 10) hx hb dX1_any_2 (by decide) (fun hc => ?_) (fun hc => ?_)
  · replace h := if_t hc h
    refine lv_iconst (v := (1 : Int32)) hx hb dX1_any_10 (by decide) ?_
    cases h
    exact z_iretr S hQ hr dX1_any_11
  · replace h := if_f hc h
    refine lv_iload_n hx hb dX1_any_5 rfl (lv_at hl 1 rfl) ?_
    refine lv_iconst (v := (1 : Int32)) hx hb dX1_any_6 (by decide) ?_
    refine lv_icmp_ne (tgt := 12) hx hb dX1_any_7 (by decide) (fun hc => ?_) (fun hc => ?_)
    · replace h := if_f hc h
      refine lv_iload_n hx hb dX1_any_12 rfl (lv_at hl 0 rfl) ?_
      obtain ⟨j22_1, ej22_1, h⟩ := bnd_ex h
      have hj22_1 : ∀ (ls : Array Slot), j22_1 = some (rr) → lv_has ls 2 [(0, .int y0), (1, .int y1)] → W p l e rmX1_any s m args below meth c s.heap [] 0 0 Q (F0 m 22 ls []) := by
        intro ls h hl
        replace h := ap0 ej22_1 h
        refine lv_iconst (v := (2 : Int32)) hx hb dX1_any_22 (by decide) ?_
        refine lv_iload_n hx hb dX1_any_23 rfl (lv_at hl 0 rfl) ?_
        refine lv_iload_n hx hb dX1_any_24 rfl (lv_at hl 1 rfl) ?_
        refine lv_ior hx hb dX1_any_25 ?_
        refine lv_iconst (v := (1 : Int32)) hx hb dX1_any_26 (by decide) ?_
        refine lv_iand hx hb dX1_any_27 ?_
        refine lv_iadd hx hb dX1_any_28 ?_
        cases h
        exact z_iretr S hQ hr dX1_any_29
      refine lv_if_ne (tgt := 22) hx hb dX1_any_13 (by decide) (fun hc => ?_) (fun hc => ?_)
      · replace h := if_f hc h
        exact hj22_1  ls h hl
      · replace h := if_t hc h
        refine lv_iload_n hx hb dX1_any_16 rfl (lv_at hl 1 rfl) ?_
        refine lv_if_ne (tgt := 22) hx hb dX1_any_17 (by decide) (fun hc => ?_) (fun hc => ?_)
        · replace h := if_f hc h
          exact hj22_1  ls h hl
        · replace h := if_t hc h
          refine lv_iconst (v := (0 : Int32)) hx hb dX1_any_20 (by decide) ?_
          cases h
          exact z_iretr S hQ hr dX1_any_21
    · replace h := if_t hc h
      refine lv_iconst (v := (1 : Int32)) hx hb dX1_any_10 (by decide) ?_
      cases h
      exact z_iretr S hQ hr dX1_any_11
abbrev rmX1_swapped : Room := { frames := 0, cells := 0, slots := 0, locals := 0 }
theorem ds_X1_swapped : yX1_swapped.cls ≠ "java/lang/invoke/MethodHandle" ∧ yX1_swapped.cls ≠ "java/lang/invoke/VarHandle" ∧ (parseMethodDescriptor yX1_swapped.desc).map (fun d => d.parameters.length) = some 1 := by decide +kernel
noncomputable def f_X1_swapped (N : Nat) (y0 : Int32)  : Option (Int32) :=
  some ((y0 ^^^ (1 : Int32)))
set_option maxHeartbeats 4000000 in
set_option maxRecDepth 100000 in
theorem c_X1_swapped (l : Launch) (D : va_G) (cI cJ cZ cS : ClassId) (sz N : Nat)   (y0 : Int32) (rr : Int32) (hf : f_X1_swapped N y0 = some (rr)) : MetIr l yX1_swapped wsX1_swapped rmX1_swapped D (tyA cI cJ cZ cS) [] sz [.int y0] rr := by
  refine entIr (cc := cX1_swapped) (maxL := 1) (own := RX1) (by decide) rfl rfl (Nat.le_of_ble_eq_true rfl) ?_
  intro p e s m args below meth c A ls Q S hr hw hl hQ
  have hx := S.1.1
  have hb := S.1.2.1
  have hts := S.1.2.2.2.2
  have hl : lv_has ls 1 [(0, .int y0)] := hl
  have h := hf
  rw [f_X1_swapped] at h
  refine lv_iload_n hx hb dX1_swapped_0 rfl (lv_at hl 0 rfl) ?_
  refine lv_iconst (v := (1 : Int32)) hx hb dX1_swapped_1 (by decide) ?_
  refine lv_ixor hx hb dX1_swapped_2 ?_
  cases h
  exact z_iretr S hQ hr dX1_swapped_3
abbrev rmX1_made : Room := { frames := 1, cells := 0, slots := 0, locals := 21 }
theorem ds_X1_made : yX1_made.cls ≠ "java/lang/invoke/MethodHandle" ∧ yX1_made.cls ≠ "java/lang/invoke/VarHandle" ∧ (parseMethodDescriptor yX1_made.desc).map (fun d => d.parameters.length) = some 3 := by decide +kernel
noncomputable def f_X1_made (N : Nat) (y0 : Int32) (y1 : Int32) (y2 : Int32)  : Option (Int32) :=
  (if y0 = (0 : Int32) then (obd1 (f_X1_both N y1 y2) fun (r_1 : Int32) => some (r_1)) else (if y0 = (1 : Int32) then (obd1 (f_X1_any N y1 y2) fun (r_2 : Int32) => some (r_2)) else (if y0 = (2 : Int32) then (obd1 (f_X1_both N y1 y2) fun (r_3 : Int32) => obd1 (f_X1_swapped N r_3) fun (r_4 : Int32) => some (r_4)) else (if y0 = (3 : Int32) then (obd1 (f_X1_any N y1 y2) fun (r_5 : Int32) => obd1 (f_X1_swapped N r_5) fun (r_6 : Int32) => some (r_6)) else obd1 (f_X1_swapped N y1) fun (r_7 : Int32) => some (r_7)))))
set_option maxHeartbeats 4000000 in
set_option maxRecDepth 100000 in
theorem c_X1_made (l : Launch) (D : va_G) (cI cJ cZ cS : ClassId) (sz N : Nat)   (y0 : Int32) (y1 : Int32) (y2 : Int32) (rr : Int32) (hf : f_X1_made N y0 y1 y2 = some (rr)) : MetIr l yX1_made wsX1_made rmX1_made D (tyA cI cJ cZ cS) [] sz [.int y0, .int y1, .int y2] rr := by
  refine entIr (cc := cX1_made) (maxL := 3) (own := RX1) (by decide) rfl rfl (Nat.le_of_ble_eq_true rfl) ?_
  intro p e s m args below meth c A ls Q S hr hw hl hQ
  have hx := S.1.1
  have hb := S.1.2.1
  have hts := S.1.2.2.2.2
  have hl : lv_has ls 3 [(0, .int y0), (1, .int y1), (2, .int y2)] := hl
  have h := hf
  rw [f_X1_made] at h
  refine lv_iload_n hx hb dX1_made_0 rfl (lv_at hl 0 rfl) ?_
  by_cases hs0 : y0 = (0 : Int32)
  · replace h := if_t hs0 h
    refine lv_tableIn (off := 31) (tgt := 32) hx hb dX1_made_1 (by rw [hs0]; decide) (by rw [hs0]; decide) (by rw [hs0]; rfl) (by decide) ?_
    refine lv_iload_n hx hb dX1_made_32 rfl (lv_at hl 1 rfl) ?_
    refine lv_iload_n hx hb dX1_made_33 rfl (lv_at hl 2 rfl) ?_
    obtain ⟨r_1, e34_1, h⟩ := obd1_el h
    refine zr_SI (As := [.int y1, .int y2]) (rest := []) (q0 := 0) (ci := 0) (fs := []) (qc := (RX0, TX0, 4)) S hw (c_X1_both l D cI cJ cZ cS s.heap.size N y1 y2 r_1 e34_1) (va_cwS 2 hts gX1_made_X1_both rfl rfl rfl ds_X1_both ⟨Nat.le_of_ble_eq_true rfl, Nat.le_of_ble_eq_true rfl⟩) [] rfl rfl rfl hl.1 rfl (Nat.le_of_ble_eq_true rfl) dX1_made_34 ⟨Nat.zero_le _, Nat.zero_le _⟩ ?_
    cases h
    exact z_iretr S hQ hr dX1_made_37
  replace h := if_f hs0 h
  by_cases hs1 : y0 = (1 : Int32)
  · replace h := if_t hs1 h
    refine lv_tableIn (off := 37) (tgt := 38) hx hb dX1_made_1 (by rw [hs1]; decide) (by rw [hs1]; decide) (by rw [hs1]; rfl) (by decide) ?_
    refine lv_iload_n hx hb dX1_made_38 rfl (lv_at hl 1 rfl) ?_
    refine lv_iload_n hx hb dX1_made_39 rfl (lv_at hl 2 rfl) ?_
    obtain ⟨r_2, e40_1, h⟩ := obd1_el h
    refine zr_SI (As := [.int y1, .int y2]) (rest := []) (q0 := 0) (ci := 0) (fs := []) (qc := (RX0, TX0, 4)) S hw (c_X1_any l D cI cJ cZ cS s.heap.size N y1 y2 r_2 e40_1) (va_cwS 2 hts gX1_made_X1_any rfl rfl rfl ds_X1_any ⟨Nat.le_of_ble_eq_true rfl, Nat.le_of_ble_eq_true rfl⟩) [] rfl rfl rfl hl.1 rfl (Nat.le_of_ble_eq_true rfl) dX1_made_40 ⟨Nat.zero_le _, Nat.zero_le _⟩ ?_
    cases h
    exact z_iretr S hQ hr dX1_made_43
  replace h := if_f hs1 h
  by_cases hs2 : y0 = (2 : Int32)
  · replace h := if_t hs2 h
    refine lv_tableIn (off := 43) (tgt := 44) hx hb dX1_made_1 (by rw [hs2]; decide) (by rw [hs2]; decide) (by rw [hs2]; rfl) (by decide) ?_
    refine lv_iload_n hx hb dX1_made_44 rfl (lv_at hl 1 rfl) ?_
    refine lv_iload_n hx hb dX1_made_45 rfl (lv_at hl 2 rfl) ?_
    obtain ⟨r_3, e46_1, h⟩ := obd1_el h
    refine zr_SI (As := [.int y1, .int y2]) (rest := []) (q0 := 0) (ci := 0) (fs := []) (qc := (RX0, TX0, 4)) S hw (c_X1_both l D cI cJ cZ cS s.heap.size N y1 y2 r_3 e46_1) (va_cwS 2 hts gX1_made_X1_both rfl rfl rfl ds_X1_both ⟨Nat.le_of_ble_eq_true rfl, Nat.le_of_ble_eq_true rfl⟩) [] rfl rfl rfl hl.1 rfl (Nat.le_of_ble_eq_true rfl) dX1_made_46 ⟨Nat.zero_le _, Nat.zero_le _⟩ ?_
    obtain ⟨r_4, e49_1, h⟩ := obd1_el h
    refine zr_SI (As := [.int r_3]) (rest := []) (q0 := 0) (ci := 0) (fs := []) (qc := (RX0, TX0, 4)) S hw (c_X1_swapped l D cI cJ cZ cS s.heap.size N r_3 r_4 e49_1) (va_cwS 1 hts gX1_made_X1_swapped rfl rfl rfl ds_X1_swapped ⟨Nat.le_of_ble_eq_true rfl, Nat.le_of_ble_eq_true rfl⟩) [] rfl rfl rfl hl.1 rfl (Nat.le_of_ble_eq_true rfl) dX1_made_49 ⟨Nat.zero_le _, Nat.zero_le _⟩ ?_
    cases h
    exact z_iretr S hQ hr dX1_made_52
  replace h := if_f hs2 h
  by_cases hs3 : y0 = (3 : Int32)
  · replace h := if_t hs3 h
    refine lv_tableIn (off := 52) (tgt := 53) hx hb dX1_made_1 (by rw [hs3]; decide) (by rw [hs3]; decide) (by rw [hs3]; rfl) (by decide) ?_
    refine lv_iload_n hx hb dX1_made_53 rfl (lv_at hl 1 rfl) ?_
    refine lv_iload_n hx hb dX1_made_54 rfl (lv_at hl 2 rfl) ?_
    obtain ⟨r_5, e55_1, h⟩ := obd1_el h
    refine zr_SI (As := [.int y1, .int y2]) (rest := []) (q0 := 0) (ci := 0) (fs := []) (qc := (RX0, TX0, 4)) S hw (c_X1_any l D cI cJ cZ cS s.heap.size N y1 y2 r_5 e55_1) (va_cwS 2 hts gX1_made_X1_any rfl rfl rfl ds_X1_any ⟨Nat.le_of_ble_eq_true rfl, Nat.le_of_ble_eq_true rfl⟩) [] rfl rfl rfl hl.1 rfl (Nat.le_of_ble_eq_true rfl) dX1_made_55 ⟨Nat.zero_le _, Nat.zero_le _⟩ ?_
    obtain ⟨r_6, e58_1, h⟩ := obd1_el h
    refine zr_SI (As := [.int r_5]) (rest := []) (q0 := 0) (ci := 0) (fs := []) (qc := (RX0, TX0, 4)) S hw (c_X1_swapped l D cI cJ cZ cS s.heap.size N r_5 r_6 e58_1) (va_cwS 1 hts gX1_made_X1_swapped rfl rfl rfl ds_X1_swapped ⟨Nat.le_of_ble_eq_true rfl, Nat.le_of_ble_eq_true rfl⟩) [] rfl rfl rfl hl.1 rfl (Nat.le_of_ble_eq_true rfl) dX1_made_58 ⟨Nat.zero_le _, Nat.zero_le _⟩ ?_
    cases h
    exact z_iretr S hQ hr dX1_made_61
  replace h := if_f hs3 h
  refine lv_tableOut (tgt := 62) hx hb dX1_made_1 (tb_out (fun j h1 h2 => ?_)) (by decide) ?_
  · rcases (show j = 0 ∨ j = 1 ∨ j = 2 ∨ j = 3 by omega) with rfl | rfl | rfl | rfl
    · exact fun he => hs0 (he.trans (by decide))
    · exact fun he => hs1 (he.trans (by decide))
    · exact fun he => hs2 (he.trans (by decide))
    · exact fun he => hs3 (he.trans (by decide))
  refine lv_iload_n hx hb dX1_made_62 rfl (lv_at hl 1 rfl) ?_
  obtain ⟨r_7, e63_1, h⟩ := obd1_el h
  refine zr_SI (As := [.int y1]) (rest := []) (q0 := 0) (ci := 0) (fs := []) (qc := (RX0, TX0, 4)) S hw (c_X1_swapped l D cI cJ cZ cS s.heap.size N y1 r_7 e63_1) (va_cwS 1 hts gX1_made_X1_swapped rfl rfl rfl ds_X1_swapped ⟨Nat.le_of_ble_eq_true rfl, Nat.le_of_ble_eq_true rfl⟩) [] rfl rfl rfl hl.1 rfl (Nat.le_of_ble_eq_true rfl) dX1_made_63 ⟨Nat.zero_le _, Nat.zero_le _⟩ ?_
  cases h
  exact z_iretr S hQ hr dX1_made_66
abbrev rmX1_endsAt : Room := { frames := 0, cells := 0, slots := 0, locals := 0 }
theorem ds_X1_endsAt : yX1_endsAt.cls ≠ "java/lang/invoke/MethodHandle" ∧ yX1_endsAt.cls ≠ "java/lang/invoke/VarHandle" ∧ (parseMethodDescriptor yX1_endsAt.desc).map (fun d => d.parameters.length) = some 1 := by decide +kernel
noncomputable def f_X1_endsAt (N : Nat) (y0 : Int32)  : Option (Int32) :=
  some ((y0 &&& (1 : Int32)))
set_option maxHeartbeats 4000000 in
set_option maxRecDepth 100000 in
theorem c_X1_endsAt (l : Launch) (D : va_G) (cI cJ cZ cS : ClassId) (sz N : Nat)   (y0 : Int32) (rr : Int32) (hf : f_X1_endsAt N y0 = some (rr)) : MetIr l yX1_endsAt wsX1_endsAt rmX1_endsAt D (tyA cI cJ cZ cS) [] sz [.int y0] rr := by
  refine entIr (cc := cX1_endsAt) (maxL := 1) (own := RX1) (by decide) rfl rfl (Nat.le_of_ble_eq_true rfl) ?_
  intro p e s m args below meth c A ls Q S hr hw hl hQ
  have hx := S.1.1
  have hb := S.1.2.1
  have hts := S.1.2.2.2.2
  have hl : lv_has ls 1 [(0, .int y0)] := hl
  have h := hf
  rw [f_X1_endsAt] at h
  refine lv_iload_n hx hb dX1_endsAt_0 rfl (lv_at hl 0 rfl) ?_
  refine lv_iconst (v := (1 : Int32)) hx hb dX1_endsAt_1 (by decide) ?_
  refine lv_iand hx hb dX1_endsAt_2 ?_
  cases h
  exact z_iretr S hQ hr dX1_endsAt_3
abbrev rmX1_addLink : Room := { frames := 1, cells := 0, slots := 0, locals := 20 }
theorem dv_X1_addLink : yX1_addLink.cls = RX1 ∧ yX1_addLink.cls ≠ "java/lang/invoke/MethodHandle" ∧ yX1_addLink.cls ≠ "java/lang/invoke/VarHandle" ∧ (parseMethodDescriptor yX1_addLink.desc).map (fun d => d.parameters.length) = some 4 := by decide +kernel
noncomputable def f_X1_addLink (N : Nat) (y1 : Int32) (y2 : Int32) (y3 : Int32) (y4 : Int32) (i_this_links : Int32) (i_this_sureLinks : Int32) : Option (Int32 × Int32) :=
  (if y1 = (4 : Int32) then (bnd ((i_this_links ||| y4)) fun (i_links_6 : Int32) => bnd ((i_this_sureLinks ||| y4)) fun (i_sureLinks_7 : Int32) => some (i_links_6, i_sureLinks_7)) else (bnd (fun (t_1 : Int32) => (obd1 (f_X1_endsAt N y3) fun (r_2 : Int32) => (if r_2 = t_1 then (bnd ((i_this_links ||| y4)) fun (i_links_3 : Int32) => obd1 (f_X1_endsAt N y2) fun (r_4 : Int32) => bnd (α := Option (Int32 × Int32)) (bnd ((i_this_sureLinks ||| y4)) fun (i_sureLinks_5 : Int32) => some (i_links_3, i_sureLinks_5)) fun (j79_1 : Option (Int32 × Int32)) => (if r_4 = t_1 then (j79_1) else ((if y3 = t_1 then (j79_1) else (some (i_links_3, i_this_sureLinks)))))) else (some (i_this_links, i_this_sureLinks))))) fun (j42_1 : Int32 → Option (Int32 × Int32)) => bnd (α := Option (Int32 × Int32)) (j42_1 ((1 : Int32))) fun (j37_1 : Option (Int32 × Int32)) => (if y1 = (0 : Int32) then (j37_1) else ((if y1 = (2 : Int32) then (j37_1) else (j42_1 ((0 : Int32))))))))
set_option maxHeartbeats 4000000 in
set_option maxRecDepth 100000 in
theorem c_X1_addLink (l : Launch) (D : va_G) (cI cJ cZ cS : ClassId) (sz N : Nat) (a_this a_of : Nat) (i_this_links : Int32) (i_this_sureLinks : Int32) (y1 : Int32) (y2 : Int32) (y3 : Int32) (y4 : Int32) (o_this_links : Int32) (o_this_sureLinks : Int32) (hf : f_X1_addLink N y1 y2 y3 y4 i_this_links i_this_sureLinks = some (o_this_links, o_this_sureLinks)) : MetV l yX1_addLink wsX1_addLink rmX1_addLink D (tyA cI cJ cZ cS) [(a_this, .inr (1, [.ref a_of, .int i_this_links, .int i_this_sureLinks]))] sz [.ref a_this, .int y1, .int y2, .int y3, .int y4] [(a_this, .inr (1, [.ref a_of, .int o_this_links, .int o_this_sureLinks]))] := by
  refine entV (cc := cX1_addLink) (maxL := 6) (own := RX1) (by decide) rfl rfl (Nat.le_of_ble_eq_true rfl) ?_
  intro p e s m args below meth c A ls Q H locs S hr hw hl hQ
  have hx := S.1.1
  have hb := S.1.2.1
  have hts := S.1.2.2.2.2
  have hl : lv_has ls 6 [(0, .ref a_this), (1, .int y1), (2, .int y2), (3, .int y3), (4, .int y4)] := hl
  have hinX1 : ∀ w ∈ u_ws RX1 TX1 3, w ∈ wsX1_addLink := (fun _ h => List.mem_cons_of_mem _ (List.mem_append_right _ h))
  have F15 : FLk s args wsX1_addLink RX1 15 RX1 TX1 3 1 1 := ⟨hinX1, rfl, by decide, hts (.fieldLink RX1 15 "SlowPaths$Levels" "links" "I") (List.mem_of_getElem? (i := 1) rfl)⟩
  have F19 : FLk s args wsX1_addLink RX1 19 RX1 TX1 3 1 2 := ⟨hinX1, rfl, by decide, hts (.fieldLink RX1 19 "SlowPaths$Levels" "sureLinks" "I") (List.mem_of_getElem? (i := 2) rfl)⟩
  have P15 : PLk TX1 3 1 tyX1 false .int := ⟨tyX1_ok, nmX1, rfl, rfl⟩
  have P19 : PLk TX1 3 2 tyX1 false .int := ⟨tyX1_ok, nmX1, rfl, rfl⟩
  have h := hf
  rw [f_X1_addLink] at h
  refine lv_iload_n hx hb dX1_addLink_0 rfl (lv_at hl 1 rfl) ?_
  refine lv_iconst (v := (4 : Int32)) hx hb dX1_addLink_1 (by decide) ?_
  refine lv_icmp_ne (tgt := 28) hx hb dX1_addLink_2 (by decide) (fun hc => ?_) (fun hc => ?_)
  · replace h := if_f hc h
    refine lv_iload_n hx hb dX1_addLink_28 rfl (lv_at hl 1 rfl) ?_
    obtain ⟨j42_1, ej42_1, h⟩ := bnd_ex h
    have hj42_1 : ∀ (t_1 : Int32) (H : Heap) (locs : List Loc) (ls : Array Slot), j42_1 t_1 = some (o_this_links, o_this_sureLinks) → Wd D (tyA cI cJ cZ cS) A s [(a_this, .inr (1, [.ref a_of, .int i_this_links, .int i_this_sureLinks]))] H locs → lv_has ls 6 [(0, .ref a_this), (2, .int y2), (3, .int y3), (4, .int y4)] → W p l e rmX1_addLink s m args below meth c H locs 0 0 Q (F0 m 42 ls [.int t_1]) := by
      intro t_1 H locs ls h hw hl
      replace h := ap1 ej42_1 h
      refine lv_istore (lv' := [(5, .int t_1), (0, .ref a_this), (2, .int y2), (3, .int y3), (4, .int y4)]) hx hb dX1_addLink_42 hl (by decide) rfl (fun ls hl => ?_)
      refine lv_iload_n hx hb dX1_addLink_44 rfl (lv_at hl 3 rfl) ?_
      obtain ⟨r_2, e45_1, h⟩ := obd1_el h
      refine zr_SI (As := [.int y3]) (rest := []) (q0 := 0) (ci := 0) (fs := []) (qc := (RX0, TX0, 4)) S hw (c_X1_endsAt l D cI cJ cZ cS H.size N y3 r_2 e45_1) (va_cwS 1 hts gX1_addLink_X1_endsAt rfl rfl rfl ds_X1_endsAt ⟨Nat.le_of_ble_eq_true rfl, Nat.le_of_ble_eq_true rfl⟩) [] rfl rfl rfl hl.1 rfl (Nat.le_of_ble_eq_true rfl) dX1_addLink_45 ⟨Nat.zero_le _, Nat.zero_le _⟩ ?_
      refine lv_iload hx hb dX1_addLink_48 (lv_at hl 0 rfl) ?_
      refine lv_icmp_ne (tgt := 90) hx hb dX1_addLink_50 (by decide) (fun hc => ?_) (fun hc => ?_)
      · replace h := if_f hc h
        cases h
        exact z_vret S hQ hr hw [0] rfl rfl dX1_addLink_90
      · replace h := if_t hc h
        refine lv_aload_n hx hb dX1_addLink_53 rfl (lv_at hl 1 rfl) ?_
        refine lv_dup hx hb dX1_addLink_54 rfl ?_
        refine z_get S hw F15 0 rfl rfl dX1_addLink_55 ?_
        refine lv_iload hx hb dX1_addLink_58 (lv_at hl 4 rfl) ?_
        refine lv_ior hx hb dX1_addLink_60 ?_
        refine lv_topi (fun i_links_3 ei_links_3 => ?_)
        replace h := bnd_at ei_links_3 h
        refine z_put S hw F15 P15 rfl rfl 0 rfl (Nat.le_of_ble_eq_true rfl) dX1_addLink_61 (fun H locs hw => ?_)
        refine lv_iload_n hx hb dX1_addLink_64 rfl (lv_at hl 2 rfl) ?_
        obtain ⟨r_4, e65_1, h⟩ := obd1_el h
        refine zr_SI (As := [.int y2]) (rest := []) (q0 := 0) (ci := 0) (fs := []) (qc := (RX0, TX0, 4)) S hw (c_X1_endsAt l D cI cJ cZ cS H.size N y2 r_4 e65_1) (va_cwS 1 hts gX1_addLink_X1_endsAt rfl rfl rfl ds_X1_endsAt ⟨Nat.le_of_ble_eq_true rfl, Nat.le_of_ble_eq_true rfl⟩) [] rfl rfl rfl hl.1 rfl (Nat.le_of_ble_eq_true rfl) dX1_addLink_65 ⟨Nat.zero_le _, Nat.zero_le _⟩ ?_
        refine lv_iload hx hb dX1_addLink_68 (lv_at hl 0 rfl) ?_
        obtain ⟨j79_1, ej79_1, h⟩ := bnd_ex h
        have hj79_1 : ∀ (H : Heap) (locs : List Loc) (ls : Array Slot), j79_1 = some (o_this_links, o_this_sureLinks) → Wd D (tyA cI cJ cZ cS) A s [(a_this, .inr (1, [.ref a_of, .int i_links_3, .int i_this_sureLinks]))] H locs → lv_has ls 6 [(0, .ref a_this), (4, .int y4)] → W p l e rmX1_addLink s m args below meth c H locs 0 0 Q (F0 m 79 ls []) := by
          intro H locs ls h hw hl
          replace h := ap0 ej79_1 h
          refine lv_aload_n hx hb dX1_addLink_79 rfl (lv_at hl 0 rfl) ?_
          refine lv_dup hx hb dX1_addLink_80 rfl ?_
          refine z_get S hw F19 0 rfl rfl dX1_addLink_81 ?_
          refine lv_iload hx hb dX1_addLink_84 (lv_at hl 1 rfl) ?_
          refine lv_ior hx hb dX1_addLink_86 ?_
          refine lv_topi (fun i_sureLinks_5 ei_sureLinks_5 => ?_)
          replace h := bnd_at ei_sureLinks_5 h
          refine z_put S hw F19 P19 rfl rfl 0 rfl (Nat.le_of_ble_eq_true rfl) dX1_addLink_87 (fun H locs hw => ?_)
          cases h
          exact z_vret S hQ hr hw [0] rfl rfl dX1_addLink_90
        refine lv_icmp_eq (tgt := 79) hx hb dX1_addLink_70 (by decide) (fun hc => ?_) (fun hc => ?_)
        · replace h := if_t hc h
          exact hj79_1  H locs ls h hw (lv_sub hl [1, 4] rfl)
        · replace h := if_f hc h
          refine lv_iload_n hx hb dX1_addLink_73 rfl (lv_at hl 3 rfl) ?_
          refine lv_iload hx hb dX1_addLink_74 (lv_at hl 0 rfl) ?_
          refine lv_icmp_ne (tgt := 90) hx hb dX1_addLink_76 (by decide) (fun hc => ?_) (fun hc => ?_)
          · replace h := if_f hc h
            cases h
            exact z_vret S hQ hr hw [0] rfl rfl dX1_addLink_90
          · replace h := if_t hc h
            exact hj79_1  H locs ls h hw (lv_sub hl [1, 4] rfl)
    obtain ⟨j37_1, ej37_1, h⟩ := bnd_ex h
    have hj37_1 : ∀ (H : Heap) (locs : List Loc) (ls : Array Slot), j37_1 = some (o_this_links, o_this_sureLinks) → Wd D (tyA cI cJ cZ cS) A s [(a_this, .inr (1, [.ref a_of, .int i_this_links, .int i_this_sureLinks]))] H locs → lv_has ls 6 [(0, .ref a_this), (2, .int y2), (3, .int y3), (4, .int y4)] → W p l e rmX1_addLink s m args below meth c H locs 0 0 Q (F0 m 37 ls []) := by
      intro H locs ls h hw hl
      replace h := ap0 ej37_1 h
      refine lv_iconst (v := (1 : Int32)) hx hb dX1_addLink_37 (by decide) ?_
      refine lv_goto (tgt := 42) hx hb dX1_addLink_38 (by decide) ?_
      exact hj42_1 ((1 : Int32)) H locs ls h hw hl
    refine lv_if_eq (tgt := 37) hx hb dX1_addLink_29 (by decide) (fun hc => ?_) (fun hc => ?_)
    · replace h := if_t hc h
      exact hj37_1  H locs ls h hw (lv_sub hl [0, 2, 3, 4] rfl)
    · replace h := if_f hc h
      refine lv_iload_n hx hb dX1_addLink_32 rfl (lv_at hl 1 rfl) ?_
      refine lv_iconst (v := (2 : Int32)) hx hb dX1_addLink_33 (by decide) ?_
      refine lv_icmp_ne (tgt := 41) hx hb dX1_addLink_34 (by decide) (fun hc => ?_) (fun hc => ?_)
      · replace h := if_f hc h
        refine lv_iconst (v := (0 : Int32)) hx hb dX1_addLink_41 (by decide) ?_
        exact hj42_1 ((0 : Int32)) H locs ls h hw (lv_sub hl [0, 2, 3, 4] rfl)
      · replace h := if_t hc h
        exact hj37_1  H locs ls h hw (lv_sub hl [0, 2, 3, 4] rfl)
  · replace h := if_t hc h
    refine lv_aload_n hx hb dX1_addLink_5 rfl (lv_at hl 0 rfl) ?_
    refine lv_dup hx hb dX1_addLink_6 rfl ?_
    refine z_get S hw F15 0 rfl rfl dX1_addLink_7 ?_
    refine lv_iload hx hb dX1_addLink_10 (lv_at hl 4 rfl) ?_
    refine lv_ior hx hb dX1_addLink_12 ?_
    refine lv_topi (fun i_links_6 ei_links_6 => ?_)
    replace h := bnd_at ei_links_6 h
    refine z_put S hw F15 P15 rfl rfl 0 rfl (Nat.le_of_ble_eq_true rfl) dX1_addLink_13 (fun H locs hw => ?_)
    refine lv_aload_n hx hb dX1_addLink_16 rfl (lv_at hl 0 rfl) ?_
    refine lv_dup hx hb dX1_addLink_17 rfl ?_
    refine z_get S hw F19 0 rfl rfl dX1_addLink_18 ?_
    refine lv_iload hx hb dX1_addLink_21 (lv_at hl 4 rfl) ?_
    refine lv_ior hx hb dX1_addLink_23 ?_
    refine lv_topi (fun i_sureLinks_7 ei_sureLinks_7 => ?_)
    replace h := bnd_at ei_sureLinks_7 h
    refine z_put S hw F19 P19 rfl rfl 0 rfl (Nat.le_of_ble_eq_true rfl) dX1_addLink_24 (fun H locs hw => ?_)
    cases h
    exact z_vret S hQ hr hw [0] rfl rfl dX1_addLink_27
abbrev rmX1_settle : Room := { frames := 2, cells := 0, slots := 0, locals := 45 }
theorem dv_X1_settle : yX1_settle.cls = RX1 ∧ yX1_settle.cls ≠ "java/lang/invoke/MethodHandle" ∧ yX1_settle.cls ≠ "java/lang/invoke/VarHandle" ∧ (parseMethodDescriptor yX1_settle.desc).map (fun d => d.parameters.length) = some 3 := by decide +kernel
noncomputable def f_X1_settle_L72 (N : Nat) (i_p1_gates : Int32) (k_p2 : (Nat → Int32)) (k_p1_lefts : (Nat → Int32)) (k_p1_rights : (Nat → Int32)) (j185_1 : Int32 → Int32 → (Nat → Int32) → Option (Int32 × Int32 × (Nat → Int32))) : Nat → Int32 → Int32 → Int32 → (Nat → Int32) → Option (Int32 × Int32 × (Nat → Int32))
  | 0, _, _, _, _ => none
  | n_72 + 1, x4_5, i_this_links_6, i_this_sureLinks_7, k_of_8 =>
    (if i_p1_gates ≤ x4_5 then (j185_1 i_this_links_6 i_this_sureLinks_7 k_of_8) else (grd (inb x4_5 8) <| grd (inb (k_p1_lefts x4_5.toNatClampNeg) 18) <| bnd ((k_of_8 (k_p1_lefts x4_5.toNatClampNeg).toNatClampNeg)) fun (x5_9 : Int32) => grd (inb x4_5 8) <| bnd (fun (t_10 : Int32) => (grd (inb x4_5 8) <| obd1 (f_X1_made N (k_p2 x4_5.toNatClampNeg) x5_9 t_10) fun (r_11 : Int32) => grd (inb ((10 : Int32) + x4_5) 18) <| bnd (upd k_of_8 ((10 : Int32) + x4_5).toNatClampNeg r_11) fun (k_of_12 : (Nat → Int32)) => grd (inb x4_5 8) <| obd2 (f_X1_addLink N (k_p2 x4_5.toNatClampNeg) x5_9 t_10 ((1 : Int32) <<< (((2 : Int32) * x4_5) &&& 31)) i_this_links_6 i_this_sureLinks_7) fun (i_this_links_13 : Int32) (i_this_sureLinks_14 : Int32) => grd (inb x4_5 8) <| obd2 (f_X1_addLink N (k_p2 x4_5.toNatClampNeg) t_10 x5_9 ((2 : Int32) <<< (((2 : Int32) * x4_5) &&& 31)) i_this_links_13 i_this_sureLinks_14) fun (i_this_links_15 : Int32) (i_this_sureLinks_16 : Int32) => bnd (x4_5 + (1 : Int32)) fun (x4_17 : Int32) => f_X1_settle_L72 N i_p1_gates k_p2 k_p1_lefts k_p1_rights j185_1 n_72 x4_17 i_this_links_15 i_this_sureLinks_16 k_of_12)) fun (j120_1 : Int32 → Option (Int32 × Int32 × (Nat → Int32))) => (if (k_p2 x4_5.toNatClampNeg) = (4 : Int32) then (j120_1 x5_9) else (grd (inb x4_5 8) <| grd (inb (k_p1_rights x4_5.toNatClampNeg) 18) <| j120_1 ((k_of_8 (k_p1_rights x4_5.toNatClampNeg).toNatClampNeg))))))
noncomputable def f_X1_settle_L3 (N : Nat) (y3 : Int32) (i_p1_inputs : Int32) (j59_1 : (Nat → Int32) → Option (Int32 × Int32 × (Nat → Int32))) : Nat → Int32 → (Nat → Int32) → Option (Int32 × Int32 × (Nat → Int32))
  | 0, _, _ => none
  | n_3 + 1, x4_18, k_of_19 =>
    (if i_p1_inputs ≤ x4_18 then (j59_1 k_of_19) else (bnd (((y3 >>> (((4 : Int32) + x4_18) &&& 31)) &&& (1 : Int32))) fun (x5_20 : Int32) => bnd (((y3 >>> (x4_18 &&& 31)) &&& (1 : Int32))) fun (x6_21 : Int32) => bnd (fun (t_22 : Int32) (t_23 : Int32) => (grd (inb t_23 18) <| bnd (upd k_of_19 t_23.toNatClampNeg t_22) fun (k_of_24 : (Nat → Int32)) => bnd (x4_18 + (1 : Int32)) fun (x4_25 : Int32) => f_X1_settle_L3 N y3 i_p1_inputs j59_1 n_3 x4_25 k_of_24)) fun (j52_1 : Int32 → Int32 → Option (Int32 × Int32 × (Nat → Int32))) => (if x5_20 = x6_21 then (j52_1 x6_21 x4_18) else (j52_1 (((2 : Int32) + x6_21)) x4_18))))
noncomputable def f_X1_settle (N : Nat) (y3 : Int32) (i_p1_inputs : Int32) (i_p1_gates : Int32) (i_this_links : Int32) (i_this_sureLinks : Int32) (k_p2 : (Nat → Int32)) (k_p1_lefts : (Nat → Int32)) (k_of : (Nat → Int32)) (k_p1_rights : (Nat → Int32)) : Option (Int32 × Int32 × (Nat → Int32)) :=
  bnd (fun (k_of_1 : (Nat → Int32)) => (bnd (fun (i_this_links_2 : Int32) (i_this_sureLinks_3 : Int32) (k_of_4 : (Nat → Int32)) => (some (i_this_links_2, i_this_sureLinks_3, k_of_4))) fun (j185_1 : Int32 → Int32 → (Nat → Int32) → Option (Int32 × Int32 × (Nat → Int32))) => f_X1_settle_L72 N i_p1_gates k_p2 k_p1_lefts k_p1_rights j185_1 N ((0 : Int32)) ((0 : Int32)) ((0 : Int32)) k_of_1)) fun (j59_1 : (Nat → Int32) → Option (Int32 × Int32 × (Nat → Int32))) => f_X1_settle_L3 N y3 i_p1_inputs j59_1 N ((0 : Int32)) k_of
set_option maxHeartbeats 4000000 in
set_option maxRecDepth 100000 in
theorem c_X1_settle (l : Launch) (D : va_G) (cI cJ cZ cS : ClassId) (sz N : Nat) (a_p1 a_this a_p2 a_p1_lefts a_of a_p1_rights a_p1_told a_p1_nexts a_p1_starts a_p1_sizes a_p1_steps a_p1_links : Nat) (i_p1_inputs : Int32) (i_p1_gates : Int32) (i_p1_paths : Int32) (i_this_links : Int32) (i_this_sureLinks : Int32) (k_p2 : (Nat → Int32)) (k_p1_lefts : (Nat → Int32)) (k_of : (Nat → Int32)) (k_p1_rights : (Nat → Int32)) (y3 : Int32) (o_this_links : Int32) (o_this_sureLinks : Int32) (o_of : (Nat → Int32)) (hf : f_X1_settle N y3 i_p1_inputs i_p1_gates i_this_links i_this_sureLinks k_p2 k_p1_lefts k_of k_p1_rights = some (o_this_links, o_this_sureLinks, o_of)) : MetV l yX1_settle wsX1_settle rmX1_settle D (tyA cI cJ cZ cS) [(a_p1, .inr (2, [.int i_p1_inputs, .int i_p1_gates, .int i_p1_paths, .ref a_p1_told, .ref a_p1_lefts, .ref a_p1_rights, .ref a_p1_nexts, .ref a_p1_starts, .ref a_p1_sizes, .ref a_p1_steps, .ref a_p1_links])), (a_this, .inr (1, [.ref a_of, .int i_this_links, .int i_this_sureLinks])), (a_p2, .inl (cI, 8, .inl k_p2)), (a_p1_lefts, .inl (cI, 8, .inl k_p1_lefts)), (a_of, .inl (cI, 18, .inl k_of)), (a_p1_rights, .inl (cI, 8, .inl k_p1_rights))] sz [.ref a_this, .ref a_p1, .ref a_p2, .int y3] [(a_p1, .inr (2, [.int i_p1_inputs, .int i_p1_gates, .int i_p1_paths, .ref a_p1_told, .ref a_p1_lefts, .ref a_p1_rights, .ref a_p1_nexts, .ref a_p1_starts, .ref a_p1_sizes, .ref a_p1_steps, .ref a_p1_links])), (a_this, .inr (1, [.ref a_of, .int o_this_links, .int o_this_sureLinks])), (a_p2, .inl (cI, 8, .inl k_p2)), (a_p1_lefts, .inl (cI, 8, .inl k_p1_lefts)), (a_of, .inl (cI, 18, .inl o_of)), (a_p1_rights, .inl (cI, 8, .inl k_p1_rights))] := by
  refine entV (cc := cX1_settle) (maxL := 7) (own := RX1) (by decide) rfl rfl (Nat.le_of_ble_eq_true rfl) ?_
  intro p e s m args below meth c A ls Q H locs S hr hw hl hQ
  have hx := S.1.1
  have hb := S.1.2.1
  have hts := S.1.2.2.2.2
  have hl : lv_has ls 7 [(0, .ref a_this), (1, .ref a_p1), (2, .ref a_p2), (3, .int y3)] := hl
  have hinX1 : ∀ w ∈ u_ws RX1 TX1 3, w ∈ wsX1_settle := (fun _ h => List.mem_cons_of_mem _ (List.mem_append_right _ h))
  have F9 : FLk s args wsX1_settle RX1 9 RX1 TX1 3 1 0 := ⟨hinX1, rfl, by decide, hts (.fieldLink RX1 9 "SlowPaths$Levels" "of" "[I") (List.mem_of_getElem? (i := 2) rfl)⟩
  have F15 : FLk s args wsX1_settle RX1 15 RX1 TX1 3 1 1 := ⟨hinX1, rfl, by decide, hts (.fieldLink RX1 15 "SlowPaths$Levels" "links" "I") (List.mem_of_getElem? (i := 3) rfl)⟩
  have F19 : FLk s args wsX1_settle RX1 19 RX1 TX1 3 1 2 := ⟨hinX1, rfl, by decide, hts (.fieldLink RX1 19 "SlowPaths$Levels" "sureLinks" "I") (List.mem_of_getElem? (i := 4) rfl)⟩
  have hinX2 : ∀ w ∈ u_ws RX2 TX2 11, w ∈ wsX1_settle := (fun _ h => List.mem_cons_of_mem _ (List.mem_append_left _ (List.mem_append_right _ h)))
  have F22 : FLk s args wsX1_settle RX1 22 RX2 TX2 11 2 0 := ⟨hinX2, rfl, by decide, hts (.fieldLink RX1 22 "SlowPaths$Net" "inputs" "I") (List.mem_of_getElem? (i := 1) rfl)⟩
  have F27 : FLk s args wsX1_settle RX1 27 RX2 TX2 11 2 1 := ⟨hinX2, rfl, by decide, hts (.fieldLink RX1 27 "SlowPaths$Net" "gates" "I") (List.mem_of_getElem? (i := 5) rfl)⟩
  have F30 : FLk s args wsX1_settle RX1 30 RX2 TX2 11 2 4 := ⟨hinX2, rfl, by decide, hts (.fieldLink RX1 30 "SlowPaths$Net" "lefts" "[I") (List.mem_of_getElem? (i := 6) rfl)⟩
  have F33 : FLk s args wsX1_settle RX1 33 RX2 TX2 11 2 5 := ⟨hinX2, rfl, by decide, hts (.fieldLink RX1 33 "SlowPaths$Net" "rights" "[I") (List.mem_of_getElem? (i := 7) rfl)⟩
  have P15 : PLk TX1 3 1 tyX1 false .int := ⟨tyX1_ok, nmX1, rfl, rfl⟩
  have P19 : PLk TX1 3 2 tyX1 false .int := ⟨tyX1_ok, nmX1, rfl, rfl⟩
  have h := hf
  rw [f_X1_settle] at h
  refine lv_iconst (v := (0 : Int32)) hx hb dX1_settle_0 (by decide) ?_
  refine lv_istore (lv' := [(4, .int (0 : Int32)), (0, .ref a_this), (1, .ref a_p1), (2, .ref a_p2), (3, .int y3)]) hx hb dX1_settle_1 hl (by decide) rfl (fun ls hl => ?_)
  obtain ⟨j59_1, ej59_1, h⟩ := bnd_ex h
  have hj59_1 : ∀ (k_of_1 : (Nat → Int32)) (H : Heap) (locs : List Loc) (ls : Array Slot), j59_1 k_of_1 = some (o_this_links, o_this_sureLinks, o_of) → Wd D (tyA cI cJ cZ cS) A s [(a_p1, .inr (2, [.int i_p1_inputs, .int i_p1_gates, .int i_p1_paths, .ref a_p1_told, .ref a_p1_lefts, .ref a_p1_rights, .ref a_p1_nexts, .ref a_p1_starts, .ref a_p1_sizes, .ref a_p1_steps, .ref a_p1_links])), (a_this, .inr (1, [.ref a_of, .int i_this_links, .int i_this_sureLinks])), (a_p2, .inl (cI, 8, .inl k_p2)), (a_p1_lefts, .inl (cI, 8, .inl k_p1_lefts)), (a_of, .inl (cI, 18, .inl k_of_1)), (a_p1_rights, .inl (cI, 8, .inl k_p1_rights))] H locs → lv_has ls 7 [(0, .ref a_this), (1, .ref a_p1), (2, .ref a_p2)] → W p l e rmX1_settle s m args below meth c H locs 0 0 Q (F0 m 59 ls []) := by
    intro k_of_1 H locs ls h hw hl
    replace h := ap1 ej59_1 h
    refine lv_aload_n hx hb dX1_settle_59 rfl (lv_at hl 0 rfl) ?_
    refine lv_iconst (v := (0 : Int32)) hx hb dX1_settle_60 (by decide) ?_
    refine z_put S hw F15 P15 rfl rfl 1 rfl (Nat.le_of_ble_eq_true rfl) dX1_settle_61 (fun H locs hw => ?_)
    refine lv_aload_n hx hb dX1_settle_64 rfl (lv_at hl 0 rfl) ?_
    refine lv_iconst (v := (0 : Int32)) hx hb dX1_settle_65 (by decide) ?_
    refine z_put S hw F19 P19 rfl rfl 1 rfl (Nat.le_of_ble_eq_true rfl) dX1_settle_66 (fun H locs hw => ?_)
    refine lv_iconst (v := (0 : Int32)) hx hb dX1_settle_69 (by decide) ?_
    refine lv_istore (lv' := [(4, .int (0 : Int32)), (0, .ref a_this), (1, .ref a_p1), (2, .ref a_p2)]) hx hb dX1_settle_70 hl (by decide) rfl (fun ls hl => ?_)
    obtain ⟨j185_1, ej185_1, h⟩ := bnd_ex h
    have hj185_1 : ∀ (i_this_links_2 : Int32) (i_this_sureLinks_3 : Int32) (k_of_4 : (Nat → Int32)) (H : Heap) (locs : List Loc) (ls : Array Slot), j185_1 i_this_links_2 i_this_sureLinks_3 k_of_4 = some (o_this_links, o_this_sureLinks, o_of) → Wd D (tyA cI cJ cZ cS) A s [(a_p1, .inr (2, [.int i_p1_inputs, .int i_p1_gates, .int i_p1_paths, .ref a_p1_told, .ref a_p1_lefts, .ref a_p1_rights, .ref a_p1_nexts, .ref a_p1_starts, .ref a_p1_sizes, .ref a_p1_steps, .ref a_p1_links])), (a_this, .inr (1, [.ref a_of, .int i_this_links_2, .int i_this_sureLinks_3])), (a_p2, .inl (cI, 8, .inl k_p2)), (a_p1_lefts, .inl (cI, 8, .inl k_p1_lefts)), (a_of, .inl (cI, 18, .inl k_of_4)), (a_p1_rights, .inl (cI, 8, .inl k_p1_rights))] H locs → lv_has ls 7 [] → W p l e rmX1_settle s m args below meth c H locs 0 0 Q (F0 m 185 ls []) := by
      intro i_this_links_2 i_this_sureLinks_3 k_of_4 H locs ls h hw hl
      replace h := ap3 ej185_1 h
      cases h
      exact z_vret S hQ hr hw [0, 1, 2, 3, 4, 5] rfl rfl dX1_settle_185
    have hL72_1 : ∀ (nf : Nat) (x4_5 : Int32) (i_this_links_6 : Int32) (i_this_sureLinks_7 : Int32) (k_of_8 : (Nat → Int32)) (H : Heap) (locs : List Loc) (ls : Array Slot), f_X1_settle_L72 N i_p1_gates k_p2 k_p1_lefts k_p1_rights j185_1 nf x4_5 i_this_links_6 i_this_sureLinks_7 k_of_8 = some (o_this_links, o_this_sureLinks, o_of) → Wd D (tyA cI cJ cZ cS) A s [(a_p1, .inr (2, [.int i_p1_inputs, .int i_p1_gates, .int i_p1_paths, .ref a_p1_told, .ref a_p1_lefts, .ref a_p1_rights, .ref a_p1_nexts, .ref a_p1_starts, .ref a_p1_sizes, .ref a_p1_steps, .ref a_p1_links])), (a_this, .inr (1, [.ref a_of, .int i_this_links_6, .int i_this_sureLinks_7])), (a_p2, .inl (cI, 8, .inl k_p2)), (a_p1_lefts, .inl (cI, 8, .inl k_p1_lefts)), (a_of, .inl (cI, 18, .inl k_of_8)), (a_p1_rights, .inl (cI, 8, .inl k_p1_rights))] H locs → lv_has ls 7 [(0, .ref a_this), (1, .ref a_p1), (2, .ref a_p2), (4, .int x4_5)] → W p l e rmX1_settle s m args below meth c H locs 0 0 Q (F0 m 72 ls []) := by
      intro nf
      induction nf with
      | zero =>
        intro x4_5 i_this_links_6 i_this_sureLinks_7 k_of_8 H locs ls h
        rw [f_X1_settle_L72] at h
        cases h
      | succ n_72 ih_72 =>
        intro x4_5 i_this_links_6 i_this_sureLinks_7 k_of_8 H locs ls h hw hl
        rw [f_X1_settle_L72] at h
        refine lv_iload hx hb dX1_settle_72 (lv_at hl 3 rfl) ?_
        refine lv_aload_n hx hb dX1_settle_74 rfl (lv_at hl 1 rfl) ?_
        refine z_get S hw F27 0 rfl rfl dX1_settle_75 ?_
        refine lv_icmp_ge (tgt := 185) hx hb dX1_settle_78 (by decide) (fun hc => ?_) (fun hc => ?_)
        · replace h := if_t hc h
          exact hj185_1 i_this_links_6 i_this_sureLinks_7 k_of_8 H locs ls h hw (lv_sub hl [] rfl)
        · replace h := if_f hc h
          refine lv_aload_n hx hb dX1_settle_81 rfl (lv_at hl 0 rfl) ?_
          refine z_get S hw F9 1 rfl rfl dX1_settle_82 ?_
          refine lv_aload_n hx hb dX1_settle_85 rfl (lv_at hl 1 rfl) ?_
          refine z_get S hw F30 0 rfl rfl dX1_settle_86 ?_
          refine lv_iload hx hb dX1_settle_89 (lv_at hl 3 rfl) ?_
          obtain ⟨hg, h⟩ := grd_el h
          refine z_iald S hw 3 0 rfl rfl hg dX1_settle_91 ?_
          obtain ⟨hg, h⟩ := grd_el h
          refine z_iald S hw 4 0 rfl rfl hg dX1_settle_92 ?_
          refine lv_topi (fun x5_9 ex5_9 => ?_)
          replace h := bnd_at ex5_9 h
          refine lv_istore (lv' := [(5, .int x5_9), (0, .ref a_this), (1, .ref a_p1), (2, .ref a_p2), (4, .int x4_5)]) hx hb dX1_settle_93 hl (by decide) rfl (fun ls hl => ?_)
          refine lv_aload_n hx hb dX1_settle_95 rfl (lv_at hl 3 rfl) ?_
          refine lv_iload hx hb dX1_settle_96 (lv_at hl 4 rfl) ?_
          obtain ⟨hg, h⟩ := grd_el h
          refine z_iald S hw 2 0 rfl rfl hg dX1_settle_98 ?_
          refine lv_iconst (v := (4 : Int32)) hx hb dX1_settle_99 (by decide) ?_
          obtain ⟨j120_1, ej120_1, h⟩ := bnd_ex h
          have hj120_1 : ∀ (t_10 : Int32) (H : Heap) (locs : List Loc) (ls : Array Slot), j120_1 t_10 = some (o_this_links, o_this_sureLinks, o_of) → Wd D (tyA cI cJ cZ cS) A s [(a_p1, .inr (2, [.int i_p1_inputs, .int i_p1_gates, .int i_p1_paths, .ref a_p1_told, .ref a_p1_lefts, .ref a_p1_rights, .ref a_p1_nexts, .ref a_p1_starts, .ref a_p1_sizes, .ref a_p1_steps, .ref a_p1_links])), (a_this, .inr (1, [.ref a_of, .int i_this_links_6, .int i_this_sureLinks_7])), (a_p2, .inl (cI, 8, .inl k_p2)), (a_p1_lefts, .inl (cI, 8, .inl k_p1_lefts)), (a_of, .inl (cI, 18, .inl k_of_8)), (a_p1_rights, .inl (cI, 8, .inl k_p1_rights))] H locs → lv_has ls 7 [(0, .ref a_this), (1, .ref a_p1), (2, .ref a_p2), (4, .int x4_5), (5, .int x5_9)] → W p l e rmX1_settle s m args below meth c H locs 0 0 Q (F0 m 120 ls [.int t_10]) := by
            intro t_10 H locs ls h hw hl
            replace h := ap1 ej120_1 h
            refine lv_istore (lv' := [(6, .int t_10), (0, .ref a_this), (1, .ref a_p1), (2, .ref a_p2), (4, .int x4_5), (5, .int x5_9)]) hx hb dX1_settle_120 hl (by decide) rfl (fun ls hl => ?_)
            refine lv_aload_n hx hb dX1_settle_122 rfl (lv_at hl 1 rfl) ?_
            refine z_get S hw F9 1 rfl rfl dX1_settle_123 ?_
            refine lv_bipush (v := (10 : Int32)) hx hb dX1_settle_126 (by decide) ?_
            refine lv_iload hx hb dX1_settle_128 (lv_at hl 4 rfl) ?_
            refine lv_iadd hx hb dX1_settle_130 ?_
            refine lv_aload_n hx hb dX1_settle_131 rfl (lv_at hl 3 rfl) ?_
            refine lv_iload hx hb dX1_settle_132 (lv_at hl 4 rfl) ?_
            obtain ⟨hg, h⟩ := grd_el h
            refine z_iald S hw 2 0 rfl rfl hg dX1_settle_134 ?_
            refine lv_iload hx hb dX1_settle_135 (lv_at hl 5 rfl) ?_
            refine lv_iload hx hb dX1_settle_137 (lv_at hl 0 rfl) ?_
            obtain ⟨r_11, e139_1, h⟩ := obd1_el h
            refine zr_SI (As := [.int (k_p2 x4_5.toNatClampNeg), .int x5_9, .int t_10]) (rest := [.int ((10 : Int32) + x4_5), .ref a_of]) (q0 := 0) (ci := 0) (fs := []) (qc := (RX0, TX0, 4)) S hw (c_X1_made l D cI cJ cZ cS H.size N (k_p2 x4_5.toNatClampNeg) x5_9 t_10 r_11 e139_1) (va_cwS 3 hts gX1_settle_X1_made rfl rfl rfl ds_X1_made ⟨Nat.le_of_ble_eq_true rfl, Nat.le_of_ble_eq_true rfl⟩) [] rfl rfl rfl hl.1 rfl (Nat.le_of_ble_eq_true rfl) dX1_settle_139 ⟨Nat.zero_le _, Nat.zero_le _⟩ ?_
            obtain ⟨hg, h⟩ := grd_el h
            obtain ⟨k_of_12, ek_of_12, h⟩ := bnd_ex h
            refine z_iast S hw ek_of_12 4 0 rfl rfl hg dX1_settle_142 (fun H locs hw => ?_)
            refine lv_aload_n hx hb dX1_settle_143 rfl (lv_at hl 1 rfl) ?_
            refine lv_aload_n hx hb dX1_settle_144 rfl (lv_at hl 3 rfl) ?_
            refine lv_iload hx hb dX1_settle_145 (lv_at hl 4 rfl) ?_
            obtain ⟨hg, h⟩ := grd_el h
            refine z_iald S hw 2 0 rfl rfl hg dX1_settle_147 ?_
            refine lv_iload hx hb dX1_settle_148 (lv_at hl 5 rfl) ?_
            refine lv_iload hx hb dX1_settle_150 (lv_at hl 0 rfl) ?_
            refine lv_iconst (v := (1 : Int32)) hx hb dX1_settle_152 (by decide) ?_
            refine lv_iconst (v := (2 : Int32)) hx hb dX1_settle_153 (by decide) ?_
            refine lv_iload hx hb dX1_settle_154 (lv_at hl 4 rfl) ?_
            refine lv_imul hx hb dX1_settle_156 ?_
            refine lv_ishl hx hb dX1_settle_157 ?_
            obtain ⟨i_this_links_13, i_this_sureLinks_14, e158_1, h⟩ := obd2_el h
            refine zc_VV (As := [.int (k_p2 x4_5.toNatClampNeg), .int x5_9, .int t_10, .int ((1 : Int32) <<< (((2 : Int32) * x4_5) &&& 31))]) (rest := []) (wr := [(a_p1, .inr (2, [.int i_p1_inputs, .int i_p1_gates, .int i_p1_paths, .ref a_p1_told, .ref a_p1_lefts, .ref a_p1_rights, .ref a_p1_nexts, .ref a_p1_starts, .ref a_p1_sizes, .ref a_p1_steps, .ref a_p1_links])), (a_p2, .inl (cI, 8, .inl k_p2)), (a_p1_lefts, .inl (cI, 8, .inl k_p1_lefts)), (a_of, .inl (cI, 18, .inl k_of_12)), (a_p1_rights, .inl (cI, 8, .inl k_p1_rights))]) (q0 := 0) S hw (c_X1_addLink l D cI cJ cZ cS H.size N a_this a_of i_this_links_6 i_this_sureLinks_7 (k_p2 x4_5.toNatClampNeg) x5_9 t_10 ((1 : Int32) <<< (((2 : Int32) * x4_5) &&& 31)) i_this_links_13 i_this_sureLinks_14 e158_1) (cwV 4 hts gX1_settle_X1_addLink rfl rfl rfl dv_X1_addLink ⟨Nat.le_of_ble_eq_true rfl, Nat.le_of_ble_eq_true rfl⟩) [1] [0, 2, 3, 4, 5] rfl rfl rfl rfl (by decide) rfl rfl rfl rfl hl.1 rfl (Nat.le_of_ble_eq_true rfl) dX1_settle_158 ⟨Nat.zero_le _, Nat.zero_le _⟩ (fun H locs hw => ?_)
            refine lv_aload_n hx hb dX1_settle_161 rfl (lv_at hl 1 rfl) ?_
            refine lv_aload_n hx hb dX1_settle_162 rfl (lv_at hl 3 rfl) ?_
            refine lv_iload hx hb dX1_settle_163 (lv_at hl 4 rfl) ?_
            obtain ⟨hg, h⟩ := grd_el h
            refine z_iald S hw 1 0 rfl rfl hg dX1_settle_165 ?_
            refine lv_iload hx hb dX1_settle_166 (lv_at hl 0 rfl) ?_
            refine lv_iload hx hb dX1_settle_168 (lv_at hl 5 rfl) ?_
            refine lv_iconst (v := (2 : Int32)) hx hb dX1_settle_170 (by decide) ?_
            refine lv_iconst (v := (2 : Int32)) hx hb dX1_settle_171 (by decide) ?_
            refine lv_iload hx hb dX1_settle_172 (lv_at hl 4 rfl) ?_
            refine lv_imul hx hb dX1_settle_174 ?_
            refine lv_ishl hx hb dX1_settle_175 ?_
            obtain ⟨i_this_links_15, i_this_sureLinks_16, e176_1, h⟩ := obd2_el h
            refine zc_VV (As := [.int (k_p2 x4_5.toNatClampNeg), .int t_10, .int x5_9, .int ((2 : Int32) <<< (((2 : Int32) * x4_5) &&& 31))]) (rest := []) (wr := [(a_p1, .inr (2, [.int i_p1_inputs, .int i_p1_gates, .int i_p1_paths, .ref a_p1_told, .ref a_p1_lefts, .ref a_p1_rights, .ref a_p1_nexts, .ref a_p1_starts, .ref a_p1_sizes, .ref a_p1_steps, .ref a_p1_links])), (a_p2, .inl (cI, 8, .inl k_p2)), (a_p1_lefts, .inl (cI, 8, .inl k_p1_lefts)), (a_of, .inl (cI, 18, .inl k_of_12)), (a_p1_rights, .inl (cI, 8, .inl k_p1_rights))]) (q0 := 0) S hw (c_X1_addLink l D cI cJ cZ cS H.size N a_this a_of i_this_links_13 i_this_sureLinks_14 (k_p2 x4_5.toNatClampNeg) t_10 x5_9 ((2 : Int32) <<< (((2 : Int32) * x4_5) &&& 31)) i_this_links_15 i_this_sureLinks_16 e176_1) (cwV 4 hts gX1_settle_X1_addLink rfl rfl rfl dv_X1_addLink ⟨Nat.le_of_ble_eq_true rfl, Nat.le_of_ble_eq_true rfl⟩) [5] [0, 1, 2, 3, 4] rfl rfl rfl rfl (by decide) rfl rfl rfl rfl hl.1 rfl (Nat.le_of_ble_eq_true rfl) dX1_settle_176 ⟨Nat.zero_le _, Nat.zero_le _⟩ (fun H locs hw => ?_)
            obtain ⟨x4_17, ex4_17, h⟩ := bnd_ex h
            refine lv_iinc (v := x4_17) (lv' := [(4, .int x4_17), (6, .int t_10), (0, .ref a_this), (1, .ref a_p1), (2, .ref a_p2), (5, .int x5_9)]) hx hb dX1_settle_179 hl (k := 4) rfl (by rw [ex4_17]; rfl) (by decide) rfl (fun ls hl => ?_)
            refine lv_goto (tgt := 72) hx hb dX1_settle_182 (by decide) ?_
            exact ih_72 x4_17 i_this_links_15 i_this_sureLinks_16 k_of_12 H locs ls h (hw.sub [0, 5, 1, 2, 3, 4] rfl rfl) (lv_sub hl [2, 3, 4, 0] rfl)
          refine lv_icmp_ne (tgt := 108) hx hb dX1_settle_100 (by decide) (fun hc => ?_) (fun hc => ?_)
          · replace h := if_f hc h
            refine lv_aload_n hx hb dX1_settle_108 rfl (lv_at hl 1 rfl) ?_
            refine z_get S hw F9 1 rfl rfl dX1_settle_109 ?_
            refine lv_aload_n hx hb dX1_settle_112 rfl (lv_at hl 2 rfl) ?_
            refine z_get S hw F33 0 rfl rfl dX1_settle_113 ?_
            refine lv_iload hx hb dX1_settle_116 (lv_at hl 4 rfl) ?_
            obtain ⟨hg, h⟩ := grd_el h
            refine z_iald S hw 5 0 rfl rfl hg dX1_settle_118 ?_
            obtain ⟨hg, h⟩ := grd_el h
            refine z_iald S hw 4 0 rfl rfl hg dX1_settle_119 ?_
            exact hj120_1 ((k_of_8 (k_p1_rights x4_5.toNatClampNeg).toNatClampNeg)) H locs ls h hw (lv_sub hl [1, 2, 3, 4, 0] rfl)
          · replace h := if_t hc h
            refine lv_iload hx hb dX1_settle_103 (lv_at hl 0 rfl) ?_
            refine lv_goto (tgt := 120) hx hb dX1_settle_105 (by decide) ?_
            exact hj120_1 x5_9 H locs ls h hw (lv_sub hl [1, 2, 3, 4, 0] rfl)
    exact hL72_1 N ((0 : Int32)) ((0 : Int32)) ((0 : Int32)) k_of_1 H locs ls h hw (lv_sub hl [1, 2, 3, 0] rfl)
  have hL3_1 : ∀ (nf : Nat) (x4_18 : Int32) (k_of_19 : (Nat → Int32)) (H : Heap) (locs : List Loc) (ls : Array Slot), f_X1_settle_L3 N y3 i_p1_inputs j59_1 nf x4_18 k_of_19 = some (o_this_links, o_this_sureLinks, o_of) → Wd D (tyA cI cJ cZ cS) A s [(a_p1, .inr (2, [.int i_p1_inputs, .int i_p1_gates, .int i_p1_paths, .ref a_p1_told, .ref a_p1_lefts, .ref a_p1_rights, .ref a_p1_nexts, .ref a_p1_starts, .ref a_p1_sizes, .ref a_p1_steps, .ref a_p1_links])), (a_this, .inr (1, [.ref a_of, .int i_this_links, .int i_this_sureLinks])), (a_p2, .inl (cI, 8, .inl k_p2)), (a_p1_lefts, .inl (cI, 8, .inl k_p1_lefts)), (a_of, .inl (cI, 18, .inl k_of_19)), (a_p1_rights, .inl (cI, 8, .inl k_p1_rights))] H locs → lv_has ls 7 [(0, .ref a_this), (1, .ref a_p1), (2, .ref a_p2), (3, .int y3), (4, .int x4_18)] → W p l e rmX1_settle s m args below meth c H locs 0 0 Q (F0 m 3 ls []) := by
    intro nf
    induction nf with
    | zero =>
      intro x4_18 k_of_19 H locs ls h
      rw [f_X1_settle_L3] at h
      cases h
    | succ n_3 ih_3 =>
      intro x4_18 k_of_19 H locs ls h hw hl
      rw [f_X1_settle_L3] at h
      refine lv_iload hx hb dX1_settle_3 (lv_at hl 4 rfl) ?_
      refine lv_aload_n hx hb dX1_settle_5 rfl (lv_at hl 1 rfl) ?_
      refine z_get S hw F22 0 rfl rfl dX1_settle_6 ?_
      refine lv_icmp_ge (tgt := 59) hx hb dX1_settle_9 (by decide) (fun hc => ?_) (fun hc => ?_)
      · replace h := if_t hc h
        exact hj59_1 k_of_19 H locs ls h hw (lv_sub hl [0, 1, 2] rfl)
      · replace h := if_f hc h
        refine lv_iload_n hx hb dX1_settle_12 rfl (lv_at hl 3 rfl) ?_
        refine lv_iconst (v := (4 : Int32)) hx hb dX1_settle_13 (by decide) ?_
        refine lv_iload hx hb dX1_settle_14 (lv_at hl 4 rfl) ?_
        refine lv_iadd hx hb dX1_settle_16 ?_
        refine lv_ishr hx hb dX1_settle_17 ?_
        refine lv_iconst (v := (1 : Int32)) hx hb dX1_settle_18 (by decide) ?_
        refine lv_iand hx hb dX1_settle_19 ?_
        refine lv_topi (fun x5_20 ex5_20 => ?_)
        replace h := bnd_at ex5_20 h
        refine lv_istore (lv' := [(5, .int x5_20), (0, .ref a_this), (1, .ref a_p1), (2, .ref a_p2), (3, .int y3), (4, .int x4_18)]) hx hb dX1_settle_20 hl (by decide) rfl (fun ls hl => ?_)
        refine lv_iload_n hx hb dX1_settle_22 rfl (lv_at hl 4 rfl) ?_
        refine lv_iload hx hb dX1_settle_23 (lv_at hl 5 rfl) ?_
        refine lv_ishr hx hb dX1_settle_25 ?_
        refine lv_iconst (v := (1 : Int32)) hx hb dX1_settle_26 (by decide) ?_
        refine lv_iand hx hb dX1_settle_27 ?_
        refine lv_topi (fun x6_21 ex6_21 => ?_)
        replace h := bnd_at ex6_21 h
        refine lv_istore (lv' := [(6, .int x6_21), (5, .int x5_20), (0, .ref a_this), (1, .ref a_p1), (2, .ref a_p2), (3, .int y3), (4, .int x4_18)]) hx hb dX1_settle_28 hl (by decide) rfl (fun ls hl => ?_)
        refine lv_aload_n hx hb dX1_settle_30 rfl (lv_at hl 2 rfl) ?_
        refine z_get S hw F9 1 rfl rfl dX1_settle_31 ?_
        refine lv_iload hx hb dX1_settle_34 (lv_at hl 6 rfl) ?_
        refine lv_iload hx hb dX1_settle_36 (lv_at hl 1 rfl) ?_
        refine lv_iload hx hb dX1_settle_38 (lv_at hl 0 rfl) ?_
        obtain ⟨j52_1, ej52_1, h⟩ := bnd_ex h
        have hj52_1 : ∀ (t_22 : Int32) (t_23 : Int32) (H : Heap) (locs : List Loc) (ls : Array Slot), j52_1 t_22 t_23 = some (o_this_links, o_this_sureLinks, o_of) → Wd D (tyA cI cJ cZ cS) A s [(a_p1, .inr (2, [.int i_p1_inputs, .int i_p1_gates, .int i_p1_paths, .ref a_p1_told, .ref a_p1_lefts, .ref a_p1_rights, .ref a_p1_nexts, .ref a_p1_starts, .ref a_p1_sizes, .ref a_p1_steps, .ref a_p1_links])), (a_this, .inr (1, [.ref a_of, .int i_this_links, .int i_this_sureLinks])), (a_p2, .inl (cI, 8, .inl k_p2)), (a_p1_lefts, .inl (cI, 8, .inl k_p1_lefts)), (a_of, .inl (cI, 18, .inl k_of_19)), (a_p1_rights, .inl (cI, 8, .inl k_p1_rights))] H locs → lv_has ls 7 [(0, .ref a_this), (1, .ref a_p1), (2, .ref a_p2), (3, .int y3), (4, .int x4_18)] → W p l e rmX1_settle s m args below meth c H locs 0 0 Q (F0 m 52 ls [.int t_22, .int t_23, .ref a_of]) := by
          intro t_22 t_23 H locs ls h hw hl
          replace h := ap2 ej52_1 h
          obtain ⟨hg, h⟩ := grd_el h
          obtain ⟨k_of_24, ek_of_24, h⟩ := bnd_ex h
          refine z_iast S hw ek_of_24 4 0 rfl rfl hg dX1_settle_52 (fun H locs hw => ?_)
          obtain ⟨x4_25, ex4_25, h⟩ := bnd_ex h
          refine lv_iinc (v := x4_25) (lv' := [(4, .int x4_25), (0, .ref a_this), (1, .ref a_p1), (2, .ref a_p2), (3, .int y3)]) hx hb dX1_settle_53 hl (k := 4) rfl (by rw [ex4_25]; rfl) (by decide) rfl (fun ls hl => ?_)
          refine lv_goto (tgt := 3) hx hb dX1_settle_56 (by decide) ?_
          exact ih_3 x4_25 k_of_24 H locs ls h hw (lv_sub hl [1, 2, 3, 4, 0] rfl)
        refine lv_icmp_ne (tgt := 48) hx hb dX1_settle_40 (by decide) (fun hc => ?_) (fun hc => ?_)
        · replace h := if_f hc h
          refine lv_iconst (v := (2 : Int32)) hx hb dX1_settle_48 (by decide) ?_
          refine lv_iload hx hb dX1_settle_49 (lv_at hl 0 rfl) ?_
          refine lv_iadd hx hb dX1_settle_51 ?_
          exact hj52_1 (((2 : Int32) + x6_21)) x4_18 H locs ls h hw (lv_sub hl [2, 3, 4, 5, 6] rfl)
        · replace h := if_t hc h
          refine lv_iload hx hb dX1_settle_43 (lv_at hl 0 rfl) ?_
          refine lv_goto (tgt := 52) hx hb dX1_settle_45 (by decide) ?_
          exact hj52_1 x6_21 x4_18 H locs ls h hw (lv_sub hl [2, 3, 4, 5, 6] rfl)
  exact hL3_1 N ((0 : Int32)) k_of H locs ls h hw (lv_sub hl [1, 2, 3, 4, 0] rfl)
