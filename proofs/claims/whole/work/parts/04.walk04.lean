abbrev rmX4_readGate : Room := { frames := 2, cells := 0, slots := 0, locals := 44 }
theorem dv_X4_readGate : yX4_readGate.cls = RX4 ∧ yX4_readGate.cls ≠ "java/lang/invoke/MethodHandle" ∧ yX4_readGate.cls ≠ "java/lang/invoke/VarHandle" ∧ (parseMethodDescriptor yX4_readGate.desc).map (fun d => d.parameters.length) = some 2 := by decide +kernel
noncomputable def f_X4_readGate (N : Nat) (y2 : Int32) (i_this_size : Int32) (i_this_at : Int32) (i_p1_inputs : Int32) (i_p1_gates : Int32) (k_letters : (Nat → Int32)) (k_p1_told : (Nat → Int32)) (k_p1_lefts : (Nat → Int32)) (k_p1_rights : (Nat → Int32)) : Option (Int32 × Int32 × (Nat → Int32) × (Nat → Int32) × (Nat → Int32)) :=
  obd1 (f_X4_letter N i_this_size i_this_at k_letters) fun (r_1 : Int32) => obd1 (f_X4_kindOf N r_1) fun (r_2 : Int32) => (if r_2 = (-9 : Int32) then (some ((0 : Int32), i_this_at, k_p1_told, k_p1_lefts, k_p1_rights)) else (bnd (α := Option (Int32 × Int32 × (Nat → Int32) × (Nat → Int32) × (Nat → Int32))) (bnd ((i_this_at + (1 : Int32))) fun (i_at_3 : Int32) => obd2 (f_X4_readSignal N (-9 : Int32) i_this_size i_at_3 i_p1_inputs i_p1_gates k_letters) fun (r_4 : Int32) (i_this_at_5 : Int32) => (if r_4 = (-9 : Int32) then (some ((0 : Int32), i_this_at_5, k_p1_told, k_p1_lefts, k_p1_rights)) else (bnd (fun (x5_6 : Int32) (i_this_at_7 : Int32) => (grd (inb y2 8) <| bnd (upd k_p1_told y2.toNatClampNeg r_2) fun (k_p1_told_8 : (Nat → Int32)) => grd (inb y2 8) <| bnd (upd k_p1_lefts y2.toNatClampNeg r_4) fun (k_p1_lefts_9 : (Nat → Int32)) => grd (inb y2 8) <| bnd (upd k_p1_rights y2.toNatClampNeg x5_6) fun (k_p1_rights_10 : (Nat → Int32)) => some ((1 : Int32), i_this_at_7, k_p1_told_8, k_p1_lefts_9, k_p1_rights_10))) fun (j86_1 : Int32 → Int32 → Option (Int32 × Int32 × (Nat → Int32) × (Nat → Int32) × (Nat → Int32))) => (if r_2 = (4 : Int32) then (j86_1 ((-9 : Int32)) i_this_at_5) else (obd2 (f_X4_readSignal N r_4 i_this_size i_this_at_5 i_p1_inputs i_p1_gates k_letters) fun (r_11 : Int32) (i_this_at_12 : Int32) => (if r_11 = (-9 : Int32) then (some ((0 : Int32), i_this_at_12, k_p1_told, k_p1_lefts, k_p1_rights)) else (j86_1 r_11 i_this_at_12))))))) fun (j31_1 : Option (Int32 × Int32 × (Nat → Int32) × (Nat → Int32) × (Nat → Int32))) => (if r_2 = (4 : Int32) then (j31_1) else ((if (2 : Int32) ≤ (i_p1_inputs + y2) then (j31_1) else (some ((0 : Int32), i_this_at, k_p1_told, k_p1_lefts, k_p1_rights)))))))
set_option maxHeartbeats 4000000 in
set_option maxRecDepth 100000 in
theorem c_X4_readGate (l : Launch) (D : va_G) (cI cJ cZ cS : ClassId) (sz N : Nat) (a_this a_p1 a_letters a_p1_told a_p1_lefts a_p1_rights a_p1_nexts a_p1_starts a_p1_sizes a_p1_steps a_p1_links : Nat) (i_this_size : Int32) (i_this_at : Int32) (i_p1_inputs : Int32) (i_p1_gates : Int32) (i_p1_paths : Int32) (k_letters : (Nat → Int32)) (k_p1_told : (Nat → Int32)) (k_p1_lefts : (Nat → Int32)) (k_p1_rights : (Nat → Int32)) (y2 : Int32) (rr : Int32) (o_this_at : Int32) (o_p1_told : (Nat → Int32)) (o_p1_lefts : (Nat → Int32)) (o_p1_rights : (Nat → Int32)) (hf : f_X4_readGate N y2 i_this_size i_this_at i_p1_inputs i_p1_gates k_letters k_p1_told k_p1_lefts k_p1_rights = some (rr, o_this_at, o_p1_told, o_p1_lefts, o_p1_rights)) : MetI l yX4_readGate wsX4_readGate rmX4_readGate D (tyA cI cJ cZ cS) [(a_this, .inr (4, [.ref a_letters, .int i_this_size, .int i_this_at])), (a_p1, .inr (2, [.int i_p1_inputs, .int i_p1_gates, .int i_p1_paths, .ref a_p1_told, .ref a_p1_lefts, .ref a_p1_rights, .ref a_p1_nexts, .ref a_p1_starts, .ref a_p1_sizes, .ref a_p1_steps, .ref a_p1_links])), (a_letters, .inl (cI, 40, .inl k_letters)), (a_p1_told, .inl (cI, 8, .inl k_p1_told)), (a_p1_lefts, .inl (cI, 8, .inl k_p1_lefts)), (a_p1_rights, .inl (cI, 8, .inl k_p1_rights))] sz [.ref a_this, .ref a_p1, .int y2] rr [(a_this, .inr (4, [.ref a_letters, .int i_this_size, .int o_this_at])), (a_p1, .inr (2, [.int i_p1_inputs, .int i_p1_gates, .int i_p1_paths, .ref a_p1_told, .ref a_p1_lefts, .ref a_p1_rights, .ref a_p1_nexts, .ref a_p1_starts, .ref a_p1_sizes, .ref a_p1_steps, .ref a_p1_links])), (a_letters, .inl (cI, 40, .inl k_letters)), (a_p1_told, .inl (cI, 8, .inl o_p1_told)), (a_p1_lefts, .inl (cI, 8, .inl o_p1_lefts)), (a_p1_rights, .inl (cI, 8, .inl o_p1_rights))] := by
  refine entZ (cc := cX4_readGate) (maxL := 6) (own := RX4) (by decide) rfl rfl (Nat.le_of_ble_eq_true rfl) ?_
  intro p e s m args below meth c A ls Q H locs S hr hw hl hQ
  have hx := S.1.1
  have hb := S.1.2.1
  have hts := S.1.2.2.2.2
  have hl : lv_has ls 6 [(0, .ref a_this), (1, .ref a_p1), (2, .int y2)] := hl
  have hinX4 : ∀ w ∈ u_ws RX4 TX4 3, w ∈ wsX4_readGate := (fun _ h => List.mem_cons_of_mem _ (List.mem_append_right _ h))
  have F19 : FLk s args wsX4_readGate RX4 19 RX4 TX4 3 4 2 := ⟨hinX4, rfl, by decide, hts (.fieldLink RX4 19 "SlowPaths$Script" "at" "I") (List.mem_of_getElem? (i := 2) rfl)⟩
  have hinX2 : ∀ w ∈ u_ws RX2 TX2 11, w ∈ wsX4_readGate := (fun _ h => List.mem_cons_of_mem _ (List.mem_append_left _ (List.mem_append_right _ h)))
  have F22 : FLk s args wsX4_readGate RX4 22 RX2 TX2 11 2 0 := ⟨hinX2, rfl, by decide, hts (.fieldLink RX4 22 "SlowPaths$Net" "inputs" "I") (List.mem_of_getElem? (i := 1) rfl)⟩
  have F59 : FLk s args wsX4_readGate RX4 59 RX2 TX2 11 2 3 := ⟨hinX2, rfl, by decide, hts (.fieldLink RX4 59 "SlowPaths$Net" "told" "[I") (List.mem_of_getElem? (i := 3) rfl)⟩
  have F62 : FLk s args wsX4_readGate RX4 62 RX2 TX2 11 2 4 := ⟨hinX2, rfl, by decide, hts (.fieldLink RX4 62 "SlowPaths$Net" "lefts" "[I") (List.mem_of_getElem? (i := 4) rfl)⟩
  have F65 : FLk s args wsX4_readGate RX4 65 RX2 TX2 11 2 5 := ⟨hinX2, rfl, by decide, hts (.fieldLink RX4 65 "SlowPaths$Net" "rights" "[I") (List.mem_of_getElem? (i := 5) rfl)⟩
  have P19 : PLk TX4 3 2 tyX4 false .int := ⟨tyX4_ok, nmX4, rfl, rfl⟩
  have h := hf
  rw [f_X4_readGate] at h
  refine lv_aload_n hx hb dX4_readGate_0 rfl (lv_at hl 0 rfl) ?_
  obtain ⟨r_1, e1_1, h⟩ := obd1_el h
  refine zr_VI (As := []) (rest := []) (q0 := 0) S hw (c_X4_letter l D cI cJ cZ cS H.size N a_this a_letters i_this_size i_this_at k_letters r_1 e1_1) (cwV 0 hts gX4_readGate_X4_letter rfl rfl rfl dv_X4_letter ⟨Nat.le_of_ble_eq_true rfl, Nat.le_of_ble_eq_true rfl⟩) [0, 2] rfl rfl rfl rfl rfl rfl hl.1 rfl (Nat.le_of_ble_eq_true rfl) dX4_readGate_1 ⟨Nat.zero_le _, Nat.zero_le _⟩ ?_
  obtain ⟨r_2, e4_1, h⟩ := obd1_el h
  refine zr_SI (As := [.int r_1]) (rest := []) (q0 := 0) (ci := 0) (fs := []) (qc := (RX0, TX0, 4)) S hw (c_X4_kindOf l D cI cJ cZ cS H.size N r_1 r_2 e4_1) (va_cwS 1 hts gX4_readGate_X4_kindOf rfl rfl rfl ds_X4_kindOf ⟨Nat.le_of_ble_eq_true rfl, Nat.le_of_ble_eq_true rfl⟩) [] rfl rfl rfl hl.1 rfl (Nat.le_of_ble_eq_true rfl) dX4_readGate_4 ⟨Nat.zero_le _, Nat.zero_le _⟩ ?_
  refine lv_istore_n (lv' := [(3, .int r_2), (0, .ref a_this), (1, .ref a_p1), (2, .int y2)]) hx hb dX4_readGate_7 rfl hl (by decide) rfl (fun ls hl => ?_)
  refine lv_iload_n hx hb dX4_readGate_8 rfl (lv_at hl 0 rfl) ?_
  refine lv_bipush (v := (-9 : Int32)) hx hb dX4_readGate_9 (by decide) ?_
  refine lv_icmp_eq (tgt := 29) hx hb dX4_readGate_11 (by decide) (fun hc => ?_) (fun hc => ?_)
  · replace h := if_t hc h
    refine lv_iconst (v := (0 : Int32)) hx hb dX4_readGate_29 (by decide) ?_
    cases h
    exact z_zret S hQ hr rfl hw [0, 1, 2, 3, 4, 5] rfl rfl dX4_readGate_30
  · replace h := if_f hc h
    refine lv_iload_n hx hb dX4_readGate_14 rfl (lv_at hl 0 rfl) ?_
    refine lv_iconst (v := (4 : Int32)) hx hb dX4_readGate_15 (by decide) ?_
    obtain ⟨j31_1, ej31_1, h⟩ := bnd_ex h
    have hj31_1 : ∀ (H : Heap) (locs : List Loc) (ls : Array Slot), j31_1 = some (rr, o_this_at, o_p1_told, o_p1_lefts, o_p1_rights) → Wd D (tyA cI cJ cZ cS) A s [(a_this, .inr (4, [.ref a_letters, .int i_this_size, .int i_this_at])), (a_p1, .inr (2, [.int i_p1_inputs, .int i_p1_gates, .int i_p1_paths, .ref a_p1_told, .ref a_p1_lefts, .ref a_p1_rights, .ref a_p1_nexts, .ref a_p1_starts, .ref a_p1_sizes, .ref a_p1_steps, .ref a_p1_links])), (a_letters, .inl (cI, 40, .inl k_letters)), (a_p1_told, .inl (cI, 8, .inl k_p1_told)), (a_p1_lefts, .inl (cI, 8, .inl k_p1_lefts)), (a_p1_rights, .inl (cI, 8, .inl k_p1_rights))] H locs → lv_has ls 6 [(0, .ref a_this), (1, .ref a_p1), (2, .int y2), (3, .int r_2)] → W p l e rmX4_readGate s m args below meth c H locs 0 0 Q (F0 m 31 ls []) := by
      intro H locs ls h hw hl
      replace h := ap0 ej31_1 h
      refine lv_aload_n hx hb dX4_readGate_31 rfl (lv_at hl 0 rfl) ?_
      refine lv_dup hx hb dX4_readGate_32 rfl ?_
      refine z_get S hw F19 0 rfl rfl dX4_readGate_33 ?_
      refine lv_iconst (v := (1 : Int32)) hx hb dX4_readGate_36 (by decide) ?_
      refine lv_iadd hx hb dX4_readGate_37 ?_
      refine lv_topi (fun i_at_3 ei_at_3 => ?_)
      replace h := bnd_at ei_at_3 h
      refine z_put S hw F19 P19 rfl rfl 0 rfl (Nat.le_of_ble_eq_true rfl) dX4_readGate_38 (fun H locs hw => ?_)
      refine lv_aload_n hx hb dX4_readGate_41 rfl (lv_at hl 0 rfl) ?_
      refine lv_aload_n hx hb dX4_readGate_42 rfl (lv_at hl 1 rfl) ?_
      refine lv_bipush (v := (-9 : Int32)) hx hb dX4_readGate_43 (by decide) ?_
      obtain ⟨r_4, i_this_at_5, e45_1, h⟩ := obd2_el h
      refine zc_VI (As := [.ref a_p1, .int (-9 : Int32)]) (rest := []) (wr := [(a_p1_told, .inl (cI, 8, .inl k_p1_told)), (a_p1_lefts, .inl (cI, 8, .inl k_p1_lefts)), (a_p1_rights, .inl (cI, 8, .inl k_p1_rights))]) (q0 := 0) S hw (c_X4_readSignal l D cI cJ cZ cS H.size N a_this a_p1 a_letters a_p1_told a_p1_lefts a_p1_rights a_p1_nexts a_p1_starts a_p1_sizes a_p1_steps a_p1_links i_this_size i_at_3 i_p1_inputs i_p1_gates i_p1_paths k_letters (-9 : Int32) r_4 i_this_at_5 e45_1) (cwV 2 hts gX4_readGate_X4_readSignal rfl rfl rfl dv_X4_readSignal ⟨Nat.le_of_ble_eq_true rfl, Nat.le_of_ble_eq_true rfl⟩) [0, 1, 2] [3, 4, 5] rfl rfl rfl rfl (by decide) rfl rfl rfl rfl hl.1 rfl (Nat.le_of_ble_eq_true rfl) dX4_readGate_45 ⟨Nat.zero_le _, Nat.zero_le _⟩ (fun H locs hw => ?_)
      refine lv_istore (lv' := [(4, .int r_4), (0, .ref a_this), (1, .ref a_p1), (2, .int y2), (3, .int r_2)]) hx hb dX4_readGate_48 hl (by decide) rfl (fun ls hl => ?_)
      refine lv_iload hx hb dX4_readGate_50 (lv_at hl 0 rfl) ?_
      refine lv_bipush (v := (-9 : Int32)) hx hb dX4_readGate_52 (by decide) ?_
      refine lv_icmp_ne (tgt := 59) hx hb dX4_readGate_54 (by decide) (fun hc => ?_) (fun hc => ?_)
      · replace h := if_f hc h
        refine lv_bipush (v := (-9 : Int32)) hx hb dX4_readGate_59 (by decide) ?_
        refine lv_istore (lv' := [(5, .int (-9 : Int32)), (4, .int r_4), (0, .ref a_this), (1, .ref a_p1), (2, .int y2), (3, .int r_2)]) hx hb dX4_readGate_61 hl (by decide) rfl (fun ls hl => ?_)
        refine lv_iload_n hx hb dX4_readGate_63 rfl (lv_at hl 5 rfl) ?_
        refine lv_iconst (v := (4 : Int32)) hx hb dX4_readGate_64 (by decide) ?_
        obtain ⟨j86_1, ej86_1, h⟩ := bnd_ex h
        have hj86_1 : ∀ (x5_6 : Int32) (i_this_at_7 : Int32) (H : Heap) (locs : List Loc) (ls : Array Slot), j86_1 x5_6 i_this_at_7 = some (rr, o_this_at, o_p1_told, o_p1_lefts, o_p1_rights) → Wd D (tyA cI cJ cZ cS) A s [(a_this, .inr (4, [.ref a_letters, .int i_this_size, .int i_this_at_7])), (a_p1, .inr (2, [.int i_p1_inputs, .int i_p1_gates, .int i_p1_paths, .ref a_p1_told, .ref a_p1_lefts, .ref a_p1_rights, .ref a_p1_nexts, .ref a_p1_starts, .ref a_p1_sizes, .ref a_p1_steps, .ref a_p1_links])), (a_letters, .inl (cI, 40, .inl k_letters)), (a_p1_told, .inl (cI, 8, .inl k_p1_told)), (a_p1_lefts, .inl (cI, 8, .inl k_p1_lefts)), (a_p1_rights, .inl (cI, 8, .inl k_p1_rights))] H locs → lv_has ls 6 [(1, .ref a_p1), (2, .int y2), (3, .int r_2), (4, .int r_4), (5, .int x5_6)] → W p l e rmX4_readGate s m args below meth c H locs 0 0 Q (F0 m 86 ls []) := by
          intro x5_6 i_this_at_7 H locs ls h hw hl
          replace h := ap2 ej86_1 h
          refine lv_aload_n hx hb dX4_readGate_86 rfl (lv_at hl 0 rfl) ?_
          refine z_get S hw F59 1 rfl rfl dX4_readGate_87 ?_
          refine lv_iload_n hx hb dX4_readGate_90 rfl (lv_at hl 1 rfl) ?_
          refine lv_iload_n hx hb dX4_readGate_91 rfl (lv_at hl 2 rfl) ?_
          obtain ⟨hg, h⟩ := grd_el h
          obtain ⟨k_p1_told_8, ek_p1_told_8, h⟩ := bnd_ex h
          refine z_iast S hw ek_p1_told_8 3 0 rfl rfl hg dX4_readGate_92 (fun H locs hw => ?_)
          refine lv_aload_n hx hb dX4_readGate_93 rfl (lv_at hl 0 rfl) ?_
          refine z_get S hw F62 1 rfl rfl dX4_readGate_94 ?_
          refine lv_iload_n hx hb dX4_readGate_97 rfl (lv_at hl 1 rfl) ?_
          refine lv_iload hx hb dX4_readGate_98 (lv_at hl 3 rfl) ?_
          obtain ⟨hg, h⟩ := grd_el h
          obtain ⟨k_p1_lefts_9, ek_p1_lefts_9, h⟩ := bnd_ex h
          refine z_iast S hw ek_p1_lefts_9 4 0 rfl rfl hg dX4_readGate_100 (fun H locs hw => ?_)
          refine lv_aload_n hx hb dX4_readGate_101 rfl (lv_at hl 0 rfl) ?_
          refine z_get S hw F65 1 rfl rfl dX4_readGate_102 ?_
          refine lv_iload_n hx hb dX4_readGate_105 rfl (lv_at hl 1 rfl) ?_
          refine lv_iload hx hb dX4_readGate_106 (lv_at hl 4 rfl) ?_
          obtain ⟨hg, h⟩ := grd_el h
          obtain ⟨k_p1_rights_10, ek_p1_rights_10, h⟩ := bnd_ex h
          refine z_iast S hw ek_p1_rights_10 5 0 rfl rfl hg dX4_readGate_108 (fun H locs hw => ?_)
          refine lv_iconst (v := (1 : Int32)) hx hb dX4_readGate_109 (by decide) ?_
          cases h
          exact z_zret S hQ hr rfl hw [0, 1, 2, 3, 4, 5] rfl rfl dX4_readGate_110
        refine lv_icmp_eq (tgt := 86) hx hb dX4_readGate_65 (by decide) (fun hc => ?_) (fun hc => ?_)
        · replace h := if_t hc h
          exact hj86_1 ((-9 : Int32)) i_this_at_5 H locs ls h (hw.sub [3, 4, 5, 0, 1, 2] rfl rfl) (lv_sub hl [3, 4, 5, 1, 0] rfl)
        · replace h := if_f hc h
          refine lv_aload_n hx hb dX4_readGate_68 rfl (lv_at hl 2 rfl) ?_
          refine lv_aload_n hx hb dX4_readGate_69 rfl (lv_at hl 3 rfl) ?_
          refine lv_iload hx hb dX4_readGate_70 (lv_at hl 1 rfl) ?_
          obtain ⟨r_11, i_this_at_12, e72_1, h⟩ := obd2_el h
          refine zc_VI (As := [.ref a_p1, .int r_4]) (rest := []) (wr := [(a_p1_told, .inl (cI, 8, .inl k_p1_told)), (a_p1_lefts, .inl (cI, 8, .inl k_p1_lefts)), (a_p1_rights, .inl (cI, 8, .inl k_p1_rights))]) (q0 := 0) S hw (c_X4_readSignal l D cI cJ cZ cS H.size N a_this a_p1 a_letters a_p1_told a_p1_lefts a_p1_rights a_p1_nexts a_p1_starts a_p1_sizes a_p1_steps a_p1_links i_this_size i_this_at_5 i_p1_inputs i_p1_gates i_p1_paths k_letters r_4 r_11 i_this_at_12 e72_1) (cwV 2 hts gX4_readGate_X4_readSignal rfl rfl rfl dv_X4_readSignal ⟨Nat.le_of_ble_eq_true rfl, Nat.le_of_ble_eq_true rfl⟩) [3, 4, 5] [0, 1, 2] rfl rfl rfl rfl (by decide) rfl rfl rfl rfl hl.1 rfl (Nat.le_of_ble_eq_true rfl) dX4_readGate_72 ⟨Nat.zero_le _, Nat.zero_le _⟩ (fun H locs hw => ?_)
          refine lv_istore (lv' := [(5, .int r_11), (4, .int r_4), (0, .ref a_this), (1, .ref a_p1), (2, .int y2), (3, .int r_2)]) hx hb dX4_readGate_75 hl (by decide) rfl (fun ls hl => ?_)
          refine lv_iload hx hb dX4_readGate_77 (lv_at hl 0 rfl) ?_
          refine lv_bipush (v := (-9 : Int32)) hx hb dX4_readGate_79 (by decide) ?_
          refine lv_icmp_ne (tgt := 86) hx hb dX4_readGate_81 (by decide) (fun hc => ?_) (fun hc => ?_)
          · replace h := if_f hc h
            exact hj86_1 r_11 i_this_at_12 H locs ls h (hw.sub [3, 4, 5, 0, 1, 2] rfl rfl) (lv_sub hl [3, 4, 5, 1, 0] rfl)
          · replace h := if_t hc h
            refine lv_iconst (v := (0 : Int32)) hx hb dX4_readGate_84 (by decide) ?_
            cases h
            exact z_zret S hQ hr rfl hw [3, 4, 5, 0, 1, 2] rfl rfl dX4_readGate_85
      · replace h := if_t hc h
        refine lv_iconst (v := (0 : Int32)) hx hb dX4_readGate_57 (by decide) ?_
        cases h
        exact z_zret S hQ hr rfl hw [3, 4, 5, 0, 1, 2] rfl rfl dX4_readGate_58
    refine lv_icmp_eq (tgt := 31) hx hb dX4_readGate_16 (by decide) (fun hc => ?_) (fun hc => ?_)
    · replace h := if_t hc h
      exact hj31_1  H locs ls h hw (lv_sub hl [1, 2, 3, 0] rfl)
    · replace h := if_f hc h
      refine lv_aload_n hx hb dX4_readGate_19 rfl (lv_at hl 2 rfl) ?_
      refine z_get S hw F22 1 rfl rfl dX4_readGate_20 ?_
      refine lv_iload_n hx hb dX4_readGate_23 rfl (lv_at hl 3 rfl) ?_
      refine lv_iadd hx hb dX4_readGate_24 ?_
      refine lv_iconst (v := (2 : Int32)) hx hb dX4_readGate_25 (by decide) ?_
      refine lv_icmp_ge (tgt := 31) hx hb dX4_readGate_26 (by decide) (fun hc => ?_) (fun hc => ?_)
      · replace h := if_t hc h
        exact hj31_1  H locs ls h hw (lv_sub hl [1, 2, 3, 0] rfl)
      · replace h := if_f hc h
        refine lv_iconst (v := (0 : Int32)) hx hb dX4_readGate_29 (by decide) ?_
        cases h
        exact z_zret S hQ hr rfl hw [0, 1, 2, 3, 4, 5] rfl rfl dX4_readGate_30
abbrev rmX4_readGates : Room := { frames := 3, cells := 0, slots := 0, locals := 69 }
theorem dv_X4_readGates : yX4_readGates.cls = RX4 ∧ yX4_readGates.cls ≠ "java/lang/invoke/MethodHandle" ∧ yX4_readGates.cls ≠ "java/lang/invoke/VarHandle" ∧ (parseMethodDescriptor yX4_readGates.desc).map (fun d => d.parameters.length) = some 1 := by decide +kernel
noncomputable def f_X4_readGates_L2 (N : Nat) (i_this_size : Int32) (i_p1_inputs : Int32) (k_letters : (Nat → Int32)) (j66_1 : Int32 → Int32 → (Nat → Int32) → (Nat → Int32) → (Nat → Int32) → Option (Int32 × Int32 × Int32 × (Nat → Int32) × (Nat → Int32) × (Nat → Int32))) : Nat → Int32 → Int32 → Int32 → (Nat → Int32) → (Nat → Int32) → (Nat → Int32) → Option (Int32 × Int32 × Int32 × (Nat → Int32) × (Nat → Int32) × (Nat → Int32))
  | 0, _, _, _, _, _, _ => none
  | n_2 + 1, x2_6, i_this_at_7, i_p1_gates_8, k_p1_told_9, k_p1_lefts_10, k_p1_rights_11 =>
    (if (8 : Int32) < x2_6 then (j66_1 i_this_at_7 i_p1_gates_8 k_p1_told_9 k_p1_lefts_10 k_p1_rights_11) else (bnd (α := Option (Int32 × Int32 × Int32 × (Nat → Int32) × (Nat → Int32) × (Nat → Int32))) ((if x2_6 = (8 : Int32) then (some ((0 : Int32), i_this_at_7, i_p1_gates_8, k_p1_told_9, k_p1_lefts_10, k_p1_rights_11)) else (obd5 (f_X4_readGate N x2_6 i_this_size i_this_at_7 i_p1_inputs i_p1_gates_8 k_letters k_p1_told_9 k_p1_lefts_10 k_p1_rights_11) fun (r_12 : Int32) (i_this_at_13 : Int32) (k_p1_told_14 : (Nat → Int32)) (k_p1_lefts_15 : (Nat → Int32)) (k_p1_rights_16 : (Nat → Int32)) => (if r_12 = (0 : Int32) then (some ((0 : Int32), i_this_at_13, i_p1_gates_8, k_p1_told_14, k_p1_lefts_15, k_p1_rights_16)) else (bnd ((i_p1_gates_8 + (1 : Int32))) fun (i_gates_17 : Int32) => bnd (x2_6 + (1 : Int32)) fun (x2_18 : Int32) => f_X4_readGates_L2 N i_this_size i_p1_inputs k_letters j66_1 n_2 x2_18 i_this_at_13 i_gates_17 k_p1_told_14 k_p1_lefts_15 k_p1_rights_16))))) fun (j33_1 : Option (Int32 × Int32 × Int32 × (Nat → Int32) × (Nat → Int32) × (Nat → Int32))) => (if x2_6 ≤ (0 : Int32) then (j33_1) else (obd1 (f_X4_letter N i_this_size i_this_at_7 k_letters) fun (r_19 : Int32) => (if r_19 = (62 : Int32) then (bnd ((i_this_at_7 + (1 : Int32))) fun (i_at_20 : Int32) => some ((1 : Int32), i_at_20, i_p1_gates_8, k_p1_told_9, k_p1_lefts_10, k_p1_rights_11)) else (j33_1))))))
noncomputable def f_X4_readGates (N : Nat)  (i_this_size : Int32) (i_this_at : Int32) (i_p1_inputs : Int32) (i_p1_gates : Int32) (k_letters : (Nat → Int32)) (k_p1_told : (Nat → Int32)) (k_p1_lefts : (Nat → Int32)) (k_p1_rights : (Nat → Int32)) : Option (Int32 × Int32 × Int32 × (Nat → Int32) × (Nat → Int32) × (Nat → Int32)) :=
  bnd (fun (i_this_at_1 : Int32) (i_p1_gates_2 : Int32) (k_p1_told_3 : (Nat → Int32)) (k_p1_lefts_4 : (Nat → Int32)) (k_p1_rights_5 : (Nat → Int32)) => (some ((0 : Int32), i_this_at_1, i_p1_gates_2, k_p1_told_3, k_p1_lefts_4, k_p1_rights_5))) fun (j66_1 : Int32 → Int32 → (Nat → Int32) → (Nat → Int32) → (Nat → Int32) → Option (Int32 × Int32 × Int32 × (Nat → Int32) × (Nat → Int32) × (Nat → Int32))) => f_X4_readGates_L2 N i_this_size i_p1_inputs k_letters j66_1 N ((0 : Int32)) i_this_at i_p1_gates k_p1_told k_p1_lefts k_p1_rights
set_option maxHeartbeats 4000000 in
set_option maxRecDepth 100000 in
theorem c_X4_readGates (l : Launch) (D : va_G) (cI cJ cZ cS : ClassId) (sz N : Nat) (a_this a_p1 a_letters a_p1_told a_p1_lefts a_p1_rights a_p1_nexts a_p1_starts a_p1_sizes a_p1_steps a_p1_links : Nat) (i_this_size : Int32) (i_this_at : Int32) (i_p1_inputs : Int32) (i_p1_gates : Int32) (i_p1_paths : Int32) (k_letters : (Nat → Int32)) (k_p1_told : (Nat → Int32)) (k_p1_lefts : (Nat → Int32)) (k_p1_rights : (Nat → Int32))  (rr : Int32) (o_this_at : Int32) (o_p1_gates : Int32) (o_p1_told : (Nat → Int32)) (o_p1_lefts : (Nat → Int32)) (o_p1_rights : (Nat → Int32)) (hf : f_X4_readGates N i_this_size i_this_at i_p1_inputs i_p1_gates k_letters k_p1_told k_p1_lefts k_p1_rights = some (rr, o_this_at, o_p1_gates, o_p1_told, o_p1_lefts, o_p1_rights)) : MetI l yX4_readGates wsX4_readGates rmX4_readGates D (tyA cI cJ cZ cS) [(a_this, .inr (4, [.ref a_letters, .int i_this_size, .int i_this_at])), (a_p1, .inr (2, [.int i_p1_inputs, .int i_p1_gates, .int i_p1_paths, .ref a_p1_told, .ref a_p1_lefts, .ref a_p1_rights, .ref a_p1_nexts, .ref a_p1_starts, .ref a_p1_sizes, .ref a_p1_steps, .ref a_p1_links])), (a_letters, .inl (cI, 40, .inl k_letters)), (a_p1_told, .inl (cI, 8, .inl k_p1_told)), (a_p1_lefts, .inl (cI, 8, .inl k_p1_lefts)), (a_p1_rights, .inl (cI, 8, .inl k_p1_rights))] sz [.ref a_this, .ref a_p1] rr [(a_this, .inr (4, [.ref a_letters, .int i_this_size, .int o_this_at])), (a_p1, .inr (2, [.int i_p1_inputs, .int o_p1_gates, .int i_p1_paths, .ref a_p1_told, .ref a_p1_lefts, .ref a_p1_rights, .ref a_p1_nexts, .ref a_p1_starts, .ref a_p1_sizes, .ref a_p1_steps, .ref a_p1_links])), (a_letters, .inl (cI, 40, .inl k_letters)), (a_p1_told, .inl (cI, 8, .inl o_p1_told)), (a_p1_lefts, .inl (cI, 8, .inl o_p1_lefts)), (a_p1_rights, .inl (cI, 8, .inl o_p1_rights))] := by
  refine entZ (cc := cX4_readGates) (maxL := 3) (own := RX4) (by decide) rfl rfl (Nat.le_of_ble_eq_true rfl) ?_
  intro p e s m args below meth c A ls Q H locs S hr hw hl hQ
  have hx := S.1.1
  have hb := S.1.2.1
  have hts := S.1.2.2.2.2
  have hl : lv_has ls 3 [(0, .ref a_this), (1, .ref a_p1)] := hl
  have hinX4 : ∀ w ∈ u_ws RX4 TX4 3, w ∈ wsX4_readGates := (fun _ h => List.mem_cons_of_mem _ (List.mem_append_left _ (List.mem_append_right _ h)))
  have F19 : FLk s args wsX4_readGates RX4 19 RX4 TX4 3 4 2 := ⟨hinX4, rfl, by decide, hts (.fieldLink RX4 19 "SlowPaths$Script" "at" "I") (List.mem_of_getElem? (i := 1) rfl)⟩
  have hinX2 : ∀ w ∈ u_ws RX2 TX2 11, w ∈ wsX4_readGates := (fun _ h => List.mem_cons_of_mem _ (List.mem_append_right _ h))
  have F27 : FLk s args wsX4_readGates RX4 27 RX2 TX2 11 2 1 := ⟨hinX2, rfl, by decide, hts (.fieldLink RX4 27 "SlowPaths$Net" "gates" "I") (List.mem_of_getElem? (i := 2) rfl)⟩
  have P19 : PLk TX4 3 2 tyX4 false .int := ⟨tyX4_ok, nmX4, rfl, rfl⟩
  have P27 : PLk TX2 11 1 tyX2 false .int := ⟨tyX2_ok, nmX2, rfl, rfl⟩
  have h := hf
  rw [f_X4_readGates] at h
  refine lv_iconst (v := (0 : Int32)) hx hb dX4_readGates_0 (by decide) ?_
  refine lv_istore_n (lv' := [(2, .int (0 : Int32)), (0, .ref a_this), (1, .ref a_p1)]) hx hb dX4_readGates_1 rfl hl (by decide) rfl (fun ls hl => ?_)
  obtain ⟨j66_1, ej66_1, h⟩ := bnd_ex h
  have hj66_1 : ∀ (i_this_at_1 : Int32) (i_p1_gates_2 : Int32) (k_p1_told_3 : (Nat → Int32)) (k_p1_lefts_4 : (Nat → Int32)) (k_p1_rights_5 : (Nat → Int32)) (H : Heap) (locs : List Loc) (ls : Array Slot), j66_1 i_this_at_1 i_p1_gates_2 k_p1_told_3 k_p1_lefts_4 k_p1_rights_5 = some (rr, o_this_at, o_p1_gates, o_p1_told, o_p1_lefts, o_p1_rights) → Wd D (tyA cI cJ cZ cS) A s [(a_this, .inr (4, [.ref a_letters, .int i_this_size, .int i_this_at_1])), (a_p1, .inr (2, [.int i_p1_inputs, .int i_p1_gates_2, .int i_p1_paths, .ref a_p1_told, .ref a_p1_lefts, .ref a_p1_rights, .ref a_p1_nexts, .ref a_p1_starts, .ref a_p1_sizes, .ref a_p1_steps, .ref a_p1_links])), (a_letters, .inl (cI, 40, .inl k_letters)), (a_p1_told, .inl (cI, 8, .inl k_p1_told_3)), (a_p1_lefts, .inl (cI, 8, .inl k_p1_lefts_4)), (a_p1_rights, .inl (cI, 8, .inl k_p1_rights_5))] H locs → lv_has ls 3 [] → W p l e rmX4_readGates s m args below meth c H locs 0 0 Q (F0 m 66 ls []) := by
    intro i_this_at_1 i_p1_gates_2 k_p1_told_3 k_p1_lefts_4 k_p1_rights_5 H locs ls h hw hl
    replace h := ap5 ej66_1 h
    refine lv_iconst (v := (0 : Int32)) hx hb dX4_readGates_66 (by decide) ?_
    cases h
    exact z_zret S hQ hr rfl hw [0, 1, 2, 3, 4, 5] rfl rfl dX4_readGates_67
  have hL2_1 : ∀ (nf : Nat) (x2_6 : Int32) (i_this_at_7 : Int32) (i_p1_gates_8 : Int32) (k_p1_told_9 : (Nat → Int32)) (k_p1_lefts_10 : (Nat → Int32)) (k_p1_rights_11 : (Nat → Int32)) (H : Heap) (locs : List Loc) (ls : Array Slot), f_X4_readGates_L2 N i_this_size i_p1_inputs k_letters j66_1 nf x2_6 i_this_at_7 i_p1_gates_8 k_p1_told_9 k_p1_lefts_10 k_p1_rights_11 = some (rr, o_this_at, o_p1_gates, o_p1_told, o_p1_lefts, o_p1_rights) → Wd D (tyA cI cJ cZ cS) A s [(a_this, .inr (4, [.ref a_letters, .int i_this_size, .int i_this_at_7])), (a_p1, .inr (2, [.int i_p1_inputs, .int i_p1_gates_8, .int i_p1_paths, .ref a_p1_told, .ref a_p1_lefts, .ref a_p1_rights, .ref a_p1_nexts, .ref a_p1_starts, .ref a_p1_sizes, .ref a_p1_steps, .ref a_p1_links])), (a_letters, .inl (cI, 40, .inl k_letters)), (a_p1_told, .inl (cI, 8, .inl k_p1_told_9)), (a_p1_lefts, .inl (cI, 8, .inl k_p1_lefts_10)), (a_p1_rights, .inl (cI, 8, .inl k_p1_rights_11))] H locs → lv_has ls 3 [(0, .ref a_this), (1, .ref a_p1), (2, .int x2_6)] → W p l e rmX4_readGates s m args below meth c H locs 0 0 Q (F0 m 2 ls []) := by
    intro nf
    induction nf with
    | zero =>
      intro x2_6 i_this_at_7 i_p1_gates_8 k_p1_told_9 k_p1_lefts_10 k_p1_rights_11 H locs ls h
      rw [f_X4_readGates_L2] at h
      cases h
    | succ n_2 ih_2 =>
      intro x2_6 i_this_at_7 i_p1_gates_8 k_p1_told_9 k_p1_lefts_10 k_p1_rights_11 H locs ls h hw hl
      rw [f_X4_readGates_L2] at h
      refine lv_iload_n hx hb dX4_readGates_2 rfl (lv_at hl 2 rfl) ?_
      refine lv_bipush (v := (8 : Int32)) hx hb dX4_readGates_3 (by decide) ?_
      refine lv_icmp_gt (tgt := 66) hx hb dX4_readGates_5 (by decide) (fun hc => ?_) (fun hc => ?_)
      · replace h := if_t hc h
        exact hj66_1 i_this_at_7 i_p1_gates_8 k_p1_told_9 k_p1_lefts_10 k_p1_rights_11 H locs ls h hw (lv_sub hl [] rfl)
      · replace h := if_f hc h
        refine lv_iload_n hx hb dX4_readGates_8 rfl (lv_at hl 2 rfl) ?_
        obtain ⟨j33_1, ej33_1, h⟩ := bnd_ex h
        have hj33_1 : ∀ (H : Heap) (locs : List Loc) (ls : Array Slot), j33_1 = some (rr, o_this_at, o_p1_gates, o_p1_told, o_p1_lefts, o_p1_rights) → Wd D (tyA cI cJ cZ cS) A s [(a_this, .inr (4, [.ref a_letters, .int i_this_size, .int i_this_at_7])), (a_p1, .inr (2, [.int i_p1_inputs, .int i_p1_gates_8, .int i_p1_paths, .ref a_p1_told, .ref a_p1_lefts, .ref a_p1_rights, .ref a_p1_nexts, .ref a_p1_starts, .ref a_p1_sizes, .ref a_p1_steps, .ref a_p1_links])), (a_letters, .inl (cI, 40, .inl k_letters)), (a_p1_told, .inl (cI, 8, .inl k_p1_told_9)), (a_p1_lefts, .inl (cI, 8, .inl k_p1_lefts_10)), (a_p1_rights, .inl (cI, 8, .inl k_p1_rights_11))] H locs → lv_has ls 3 [(0, .ref a_this), (1, .ref a_p1), (2, .int x2_6)] → W p l e rmX4_readGates s m args below meth c H locs 0 0 Q (F0 m 33 ls []) := by
          intro H locs ls h hw hl
          replace h := ap0 ej33_1 h
          refine lv_iload_n hx hb dX4_readGates_33 rfl (lv_at hl 2 rfl) ?_
          refine lv_bipush (v := (8 : Int32)) hx hb dX4_readGates_34 (by decide) ?_
          refine lv_icmp_eq (tgt := 48) hx hb dX4_readGates_36 (by decide) (fun hc => ?_) (fun hc => ?_)
          · replace h := if_t hc h
            refine lv_iconst (v := (0 : Int32)) hx hb dX4_readGates_48 (by decide) ?_
            cases h
            exact z_zret S hQ hr rfl hw [0, 1, 2, 3, 4, 5] rfl rfl dX4_readGates_49
          · replace h := if_f hc h
            refine lv_aload_n hx hb dX4_readGates_39 rfl (lv_at hl 0 rfl) ?_
            refine lv_aload_n hx hb dX4_readGates_40 rfl (lv_at hl 1 rfl) ?_
            refine lv_iload_n hx hb dX4_readGates_41 rfl (lv_at hl 2 rfl) ?_
            obtain ⟨r_12, i_this_at_13, k_p1_told_14, k_p1_lefts_15, k_p1_rights_16, e42_1, h⟩ := obd5_el h
            refine zc_VI (As := [.ref a_p1, .int x2_6]) (rest := []) (wr := []) (q0 := 0) S hw (c_X4_readGate l D cI cJ cZ cS H.size N a_this a_p1 a_letters a_p1_told a_p1_lefts a_p1_rights a_p1_nexts a_p1_starts a_p1_sizes a_p1_steps a_p1_links i_this_size i_this_at_7 i_p1_inputs i_p1_gates_8 i_p1_paths k_letters k_p1_told_9 k_p1_lefts_10 k_p1_rights_11 x2_6 r_12 i_this_at_13 k_p1_told_14 k_p1_lefts_15 k_p1_rights_16 e42_1) (cwV 2 hts gX4_readGates_X4_readGate rfl rfl rfl dv_X4_readGate ⟨Nat.le_of_ble_eq_true rfl, Nat.le_of_ble_eq_true rfl⟩) [0, 1, 2, 3, 4, 5] [] rfl rfl rfl rfl (by decide) rfl rfl rfl rfl hl.1 rfl (Nat.le_of_ble_eq_true rfl) dX4_readGates_42 ⟨Nat.zero_le _, Nat.zero_le _⟩ (fun H locs hw => ?_)
            refine lv_if_ne (tgt := 50) hx hb dX4_readGates_45 (by decide) (fun hc => ?_) (fun hc => ?_)
            · replace h := if_f hc h
              refine lv_aload_n hx hb dX4_readGates_50 rfl (lv_at hl 1 rfl) ?_
              refine lv_dup hx hb dX4_readGates_51 rfl ?_
              refine z_get S hw F27 1 rfl rfl dX4_readGates_52 ?_
              refine lv_iconst (v := (1 : Int32)) hx hb dX4_readGates_55 (by decide) ?_
              refine lv_iadd hx hb dX4_readGates_56 ?_
              refine lv_topi (fun i_gates_17 ei_gates_17 => ?_)
              replace h := bnd_at ei_gates_17 h
              refine z_put S hw F27 P27 rfl rfl 1 rfl (Nat.le_of_ble_eq_true rfl) dX4_readGates_57 (fun H locs hw => ?_)
              obtain ⟨x2_18, ex2_18, h⟩ := bnd_ex h
              refine lv_iinc (v := x2_18) (lv' := [(2, .int x2_18), (0, .ref a_this), (1, .ref a_p1)]) hx hb dX4_readGates_60 hl (k := 2) rfl (by rw [ex2_18]; rfl) (by decide) rfl (fun ls hl => ?_)
              refine lv_goto (tgt := 2) hx hb dX4_readGates_63 (by decide) ?_
              exact ih_2 x2_18 i_this_at_13 i_gates_17 k_p1_told_14 k_p1_lefts_15 k_p1_rights_16 H locs ls h hw (lv_sub hl [1, 2, 0] rfl)
            · replace h := if_t hc h
              refine lv_iconst (v := (0 : Int32)) hx hb dX4_readGates_48 (by decide) ?_
              cases h
              exact z_zret S hQ hr rfl hw [0, 1, 2, 3, 4, 5] rfl rfl dX4_readGates_49
        refine lv_if_le (tgt := 33) hx hb dX4_readGates_9 (by decide) (fun hc => ?_) (fun hc => ?_)
        · replace h := if_t hc h
          exact hj33_1  H locs ls h hw hl
        · replace h := if_f hc h
          refine lv_aload_n hx hb dX4_readGates_12 rfl (lv_at hl 0 rfl) ?_
          obtain ⟨r_19, e13_1, h⟩ := obd1_el h
          refine zr_VI (As := []) (rest := []) (q0 := 0) S hw (c_X4_letter l D cI cJ cZ cS H.size N a_this a_letters i_this_size i_this_at_7 k_letters r_19 e13_1) (cwV 0 hts gX4_readGates_X4_letter rfl rfl rfl dv_X4_letter ⟨Nat.le_of_ble_eq_true rfl, Nat.le_of_ble_eq_true rfl⟩) [0, 2] rfl rfl rfl rfl rfl rfl hl.1 rfl (Nat.le_of_ble_eq_true rfl) dX4_readGates_13 ⟨Nat.zero_le _, Nat.zero_le _⟩ ?_
          refine lv_bipush (v := (62 : Int32)) hx hb dX4_readGates_16 (by decide) ?_
          refine lv_icmp_ne (tgt := 33) hx hb dX4_readGates_18 (by decide) (fun hc => ?_) (fun hc => ?_)
          · replace h := if_f hc h
            exact hj33_1  H locs ls h hw hl
          · replace h := if_t hc h
            refine lv_aload_n hx hb dX4_readGates_21 rfl (lv_at hl 0 rfl) ?_
            refine lv_dup hx hb dX4_readGates_22 rfl ?_
            refine z_get S hw F19 0 rfl rfl dX4_readGates_23 ?_
            refine lv_iconst (v := (1 : Int32)) hx hb dX4_readGates_26 (by decide) ?_
            refine lv_iadd hx hb dX4_readGates_27 ?_
            refine lv_topi (fun i_at_20 ei_at_20 => ?_)
            replace h := bnd_at ei_at_20 h
            refine z_put S hw F19 P19 rfl rfl 0 rfl (Nat.le_of_ble_eq_true rfl) dX4_readGates_28 (fun H locs hw => ?_)
            refine lv_iconst (v := (1 : Int32)) hx hb dX4_readGates_31 (by decide) ?_
            cases h
            exact z_zret S hQ hr rfl hw [0, 1, 2, 3, 4, 5] rfl rfl dX4_readGates_32
  exact hL2_1 N ((0 : Int32)) i_this_at i_p1_gates k_p1_told k_p1_lefts k_p1_rights H locs ls h hw (lv_sub hl [1, 2, 0] rfl)
abbrev rmX4_readNexts : Room := { frames := 2, cells := 0, slots := 0, locals := 44 }
theorem dv_X4_readNexts : yX4_readNexts.cls = RX4 ∧ yX4_readNexts.cls ≠ "java/lang/invoke/MethodHandle" ∧ yX4_readNexts.cls ≠ "java/lang/invoke/VarHandle" ∧ (parseMethodDescriptor yX4_readNexts.desc).map (fun d => d.parameters.length) = some 1 := by decide +kernel
noncomputable def f_X4_readNexts_L2 (N : Nat) (i_p1_inputs : Int32) (i_p1_gates : Int32) (i_this_size : Int32) (k_letters : (Nat → Int32)) (j44_1 : Int32 → (Nat → Int32) → Option (Int32 × Int32 × (Nat → Int32))) : Nat → Int32 → Int32 → (Nat → Int32) → Option (Int32 × Int32 × (Nat → Int32))
  | 0, _, _, _ => none
  | n_2 + 1, x2_3, i_this_at_4, k_p1_nexts_5 =>
    (if i_p1_inputs ≤ x2_3 then (j44_1 i_this_at_4 k_p1_nexts_5) else ((if (4 : Int32) ≤ x2_3 then (j44_1 i_this_at_4 k_p1_nexts_5) else (obd2 (f_X4_readSignal N (-9 : Int32) i_this_size i_this_at_4 i_p1_inputs i_p1_gates k_letters) fun (r_6 : Int32) (i_this_at_7 : Int32) => (if r_6 = (-9 : Int32) then (some ((0 : Int32), i_this_at_7, k_p1_nexts_5)) else (grd (inb x2_3 4) <| bnd (upd k_p1_nexts_5 x2_3.toNatClampNeg r_6) fun (k_p1_nexts_8 : (Nat → Int32)) => bnd (x2_3 + (1 : Int32)) fun (x2_9 : Int32) => f_X4_readNexts_L2 N i_p1_inputs i_p1_gates i_this_size k_letters j44_1 n_2 x2_9 i_this_at_7 k_p1_nexts_8))))))
noncomputable def f_X4_readNexts (N : Nat)  (i_p1_inputs : Int32) (i_p1_gates : Int32) (i_this_size : Int32) (i_this_at : Int32) (k_letters : (Nat → Int32)) (k_p1_nexts : (Nat → Int32)) : Option (Int32 × Int32 × (Nat → Int32)) :=
  bnd (fun (i_this_at_1 : Int32) (k_p1_nexts_2 : (Nat → Int32)) => (some ((1 : Int32), i_this_at_1, k_p1_nexts_2))) fun (j44_1 : Int32 → (Nat → Int32) → Option (Int32 × Int32 × (Nat → Int32))) => f_X4_readNexts_L2 N i_p1_inputs i_p1_gates i_this_size k_letters j44_1 N ((0 : Int32)) i_this_at k_p1_nexts
set_option maxHeartbeats 4000000 in
set_option maxRecDepth 100000 in
theorem c_X4_readNexts (l : Launch) (D : va_G) (cI cJ cZ cS : ClassId) (sz N : Nat) (a_p1 a_this a_letters a_p1_nexts a_p1_told a_p1_lefts a_p1_rights a_p1_starts a_p1_sizes a_p1_steps a_p1_links : Nat) (i_p1_inputs : Int32) (i_p1_gates : Int32) (i_p1_paths : Int32) (i_this_size : Int32) (i_this_at : Int32) (k_letters : (Nat → Int32)) (k_p1_nexts : (Nat → Int32))  (rr : Int32) (o_this_at : Int32) (o_p1_nexts : (Nat → Int32)) (hf : f_X4_readNexts N i_p1_inputs i_p1_gates i_this_size i_this_at k_letters k_p1_nexts = some (rr, o_this_at, o_p1_nexts)) : MetI l yX4_readNexts wsX4_readNexts rmX4_readNexts D (tyA cI cJ cZ cS) [(a_p1, .inr (2, [.int i_p1_inputs, .int i_p1_gates, .int i_p1_paths, .ref a_p1_told, .ref a_p1_lefts, .ref a_p1_rights, .ref a_p1_nexts, .ref a_p1_starts, .ref a_p1_sizes, .ref a_p1_steps, .ref a_p1_links])), (a_this, .inr (4, [.ref a_letters, .int i_this_size, .int i_this_at])), (a_letters, .inl (cI, 40, .inl k_letters)), (a_p1_nexts, .inl (cI, 4, .inl k_p1_nexts))] sz [.ref a_this, .ref a_p1] rr [(a_p1, .inr (2, [.int i_p1_inputs, .int i_p1_gates, .int i_p1_paths, .ref a_p1_told, .ref a_p1_lefts, .ref a_p1_rights, .ref a_p1_nexts, .ref a_p1_starts, .ref a_p1_sizes, .ref a_p1_steps, .ref a_p1_links])), (a_this, .inr (4, [.ref a_letters, .int i_this_size, .int o_this_at])), (a_letters, .inl (cI, 40, .inl k_letters)), (a_p1_nexts, .inl (cI, 4, .inl o_p1_nexts))] := by
  refine entZ (cc := cX4_readNexts) (maxL := 4) (own := RX4) (by decide) rfl rfl (Nat.le_of_ble_eq_true rfl) ?_
  intro p e s m args below meth c A ls Q H locs S hr hw hl hQ
  have hx := S.1.1
  have hb := S.1.2.1
  have hts := S.1.2.2.2.2
  have hl : lv_has ls 4 [(0, .ref a_this), (1, .ref a_p1)] := hl
  have hinX2 : ∀ w ∈ u_ws RX2 TX2 11, w ∈ wsX4_readNexts := (fun _ h => List.mem_cons_of_mem _ (List.mem_append_left _ (List.mem_append_right _ h)))
  have F22 : FLk s args wsX4_readNexts RX4 22 RX2 TX2 11 2 0 := ⟨hinX2, rfl, by decide, hts (.fieldLink RX4 22 "SlowPaths$Net" "inputs" "I") (List.mem_of_getElem? (i := 1) rfl)⟩
  have F68 : FLk s args wsX4_readNexts RX4 68 RX2 TX2 11 2 6 := ⟨hinX2, rfl, by decide, hts (.fieldLink RX4 68 "SlowPaths$Net" "nexts" "[I") (List.mem_of_getElem? (i := 2) rfl)⟩
  have h := hf
  rw [f_X4_readNexts] at h
  refine lv_iconst (v := (0 : Int32)) hx hb dX4_readNexts_0 (by decide) ?_
  refine lv_istore_n (lv' := [(2, .int (0 : Int32)), (0, .ref a_this), (1, .ref a_p1)]) hx hb dX4_readNexts_1 rfl hl (by decide) rfl (fun ls hl => ?_)
  obtain ⟨j44_1, ej44_1, h⟩ := bnd_ex h
  have hj44_1 : ∀ (i_this_at_1 : Int32) (k_p1_nexts_2 : (Nat → Int32)) (H : Heap) (locs : List Loc) (ls : Array Slot), j44_1 i_this_at_1 k_p1_nexts_2 = some (rr, o_this_at, o_p1_nexts) → Wd D (tyA cI cJ cZ cS) A s [(a_p1, .inr (2, [.int i_p1_inputs, .int i_p1_gates, .int i_p1_paths, .ref a_p1_told, .ref a_p1_lefts, .ref a_p1_rights, .ref a_p1_nexts, .ref a_p1_starts, .ref a_p1_sizes, .ref a_p1_steps, .ref a_p1_links])), (a_this, .inr (4, [.ref a_letters, .int i_this_size, .int i_this_at_1])), (a_letters, .inl (cI, 40, .inl k_letters)), (a_p1_nexts, .inl (cI, 4, .inl k_p1_nexts_2))] H locs → lv_has ls 4 [] → W p l e rmX4_readNexts s m args below meth c H locs 0 0 Q (F0 m 44 ls []) := by
    intro i_this_at_1 k_p1_nexts_2 H locs ls h hw hl
    replace h := ap2 ej44_1 h
    refine lv_iconst (v := (1 : Int32)) hx hb dX4_readNexts_44 (by decide) ?_
    cases h
    exact z_zret S hQ hr rfl hw [0, 1, 2, 3] rfl rfl dX4_readNexts_45
  have hL2_1 : ∀ (nf : Nat) (x2_3 : Int32) (i_this_at_4 : Int32) (k_p1_nexts_5 : (Nat → Int32)) (H : Heap) (locs : List Loc) (ls : Array Slot), f_X4_readNexts_L2 N i_p1_inputs i_p1_gates i_this_size k_letters j44_1 nf x2_3 i_this_at_4 k_p1_nexts_5 = some (rr, o_this_at, o_p1_nexts) → Wd D (tyA cI cJ cZ cS) A s [(a_p1, .inr (2, [.int i_p1_inputs, .int i_p1_gates, .int i_p1_paths, .ref a_p1_told, .ref a_p1_lefts, .ref a_p1_rights, .ref a_p1_nexts, .ref a_p1_starts, .ref a_p1_sizes, .ref a_p1_steps, .ref a_p1_links])), (a_this, .inr (4, [.ref a_letters, .int i_this_size, .int i_this_at_4])), (a_letters, .inl (cI, 40, .inl k_letters)), (a_p1_nexts, .inl (cI, 4, .inl k_p1_nexts_5))] H locs → lv_has ls 4 [(0, .ref a_this), (1, .ref a_p1), (2, .int x2_3)] → W p l e rmX4_readNexts s m args below meth c H locs 0 0 Q (F0 m 2 ls []) := by
    intro nf
    induction nf with
    | zero =>
      intro x2_3 i_this_at_4 k_p1_nexts_5 H locs ls h
      rw [f_X4_readNexts_L2] at h
      cases h
    | succ n_2 ih_2 =>
      intro x2_3 i_this_at_4 k_p1_nexts_5 H locs ls h hw hl
      rw [f_X4_readNexts_L2] at h
      refine lv_iload_n hx hb dX4_readNexts_2 rfl (lv_at hl 2 rfl) ?_
      refine lv_aload_n hx hb dX4_readNexts_3 rfl (lv_at hl 1 rfl) ?_
      refine z_get S hw F22 0 rfl rfl dX4_readNexts_4 ?_
      refine lv_icmp_ge (tgt := 44) hx hb dX4_readNexts_7 (by decide) (fun hc => ?_) (fun hc => ?_)
      · replace h := if_t hc h
        exact hj44_1 i_this_at_4 k_p1_nexts_5 H locs ls h hw (lv_sub hl [] rfl)
      · replace h := if_f hc h
        refine lv_iload_n hx hb dX4_readNexts_10 rfl (lv_at hl 2 rfl) ?_
        refine lv_iconst (v := (4 : Int32)) hx hb dX4_readNexts_11 (by decide) ?_
        refine lv_icmp_ge (tgt := 44) hx hb dX4_readNexts_12 (by decide) (fun hc => ?_) (fun hc => ?_)
        · replace h := if_t hc h
          exact hj44_1 i_this_at_4 k_p1_nexts_5 H locs ls h hw (lv_sub hl [] rfl)
        · replace h := if_f hc h
          refine lv_aload_n hx hb dX4_readNexts_15 rfl (lv_at hl 0 rfl) ?_
          refine lv_aload_n hx hb dX4_readNexts_16 rfl (lv_at hl 1 rfl) ?_
          refine lv_bipush (v := (-9 : Int32)) hx hb dX4_readNexts_17 (by decide) ?_
          obtain ⟨r_6, i_this_at_7, e19_1, h⟩ := obd2_el h
          refine zc_VI (As := [.ref a_p1, .int (-9 : Int32)]) (rest := []) (wr := [(a_p1_nexts, .inl (cI, 4, .inl k_p1_nexts_5))]) (q0 := 0) S hw (c_X4_readSignal l D cI cJ cZ cS H.size N a_this a_p1 a_letters a_p1_told a_p1_lefts a_p1_rights a_p1_nexts a_p1_starts a_p1_sizes a_p1_steps a_p1_links i_this_size i_this_at_4 i_p1_inputs i_p1_gates i_p1_paths k_letters (-9 : Int32) r_6 i_this_at_7 e19_1) (cwV 2 hts gX4_readNexts_X4_readSignal rfl rfl rfl dv_X4_readSignal ⟨Nat.le_of_ble_eq_true rfl, Nat.le_of_ble_eq_true rfl⟩) [1, 0, 2] [3] rfl rfl rfl rfl (by decide) rfl rfl rfl rfl hl.1 rfl (Nat.le_of_ble_eq_true rfl) dX4_readNexts_19 ⟨Nat.zero_le _, Nat.zero_le _⟩ (fun H locs hw => ?_)
          refine lv_istore_n (lv' := [(3, .int r_6), (0, .ref a_this), (1, .ref a_p1), (2, .int x2_3)]) hx hb dX4_readNexts_22 rfl hl (by decide) rfl (fun ls hl => ?_)
          refine lv_iload_n hx hb dX4_readNexts_23 rfl (lv_at hl 0 rfl) ?_
          refine lv_bipush (v := (-9 : Int32)) hx hb dX4_readNexts_24 (by decide) ?_
          refine lv_icmp_ne (tgt := 31) hx hb dX4_readNexts_26 (by decide) (fun hc => ?_) (fun hc => ?_)
          · replace h := if_f hc h
            refine lv_aload_n hx hb dX4_readNexts_31 rfl (lv_at hl 2 rfl) ?_
            refine z_get S hw F68 2 rfl rfl dX4_readNexts_32 ?_
            refine lv_iload_n hx hb dX4_readNexts_35 rfl (lv_at hl 3 rfl) ?_
            refine lv_iload_n hx hb dX4_readNexts_36 rfl (lv_at hl 0 rfl) ?_
            obtain ⟨hg, h⟩ := grd_el h
            obtain ⟨k_p1_nexts_8, ek_p1_nexts_8, h⟩ := bnd_ex h
            refine z_iast S hw ek_p1_nexts_8 0 0 rfl rfl hg dX4_readNexts_37 (fun H locs hw => ?_)
            obtain ⟨x2_9, ex2_9, h⟩ := bnd_ex h
            refine lv_iinc (v := x2_9) (lv' := [(2, .int x2_9), (3, .int r_6), (0, .ref a_this), (1, .ref a_p1)]) hx hb dX4_readNexts_38 hl (k := 3) rfl (by rw [ex2_9]; rfl) (by decide) rfl (fun ls hl => ?_)
            refine lv_goto (tgt := 2) hx hb dX4_readNexts_41 (by decide) ?_
            exact ih_2 x2_9 i_this_at_7 k_p1_nexts_8 H locs ls h (hw.sub [2, 1, 3, 0] rfl rfl) (lv_sub hl [2, 3, 0] rfl)
          · replace h := if_t hc h
            refine lv_iconst (v := (0 : Int32)) hx hb dX4_readNexts_29 (by decide) ?_
            cases h
            exact z_zret S hQ hr rfl hw [2, 1, 3, 0] rfl rfl dX4_readNexts_30
  exact hL2_1 N ((0 : Int32)) i_this_at k_p1_nexts H locs ls h hw (lv_sub hl [1, 2, 0] rfl)
abbrev rmX4_readInto : Room := { frames := 4, cells := 0, slots := 0, locals := 91 }
theorem dv_X4_readInto : yX4_readInto.cls = RX4 ∧ yX4_readInto.cls ≠ "java/lang/invoke/MethodHandle" ∧ yX4_readInto.cls ≠ "java/lang/invoke/VarHandle" ∧ (parseMethodDescriptor yX4_readInto.desc).map (fun d => d.parameters.length) = some 1 := by decide +kernel
noncomputable def f_X4_readInto (N : Nat)  (i_this_size : Int32) (i_this_at : Int32) (i_p1_inputs : Int32) (i_p1_gates : Int32) (i_p1_paths : Int32) (k_letters : (Nat → Int32)) (k_p1_told : (Nat → Int32)) (k_p1_lefts : (Nat → Int32)) (k_p1_rights : (Nat → Int32)) (k_p1_nexts : (Nat → Int32)) : Option (Int32 × Int32 × Int32 × Int32 × Int32 × (Nat → Int32) × (Nat → Int32) × (Nat → Int32) × (Nat → Int32)) :=
  obd3 (f_X4_readHead N i_this_size (0 : Int32) (0 : Int32) k_letters) fun (r_1 : Int32) (i_this_at_2 : Int32) (i_p1_inputs_3 : Int32) => bnd (fun (t_4 : Int32) (i_this_at_5 : Int32) (i_p1_gates_6 : Int32) (k_p1_told_7 : (Nat → Int32)) (k_p1_lefts_8 : (Nat → Int32)) (k_p1_rights_9 : (Nat → Int32)) (k_p1_nexts_10 : (Nat → Int32)) => ((if t_4 = (0 : Int32) then (some (i_this_at_5, i_this_at_5, i_p1_inputs_3, i_p1_gates_6, (0 : Int32), k_p1_told_7, k_p1_lefts_8, k_p1_rights_9, k_p1_nexts_10)) else (some ((-9 : Int32), i_this_at_5, i_p1_inputs_3, i_p1_gates_6, (0 : Int32), k_p1_told_7, k_p1_lefts_8, k_p1_rights_9, k_p1_nexts_10))))) fun (j60_1 : Int32 → Int32 → Int32 → (Nat → Int32) → (Nat → Int32) → (Nat → Int32) → (Nat → Int32) → Option (Int32 × Int32 × Int32 × Int32 × Int32 × (Nat → Int32) × (Nat → Int32) × (Nat → Int32) × (Nat → Int32))) => bnd (fun (i_this_at_11 : Int32) (i_p1_gates_12 : Int32) (k_p1_told_13 : (Nat → Int32)) (k_p1_lefts_14 : (Nat → Int32)) (k_p1_rights_15 : (Nat → Int32)) (k_p1_nexts_16 : (Nat → Int32)) => (j60_1 ((0 : Int32)) i_this_at_11 i_p1_gates_12 k_p1_told_13 k_p1_lefts_14 k_p1_rights_15 k_p1_nexts_16)) fun (j59_1 : Int32 → Int32 → (Nat → Int32) → (Nat → Int32) → (Nat → Int32) → (Nat → Int32) → Option (Int32 × Int32 × Int32 × Int32 × Int32 × (Nat → Int32) × (Nat → Int32) × (Nat → Int32) × (Nat → Int32))) => (if r_1 = (0 : Int32) then (j59_1 i_this_at_2 ((0 : Int32)) k_p1_told k_p1_lefts k_p1_rights k_p1_nexts) else (obd6 (f_X4_readGates N i_this_size i_this_at_2 i_p1_inputs_3 (0 : Int32) k_letters k_p1_told k_p1_lefts k_p1_rights) fun (r_17 : Int32) (i_this_at_18 : Int32) (i_p1_gates_19 : Int32) (k_p1_told_20 : (Nat → Int32)) (k_p1_lefts_21 : (Nat → Int32)) (k_p1_rights_22 : (Nat → Int32)) => (if r_17 = (0 : Int32) then (j59_1 i_this_at_18 i_p1_gates_19 k_p1_told_20 k_p1_lefts_21 k_p1_rights_22 k_p1_nexts) else (obd3 (f_X4_readNexts N i_p1_inputs_3 i_p1_gates_19 i_this_size i_this_at_18 k_letters k_p1_nexts) fun (r_23 : Int32) (i_this_at_24 : Int32) (k_p1_nexts_25 : (Nat → Int32)) => (if r_23 = (0 : Int32) then (j59_1 i_this_at_24 i_p1_gates_19 k_p1_told_20 k_p1_lefts_21 k_p1_rights_22 k_p1_nexts_25) else ((if i_this_at_24 = i_this_size then (j60_1 ((1 : Int32)) i_this_at_24 i_p1_gates_19 k_p1_told_20 k_p1_lefts_21 k_p1_rights_22 k_p1_nexts_25) else (j59_1 i_this_at_24 i_p1_gates_19 k_p1_told_20 k_p1_lefts_21 k_p1_rights_22 k_p1_nexts_25))))))))
set_option maxHeartbeats 4000000 in
set_option maxRecDepth 100000 in
theorem c_X4_readInto (l : Launch) (D : va_G) (cI cJ cZ cS : ClassId) (sz N : Nat) (a_this a_p1 a_letters a_p1_told a_p1_lefts a_p1_rights a_p1_nexts a_p1_starts a_p1_sizes a_p1_steps a_p1_links : Nat) (i_this_size : Int32) (i_this_at : Int32) (i_p1_inputs : Int32) (i_p1_gates : Int32) (i_p1_paths : Int32) (k_letters : (Nat → Int32)) (k_p1_told : (Nat → Int32)) (k_p1_lefts : (Nat → Int32)) (k_p1_rights : (Nat → Int32)) (k_p1_nexts : (Nat → Int32))  (rr : Int32) (o_this_at : Int32) (o_p1_inputs : Int32) (o_p1_gates : Int32) (o_p1_paths : Int32) (o_p1_told : (Nat → Int32)) (o_p1_lefts : (Nat → Int32)) (o_p1_rights : (Nat → Int32)) (o_p1_nexts : (Nat → Int32)) (hf : f_X4_readInto N i_this_size i_this_at i_p1_inputs i_p1_gates i_p1_paths k_letters k_p1_told k_p1_lefts k_p1_rights k_p1_nexts = some (rr, o_this_at, o_p1_inputs, o_p1_gates, o_p1_paths, o_p1_told, o_p1_lefts, o_p1_rights, o_p1_nexts)) : MetI l yX4_readInto wsX4_readInto rmX4_readInto D (tyA cI cJ cZ cS) [(a_this, .inr (4, [.ref a_letters, .int i_this_size, .int i_this_at])), (a_p1, .inr (2, [.int i_p1_inputs, .int i_p1_gates, .int i_p1_paths, .ref a_p1_told, .ref a_p1_lefts, .ref a_p1_rights, .ref a_p1_nexts, .ref a_p1_starts, .ref a_p1_sizes, .ref a_p1_steps, .ref a_p1_links])), (a_letters, .inl (cI, 40, .inl k_letters)), (a_p1_told, .inl (cI, 8, .inl k_p1_told)), (a_p1_lefts, .inl (cI, 8, .inl k_p1_lefts)), (a_p1_rights, .inl (cI, 8, .inl k_p1_rights)), (a_p1_nexts, .inl (cI, 4, .inl k_p1_nexts))] sz [.ref a_this, .ref a_p1] rr [(a_this, .inr (4, [.ref a_letters, .int i_this_size, .int o_this_at])), (a_p1, .inr (2, [.int o_p1_inputs, .int o_p1_gates, .int o_p1_paths, .ref a_p1_told, .ref a_p1_lefts, .ref a_p1_rights, .ref a_p1_nexts, .ref a_p1_starts, .ref a_p1_sizes, .ref a_p1_steps, .ref a_p1_links])), (a_letters, .inl (cI, 40, .inl k_letters)), (a_p1_told, .inl (cI, 8, .inl o_p1_told)), (a_p1_lefts, .inl (cI, 8, .inl o_p1_lefts)), (a_p1_rights, .inl (cI, 8, .inl o_p1_rights)), (a_p1_nexts, .inl (cI, 4, .inl o_p1_nexts))] := by
  refine entI (cc := cX4_readInto) (maxL := 3) (own := RX4) (by decide) rfl rfl (Nat.le_of_ble_eq_true rfl) ?_
  intro p e s m args below meth c A ls Q H locs S hr hw hl hQ
  have hx := S.1.1
  have hb := S.1.2.1
  have hts := S.1.2.2.2.2
  have hl : lv_has ls 3 [(0, .ref a_this), (1, .ref a_p1)] := hl
  have hinX4 : ∀ w ∈ u_ws RX4 TX4 3, w ∈ wsX4_readInto := (fun _ h => List.mem_cons_of_mem _ (List.mem_append_left _ (List.mem_append_right _ h)))
  have F15 : FLk s args wsX4_readInto RX4 15 RX4 TX4 3 4 1 := ⟨hinX4, rfl, by decide, hts (.fieldLink RX4 15 "SlowPaths$Script" "size" "I") (List.mem_of_getElem? (i := 5) rfl)⟩
  have F19 : FLk s args wsX4_readInto RX4 19 RX4 TX4 3 4 2 := ⟨hinX4, rfl, by decide, hts (.fieldLink RX4 19 "SlowPaths$Script" "at" "I") (List.mem_of_getElem? (i := 1) rfl)⟩
  have hinX2 : ∀ w ∈ u_ws RX2 TX2 11, w ∈ wsX4_readInto := (fun _ h => List.mem_cons_of_mem _ (List.mem_append_right _ h))
  have F22 : FLk s args wsX4_readInto RX4 22 RX2 TX2 11 2 0 := ⟨hinX2, rfl, by decide, hts (.fieldLink RX4 22 "SlowPaths$Net" "inputs" "I") (List.mem_of_getElem? (i := 2) rfl)⟩
  have F27 : FLk s args wsX4_readInto RX4 27 RX2 TX2 11 2 1 := ⟨hinX2, rfl, by decide, hts (.fieldLink RX4 27 "SlowPaths$Net" "gates" "I") (List.mem_of_getElem? (i := 3) rfl)⟩
  have F30 : FLk s args wsX4_readInto RX4 30 RX2 TX2 11 2 2 := ⟨hinX2, rfl, by decide, hts (.fieldLink RX4 30 "SlowPaths$Net" "paths" "I") (List.mem_of_getElem? (i := 4) rfl)⟩
  have P19 : PLk TX4 3 2 tyX4 false .int := ⟨tyX4_ok, nmX4, rfl, rfl⟩
  have P22 : PLk TX2 11 0 tyX2 false .int := ⟨tyX2_ok, nmX2, rfl, rfl⟩
  have P27 : PLk TX2 11 1 tyX2 false .int := ⟨tyX2_ok, nmX2, rfl, rfl⟩
  have P30 : PLk TX2 11 2 tyX2 false .int := ⟨tyX2_ok, nmX2, rfl, rfl⟩
  have h := hf
  rw [f_X4_readInto] at h
  refine lv_aload_n hx hb dX4_readInto_0 rfl (lv_at hl 0 rfl) ?_
  refine lv_iconst (v := (0 : Int32)) hx hb dX4_readInto_1 (by decide) ?_
  refine z_put S hw F19 P19 rfl rfl 0 rfl (Nat.le_of_ble_eq_true rfl) dX4_readInto_2 (fun H locs hw => ?_)
  refine lv_aload_n hx hb dX4_readInto_5 rfl (lv_at hl 1 rfl) ?_
  refine lv_iconst (v := (0 : Int32)) hx hb dX4_readInto_6 (by decide) ?_
  refine z_put S hw F22 P22 rfl rfl 1 rfl (Nat.le_of_ble_eq_true rfl) dX4_readInto_7 (fun H locs hw => ?_)
  refine lv_aload_n hx hb dX4_readInto_10 rfl (lv_at hl 1 rfl) ?_
  refine lv_iconst (v := (0 : Int32)) hx hb dX4_readInto_11 (by decide) ?_
  refine z_put S hw F27 P27 rfl rfl 1 rfl (Nat.le_of_ble_eq_true rfl) dX4_readInto_12 (fun H locs hw => ?_)
  refine lv_aload_n hx hb dX4_readInto_15 rfl (lv_at hl 1 rfl) ?_
  refine lv_iconst (v := (0 : Int32)) hx hb dX4_readInto_16 (by decide) ?_
  refine z_put S hw F30 P30 rfl rfl 1 rfl (Nat.le_of_ble_eq_true rfl) dX4_readInto_17 (fun H locs hw => ?_)
  refine lv_aload_n hx hb dX4_readInto_20 rfl (lv_at hl 0 rfl) ?_
  refine lv_aload_n hx hb dX4_readInto_21 rfl (lv_at hl 1 rfl) ?_
  obtain ⟨r_1, i_this_at_2, i_p1_inputs_3, e22_1, h⟩ := obd3_el h
  refine zc_VI (As := [.ref a_p1]) (rest := []) (wr := [(a_p1_told, .inl (cI, 8, .inl k_p1_told)), (a_p1_lefts, .inl (cI, 8, .inl k_p1_lefts)), (a_p1_rights, .inl (cI, 8, .inl k_p1_rights)), (a_p1_nexts, .inl (cI, 4, .inl k_p1_nexts))]) (q0 := 0) S hw (c_X4_readHead l D cI cJ cZ cS H.size N a_this a_p1 a_letters a_p1_told a_p1_lefts a_p1_rights a_p1_nexts a_p1_starts a_p1_sizes a_p1_steps a_p1_links i_this_size (0 : Int32) (0 : Int32) (0 : Int32) (0 : Int32) k_letters r_1 i_this_at_2 i_p1_inputs_3 e22_1) (cwV 1 hts gX4_readInto_X4_readHead rfl rfl rfl dv_X4_readHead ⟨Nat.le_of_ble_eq_true rfl, Nat.le_of_ble_eq_true rfl⟩) [0, 1, 2] [3, 4, 5, 6] rfl rfl rfl rfl (by decide) rfl rfl rfl rfl hl.1 rfl (Nat.le_of_ble_eq_true rfl) dX4_readInto_22 ⟨Nat.zero_le _, Nat.zero_le _⟩ (fun H locs hw => ?_)
  obtain ⟨j60_1, ej60_1, h⟩ := bnd_ex h
  have hj60_1 : ∀ (t_4 : Int32) (i_this_at_5 : Int32) (i_p1_gates_6 : Int32) (k_p1_told_7 : (Nat → Int32)) (k_p1_lefts_8 : (Nat → Int32)) (k_p1_rights_9 : (Nat → Int32)) (k_p1_nexts_10 : (Nat → Int32)) (H : Heap) (locs : List Loc) (ls : Array Slot), j60_1 t_4 i_this_at_5 i_p1_gates_6 k_p1_told_7 k_p1_lefts_8 k_p1_rights_9 k_p1_nexts_10 = some (rr, o_this_at, o_p1_inputs, o_p1_gates, o_p1_paths, o_p1_told, o_p1_lefts, o_p1_rights, o_p1_nexts) → Wd D (tyA cI cJ cZ cS) A s [(a_this, .inr (4, [.ref a_letters, .int i_this_size, .int i_this_at_5])), (a_p1, .inr (2, [.int i_p1_inputs_3, .int i_p1_gates_6, .int (0 : Int32), .ref a_p1_told, .ref a_p1_lefts, .ref a_p1_rights, .ref a_p1_nexts, .ref a_p1_starts, .ref a_p1_sizes, .ref a_p1_steps, .ref a_p1_links])), (a_letters, .inl (cI, 40, .inl k_letters)), (a_p1_told, .inl (cI, 8, .inl k_p1_told_7)), (a_p1_lefts, .inl (cI, 8, .inl k_p1_lefts_8)), (a_p1_rights, .inl (cI, 8, .inl k_p1_rights_9)), (a_p1_nexts, .inl (cI, 4, .inl k_p1_nexts_10))] H locs → lv_has ls 3 [(0, .ref a_this)] → W p l e rmX4_readInto s m args below meth c H locs 0 0 Q (F0 m 60 ls [.int t_4]) := by
    intro t_4 i_this_at_5 i_p1_gates_6 k_p1_told_7 k_p1_lefts_8 k_p1_rights_9 k_p1_nexts_10 H locs ls h hw hl
    replace h := ap7 ej60_1 h
    refine lv_istore_n (lv' := [(2, .int t_4), (0, .ref a_this)]) hx hb dX4_readInto_60 rfl hl (by decide) rfl (fun ls hl => ?_)
    refine lv_iload_n hx hb dX4_readInto_61 rfl (lv_at hl 0 rfl) ?_
    refine lv_if_eq (tgt := 70) hx hb dX4_readInto_62 (by decide) (fun hc => ?_) (fun hc => ?_)
    · replace h := if_t hc h
      refine lv_aload_n hx hb dX4_readInto_70 rfl (lv_at hl 1 rfl) ?_
      refine z_get S hw F19 0 rfl rfl dX4_readInto_71 ?_
      cases h
      exact z_iret S hQ hr hw [0, 1, 2, 3, 4, 5, 6] rfl rfl dX4_readInto_74
    · replace h := if_f hc h
      refine lv_bipush (v := (-9 : Int32)) hx hb dX4_readInto_65 (by decide) ?_
      refine lv_goto (tgt := 74) hx hb dX4_readInto_67 (by decide) ?_
      cases h
      exact z_iret S hQ hr hw [0, 1, 2, 3, 4, 5, 6] rfl rfl dX4_readInto_74
  obtain ⟨j59_1, ej59_1, h⟩ := bnd_ex h
  have hj59_1 : ∀ (i_this_at_11 : Int32) (i_p1_gates_12 : Int32) (k_p1_told_13 : (Nat → Int32)) (k_p1_lefts_14 : (Nat → Int32)) (k_p1_rights_15 : (Nat → Int32)) (k_p1_nexts_16 : (Nat → Int32)) (H : Heap) (locs : List Loc) (ls : Array Slot), j59_1 i_this_at_11 i_p1_gates_12 k_p1_told_13 k_p1_lefts_14 k_p1_rights_15 k_p1_nexts_16 = some (rr, o_this_at, o_p1_inputs, o_p1_gates, o_p1_paths, o_p1_told, o_p1_lefts, o_p1_rights, o_p1_nexts) → Wd D (tyA cI cJ cZ cS) A s [(a_this, .inr (4, [.ref a_letters, .int i_this_size, .int i_this_at_11])), (a_p1, .inr (2, [.int i_p1_inputs_3, .int i_p1_gates_12, .int (0 : Int32), .ref a_p1_told, .ref a_p1_lefts, .ref a_p1_rights, .ref a_p1_nexts, .ref a_p1_starts, .ref a_p1_sizes, .ref a_p1_steps, .ref a_p1_links])), (a_letters, .inl (cI, 40, .inl k_letters)), (a_p1_told, .inl (cI, 8, .inl k_p1_told_13)), (a_p1_lefts, .inl (cI, 8, .inl k_p1_lefts_14)), (a_p1_rights, .inl (cI, 8, .inl k_p1_rights_15)), (a_p1_nexts, .inl (cI, 4, .inl k_p1_nexts_16))] H locs → lv_has ls 3 [(0, .ref a_this)] → W p l e rmX4_readInto s m args below meth c H locs 0 0 Q (F0 m 59 ls []) := by
    intro i_this_at_11 i_p1_gates_12 k_p1_told_13 k_p1_lefts_14 k_p1_rights_15 k_p1_nexts_16 H locs ls h hw hl
    replace h := ap6 ej59_1 h
    refine lv_iconst (v := (0 : Int32)) hx hb dX4_readInto_59 (by decide) ?_
    exact hj60_1 ((0 : Int32)) i_this_at_11 i_p1_gates_12 k_p1_told_13 k_p1_lefts_14 k_p1_rights_15 k_p1_nexts_16 H locs ls h hw hl
  refine lv_if_eq (tgt := 59) hx hb dX4_readInto_25 (by decide) (fun hc => ?_) (fun hc => ?_)
  · replace h := if_t hc h
    exact hj59_1 i_this_at_2 ((0 : Int32)) k_p1_told k_p1_lefts k_p1_rights k_p1_nexts H locs ls h (hw.sub [4, 5, 6, 0, 1, 2, 3] rfl rfl) (lv_sub hl [0] rfl)
  · replace h := if_f hc h
    refine lv_aload_n hx hb dX4_readInto_28 rfl (lv_at hl 0 rfl) ?_
    refine lv_aload_n hx hb dX4_readInto_29 rfl (lv_at hl 1 rfl) ?_
    obtain ⟨r_17, i_this_at_18, i_p1_gates_19, k_p1_told_20, k_p1_lefts_21, k_p1_rights_22, e30_1, h⟩ := obd6_el h
    refine zc_VI (As := [.ref a_p1]) (rest := []) (wr := [(a_p1_nexts, .inl (cI, 4, .inl k_p1_nexts))]) (q0 := 0) S hw (c_X4_readGates l D cI cJ cZ cS H.size N a_this a_p1 a_letters a_p1_told a_p1_lefts a_p1_rights a_p1_nexts a_p1_starts a_p1_sizes a_p1_steps a_p1_links i_this_size i_this_at_2 i_p1_inputs_3 (0 : Int32) (0 : Int32) k_letters k_p1_told k_p1_lefts k_p1_rights r_17 i_this_at_18 i_p1_gates_19 k_p1_told_20 k_p1_lefts_21 k_p1_rights_22 e30_1) (cwV 1 hts gX4_readInto_X4_readGates rfl rfl rfl dv_X4_readGates ⟨Nat.le_of_ble_eq_true rfl, Nat.le_of_ble_eq_true rfl⟩) [4, 5, 6, 0, 1, 2] [3] rfl rfl rfl rfl (by decide) rfl rfl rfl rfl hl.1 rfl (Nat.le_of_ble_eq_true rfl) dX4_readInto_30 ⟨Nat.zero_le _, Nat.zero_le _⟩ (fun H locs hw => ?_)
    refine lv_if_eq (tgt := 59) hx hb dX4_readInto_33 (by decide) (fun hc => ?_) (fun hc => ?_)
    · replace h := if_t hc h
      exact hj59_1 i_this_at_18 i_p1_gates_19 k_p1_told_20 k_p1_lefts_21 k_p1_rights_22 k_p1_nexts H locs ls h (hw.sub [1, 2, 3, 4, 5, 6, 0] rfl rfl) (lv_sub hl [0] rfl)
    · replace h := if_f hc h
      refine lv_aload_n hx hb dX4_readInto_36 rfl (lv_at hl 0 rfl) ?_
      refine lv_aload_n hx hb dX4_readInto_37 rfl (lv_at hl 1 rfl) ?_
      obtain ⟨r_23, i_this_at_24, k_p1_nexts_25, e38_1, h⟩ := obd3_el h
      refine zc_VI (As := [.ref a_p1]) (rest := []) (wr := [(a_p1_told, .inl (cI, 8, .inl k_p1_told_20)), (a_p1_lefts, .inl (cI, 8, .inl k_p1_lefts_21)), (a_p1_rights, .inl (cI, 8, .inl k_p1_rights_22))]) (q0 := 1) S hw (c_X4_readNexts l D cI cJ cZ cS H.size N a_p1 a_this a_letters a_p1_nexts a_p1_told a_p1_lefts a_p1_rights a_p1_starts a_p1_sizes a_p1_steps a_p1_links i_p1_inputs_3 i_p1_gates_19 (0 : Int32) i_this_size i_this_at_18 k_letters k_p1_nexts r_23 i_this_at_24 k_p1_nexts_25 e38_1) (cwV 1 hts gX4_readInto_X4_readNexts rfl rfl rfl dv_X4_readNexts ⟨Nat.le_of_ble_eq_true rfl, Nat.le_of_ble_eq_true rfl⟩) [2, 1, 3, 0] [4, 5, 6] rfl rfl rfl rfl (by decide) rfl rfl rfl rfl hl.1 rfl (Nat.le_of_ble_eq_true rfl) dX4_readInto_38 ⟨Nat.zero_le _, Nat.zero_le _⟩ (fun H locs hw => ?_)
      refine lv_if_eq (tgt := 59) hx hb dX4_readInto_41 (by decide) (fun hc => ?_) (fun hc => ?_)
      · replace h := if_t hc h
        exact hj59_1 i_this_at_24 i_p1_gates_19 k_p1_told_20 k_p1_lefts_21 k_p1_rights_22 k_p1_nexts_25 H locs ls h (hw.sub [4, 3, 5, 0, 1, 2, 6] rfl rfl) (lv_sub hl [0] rfl)
      · replace h := if_f hc h
        refine lv_aload_n hx hb dX4_readInto_44 rfl (lv_at hl 0 rfl) ?_
        refine z_get S hw F19 4 rfl rfl dX4_readInto_45 ?_
        refine lv_aload_n hx hb dX4_readInto_48 rfl (lv_at hl 0 rfl) ?_
        refine z_get S hw F15 4 rfl rfl dX4_readInto_49 ?_
        refine lv_icmp_ne (tgt := 59) hx hb dX4_readInto_52 (by decide) (fun hc => ?_) (fun hc => ?_)
        · replace h := if_f hc h
          exact hj59_1 i_this_at_24 i_p1_gates_19 k_p1_told_20 k_p1_lefts_21 k_p1_rights_22 k_p1_nexts_25 H locs ls h (hw.sub [4, 3, 5, 0, 1, 2, 6] rfl rfl) (lv_sub hl [0] rfl)
        · replace h := if_t hc h
          refine lv_iconst (v := (1 : Int32)) hx hb dX4_readInto_55 (by decide) ?_
          refine lv_goto (tgt := 60) hx hb dX4_readInto_56 (by decide) ?_
          exact hj60_1 ((1 : Int32)) i_this_at_24 i_p1_gates_19 k_p1_told_20 k_p1_lefts_21 k_p1_rights_22 k_p1_nexts_25 H locs ls h (hw.sub [4, 3, 5, 0, 1, 2, 6] rfl rfl) (lv_sub hl [0] rfl)
abbrev rmX5_begin : Room := { frames := 0, cells := 0, slots := 0, locals := 0 }
theorem dv_X5_begin : yX5_begin.cls = RX5 ∧ yX5_begin.cls ≠ "java/lang/invoke/MethodHandle" ∧ yX5_begin.cls ≠ "java/lang/invoke/VarHandle" ∧ (parseMethodDescriptor yX5_begin.desc).map (fun d => d.parameters.length) = some 1 := by decide +kernel
noncomputable def f_X5_begin_L2 (N : Nat) (k_p1_told : (Nat → Int32)) (j33_1 : (Nat → Int32) → (Nat → Int32) → Option ((Nat → Int32) × (Nat → Int32))) : Nat → Int32 → (Nat → Int32) → (Nat → Int32) → Option ((Nat → Int32) × (Nat → Int32))
  | 0, _, _, _ => none
  | n_2 + 1, x2_3, k_kinds_4, k_delays_5 =>
    (if (8 : Int32) ≤ x2_3 then (j33_1 k_kinds_4 k_delays_5) else (grd (inb x2_3 8) <| grd (inb x2_3 8) <| bnd (upd k_kinds_4 x2_3.toNatClampNeg (k_p1_told x2_3.toNatClampNeg)) fun (k_kinds_6 : (Nat → Int32)) => grd (inb x2_3 8) <| bnd (upd k_delays_5 x2_3.toNatClampNeg (1 : Int32)) fun (k_delays_7 : (Nat → Int32)) => bnd (x2_3 + (1 : Int32)) fun (x2_8 : Int32) => f_X5_begin_L2 N k_p1_told j33_1 n_2 x2_8 k_kinds_6 k_delays_7))
noncomputable def f_X5_begin (N : Nat)  (k_p1_told : (Nat → Int32)) (k_kinds : (Nat → Int32)) (k_delays : (Nat → Int32)) : Option ((Nat → Int32) × (Nat → Int32)) :=
  bnd (fun (k_kinds_1 : (Nat → Int32)) (k_delays_2 : (Nat → Int32)) => (some (k_kinds_1, k_delays_2))) fun (j33_1 : (Nat → Int32) → (Nat → Int32) → Option ((Nat → Int32) × (Nat → Int32))) => f_X5_begin_L2 N k_p1_told j33_1 N ((0 : Int32)) k_kinds k_delays
set_option maxHeartbeats 4000000 in
set_option maxRecDepth 100000 in
theorem c_X5_begin (l : Launch) (D : va_G) (cI cJ cZ cS : ClassId) (sz N : Nat) (a_this a_p1 a_p1_told a_kinds a_delays a_p1_lefts a_p1_rights a_p1_nexts a_p1_starts a_p1_sizes a_p1_steps a_p1_links : Nat) (i_this_held : Int32) (i_p1_inputs : Int32) (i_p1_gates : Int32) (i_p1_paths : Int32) (k_p1_told : (Nat → Int32)) (k_kinds : (Nat → Int32)) (k_delays : (Nat → Int32))  (o_kinds : (Nat → Int32)) (o_delays : (Nat → Int32)) (hf : f_X5_begin N k_p1_told k_kinds k_delays = some (o_kinds, o_delays)) : MetV l yX5_begin wsX5_begin rmX5_begin D (tyA cI cJ cZ cS) [(a_this, .inr (5, [.ref a_kinds, .ref a_delays, .int i_this_held])), (a_p1, .inr (2, [.int i_p1_inputs, .int i_p1_gates, .int i_p1_paths, .ref a_p1_told, .ref a_p1_lefts, .ref a_p1_rights, .ref a_p1_nexts, .ref a_p1_starts, .ref a_p1_sizes, .ref a_p1_steps, .ref a_p1_links])), (a_p1_told, .inl (cI, 8, .inl k_p1_told)), (a_kinds, .inl (cI, 8, .inl k_kinds)), (a_delays, .inl (cI, 8, .inl k_delays))] sz [.ref a_this, .ref a_p1] [(a_this, .inr (5, [.ref a_kinds, .ref a_delays, .int i_this_held])), (a_p1, .inr (2, [.int i_p1_inputs, .int i_p1_gates, .int i_p1_paths, .ref a_p1_told, .ref a_p1_lefts, .ref a_p1_rights, .ref a_p1_nexts, .ref a_p1_starts, .ref a_p1_sizes, .ref a_p1_steps, .ref a_p1_links])), (a_p1_told, .inl (cI, 8, .inl k_p1_told)), (a_kinds, .inl (cI, 8, .inl o_kinds)), (a_delays, .inl (cI, 8, .inl o_delays))] := by
  refine entV (cc := cX5_begin) (maxL := 3) (own := RX5) (by decide) rfl rfl (Nat.le_of_ble_eq_true rfl) ?_
  intro p e s m args below meth c A ls Q H locs S hr hw hl hQ
  have hx := S.1.1
  have hb := S.1.2.1
  have hts := S.1.2.2.2.2
  have hl : lv_has ls 3 [(0, .ref a_this), (1, .ref a_p1)] := hl
  have hinX5 : ∀ w ∈ u_ws RX5 TX5 3, w ∈ wsX5_begin := (fun _ h => List.mem_cons_of_mem _ (List.mem_append_left _ (List.mem_append_right _ h)))
  have F9 : FLk s args wsX5_begin RX5 9 RX5 TX5 3 5 0 := ⟨hinX5, rfl, by decide, hts (.fieldLink RX5 9 "SlowPaths$Setting" "kinds" "[I") (List.mem_of_getElem? (i := 1) rfl)⟩
  have F15 : FLk s args wsX5_begin RX5 15 RX5 TX5 3 5 1 := ⟨hinX5, rfl, by decide, hts (.fieldLink RX5 15 "SlowPaths$Setting" "delays" "[I") (List.mem_of_getElem? (i := 3) rfl)⟩
  have hinX2 : ∀ w ∈ u_ws RX2 TX2 11, w ∈ wsX5_begin := (fun _ h => List.mem_cons_of_mem _ (List.mem_append_right _ h))
  have F22 : FLk s args wsX5_begin RX5 22 RX2 TX2 11 2 3 := ⟨hinX2, rfl, by decide, hts (.fieldLink RX5 22 "SlowPaths$Net" "told" "[I") (List.mem_of_getElem? (i := 2) rfl)⟩
  have h := hf
  rw [f_X5_begin] at h
  refine lv_iconst (v := (0 : Int32)) hx hb dX5_begin_0 (by decide) ?_
  refine lv_istore_n (lv' := [(2, .int (0 : Int32)), (0, .ref a_this), (1, .ref a_p1)]) hx hb dX5_begin_1 rfl hl (by decide) rfl (fun ls hl => ?_)
  obtain ⟨j33_1, ej33_1, h⟩ := bnd_ex h
  have hj33_1 : ∀ (k_kinds_1 : (Nat → Int32)) (k_delays_2 : (Nat → Int32)) (H : Heap) (locs : List Loc) (ls : Array Slot), j33_1 k_kinds_1 k_delays_2 = some (o_kinds, o_delays) → Wd D (tyA cI cJ cZ cS) A s [(a_this, .inr (5, [.ref a_kinds, .ref a_delays, .int i_this_held])), (a_p1, .inr (2, [.int i_p1_inputs, .int i_p1_gates, .int i_p1_paths, .ref a_p1_told, .ref a_p1_lefts, .ref a_p1_rights, .ref a_p1_nexts, .ref a_p1_starts, .ref a_p1_sizes, .ref a_p1_steps, .ref a_p1_links])), (a_p1_told, .inl (cI, 8, .inl k_p1_told)), (a_kinds, .inl (cI, 8, .inl k_kinds_1)), (a_delays, .inl (cI, 8, .inl k_delays_2))] H locs → lv_has ls 3 [] → W p l e rmX5_begin s m args below meth c H locs 0 0 Q (F0 m 33 ls []) := by
    intro k_kinds_1 k_delays_2 H locs ls h hw hl
    replace h := ap2 ej33_1 h
    cases h
    exact z_vret S hQ hr hw [0, 1, 2, 3, 4] rfl rfl dX5_begin_33
  have hL2_1 : ∀ (nf : Nat) (x2_3 : Int32) (k_kinds_4 : (Nat → Int32)) (k_delays_5 : (Nat → Int32)) (H : Heap) (locs : List Loc) (ls : Array Slot), f_X5_begin_L2 N k_p1_told j33_1 nf x2_3 k_kinds_4 k_delays_5 = some (o_kinds, o_delays) → Wd D (tyA cI cJ cZ cS) A s [(a_this, .inr (5, [.ref a_kinds, .ref a_delays, .int i_this_held])), (a_p1, .inr (2, [.int i_p1_inputs, .int i_p1_gates, .int i_p1_paths, .ref a_p1_told, .ref a_p1_lefts, .ref a_p1_rights, .ref a_p1_nexts, .ref a_p1_starts, .ref a_p1_sizes, .ref a_p1_steps, .ref a_p1_links])), (a_p1_told, .inl (cI, 8, .inl k_p1_told)), (a_kinds, .inl (cI, 8, .inl k_kinds_4)), (a_delays, .inl (cI, 8, .inl k_delays_5))] H locs → lv_has ls 3 [(0, .ref a_this), (1, .ref a_p1), (2, .int x2_3)] → W p l e rmX5_begin s m args below meth c H locs 0 0 Q (F0 m 2 ls []) := by
    intro nf
    induction nf with
    | zero =>
      intro x2_3 k_kinds_4 k_delays_5 H locs ls h
      rw [f_X5_begin_L2] at h
      cases h
    | succ n_2 ih_2 =>
      intro x2_3 k_kinds_4 k_delays_5 H locs ls h hw hl
      rw [f_X5_begin_L2] at h
      refine lv_iload_n hx hb dX5_begin_2 rfl (lv_at hl 2 rfl) ?_
      refine lv_bipush (v := (8 : Int32)) hx hb dX5_begin_3 (by decide) ?_
      refine lv_icmp_ge (tgt := 33) hx hb dX5_begin_5 (by decide) (fun hc => ?_) (fun hc => ?_)
      · replace h := if_t hc h
        exact hj33_1 k_kinds_4 k_delays_5 H locs ls h hw (lv_sub hl [] rfl)
      · replace h := if_f hc h
        refine lv_aload_n hx hb dX5_begin_8 rfl (lv_at hl 0 rfl) ?_
        refine z_get S hw F9 0 rfl rfl dX5_begin_9 ?_
        refine lv_iload_n hx hb dX5_begin_12 rfl (lv_at hl 2 rfl) ?_
        refine lv_aload_n hx hb dX5_begin_13 rfl (lv_at hl 1 rfl) ?_
        refine z_get S hw F22 1 rfl rfl dX5_begin_14 ?_
        refine lv_iload_n hx hb dX5_begin_17 rfl (lv_at hl 2 rfl) ?_
        obtain ⟨hg, h⟩ := grd_el h
        refine z_iald S hw 2 0 rfl rfl hg dX5_begin_18 ?_
        obtain ⟨hg, h⟩ := grd_el h
        obtain ⟨k_kinds_6, ek_kinds_6, h⟩ := bnd_ex h
        refine z_iast S hw ek_kinds_6 3 0 rfl rfl hg dX5_begin_19 (fun H locs hw => ?_)
        refine lv_aload_n hx hb dX5_begin_20 rfl (lv_at hl 0 rfl) ?_
        refine z_get S hw F15 0 rfl rfl dX5_begin_21 ?_
        refine lv_iload_n hx hb dX5_begin_24 rfl (lv_at hl 2 rfl) ?_
        refine lv_iconst (v := (1 : Int32)) hx hb dX5_begin_25 (by decide) ?_
        obtain ⟨hg, h⟩ := grd_el h
        obtain ⟨k_delays_7, ek_delays_7, h⟩ := bnd_ex h
        refine z_iast S hw ek_delays_7 4 0 rfl rfl hg dX5_begin_26 (fun H locs hw => ?_)
        obtain ⟨x2_8, ex2_8, h⟩ := bnd_ex h
        refine lv_iinc (v := x2_8) (lv' := [(2, .int x2_8), (0, .ref a_this), (1, .ref a_p1)]) hx hb dX5_begin_27 hl (k := 2) rfl (by rw [ex2_8]; rfl) (by decide) rfl (fun ls hl => ?_)
        refine lv_goto (tgt := 2) hx hb dX5_begin_30 (by decide) ?_
        exact ih_2 x2_8 k_kinds_6 k_delays_7 H locs ls h hw (lv_sub hl [1, 2, 0] rfl)
  exact hL2_1 N ((0 : Int32)) k_kinds k_delays H locs ls h hw (lv_sub hl [1, 2, 0] rfl)
abbrev rmX5_copyFrom : Room := { frames := 0, cells := 0, slots := 0, locals := 0 }
theorem dv_X5_copyFrom : yX5_copyFrom.cls = RX5 ∧ yX5_copyFrom.cls ≠ "java/lang/invoke/MethodHandle" ∧ yX5_copyFrom.cls ≠ "java/lang/invoke/VarHandle" ∧ (parseMethodDescriptor yX5_copyFrom.desc).map (fun d => d.parameters.length) = some 1 := by decide +kernel
noncomputable def f_X5_copyFrom_L2 (N : Nat) (k_p1_kinds : (Nat → Int32)) (k_p1_delays : (Nat → Int32)) (j38_1 : (Nat → Int32) → (Nat → Int32) → Option ((Nat → Int32) × (Nat → Int32))) : Nat → Int32 → (Nat → Int32) → (Nat → Int32) → Option ((Nat → Int32) × (Nat → Int32))
  | 0, _, _, _ => none
  | n_2 + 1, x2_3, k_kinds_4, k_delays_5 =>
    (if (8 : Int32) ≤ x2_3 then (j38_1 k_kinds_4 k_delays_5) else (grd (inb x2_3 8) <| grd (inb x2_3 8) <| bnd (upd k_kinds_4 x2_3.toNatClampNeg (k_p1_kinds x2_3.toNatClampNeg)) fun (k_kinds_6 : (Nat → Int32)) => grd (inb x2_3 8) <| grd (inb x2_3 8) <| bnd (upd k_delays_5 x2_3.toNatClampNeg (k_p1_delays x2_3.toNatClampNeg)) fun (k_delays_7 : (Nat → Int32)) => bnd (x2_3 + (1 : Int32)) fun (x2_8 : Int32) => f_X5_copyFrom_L2 N k_p1_kinds k_p1_delays j38_1 n_2 x2_8 k_kinds_6 k_delays_7))
noncomputable def f_X5_copyFrom (N : Nat)  (k_p1_kinds : (Nat → Int32)) (k_kinds : (Nat → Int32)) (k_p1_delays : (Nat → Int32)) (k_delays : (Nat → Int32)) : Option ((Nat → Int32) × (Nat → Int32)) :=
  bnd (fun (k_kinds_1 : (Nat → Int32)) (k_delays_2 : (Nat → Int32)) => (some (k_kinds_1, k_delays_2))) fun (j38_1 : (Nat → Int32) → (Nat → Int32) → Option ((Nat → Int32) × (Nat → Int32))) => f_X5_copyFrom_L2 N k_p1_kinds k_p1_delays j38_1 N ((0 : Int32)) k_kinds k_delays
set_option maxHeartbeats 4000000 in
set_option maxRecDepth 100000 in
theorem c_X5_copyFrom (l : Launch) (D : va_G) (cI cJ cZ cS : ClassId) (sz N : Nat) (a_this a_p1 a_p1_kinds a_kinds a_p1_delays a_delays : Nat) (i_this_held : Int32) (i_p1_held : Int32) (k_p1_kinds : (Nat → Int32)) (k_kinds : (Nat → Int32)) (k_p1_delays : (Nat → Int32)) (k_delays : (Nat → Int32))  (o_kinds : (Nat → Int32)) (o_delays : (Nat → Int32)) (hf : f_X5_copyFrom N k_p1_kinds k_kinds k_p1_delays k_delays = some (o_kinds, o_delays)) : MetV l yX5_copyFrom wsX5_copyFrom rmX5_copyFrom D (tyA cI cJ cZ cS) [(a_this, .inr (5, [.ref a_kinds, .ref a_delays, .int i_this_held])), (a_p1, .inr (5, [.ref a_p1_kinds, .ref a_p1_delays, .int i_p1_held])), (a_p1_kinds, .inl (cI, 8, .inl k_p1_kinds)), (a_kinds, .inl (cI, 8, .inl k_kinds)), (a_p1_delays, .inl (cI, 8, .inl k_p1_delays)), (a_delays, .inl (cI, 8, .inl k_delays))] sz [.ref a_this, .ref a_p1] [(a_this, .inr (5, [.ref a_kinds, .ref a_delays, .int i_this_held])), (a_p1, .inr (5, [.ref a_p1_kinds, .ref a_p1_delays, .int i_p1_held])), (a_p1_kinds, .inl (cI, 8, .inl k_p1_kinds)), (a_kinds, .inl (cI, 8, .inl o_kinds)), (a_p1_delays, .inl (cI, 8, .inl k_p1_delays)), (a_delays, .inl (cI, 8, .inl o_delays))] := by
  refine entV (cc := cX5_copyFrom) (maxL := 3) (own := RX5) (by decide) rfl rfl (Nat.le_of_ble_eq_true rfl) ?_
  intro p e s m args below meth c A ls Q H locs S hr hw hl hQ
  have hx := S.1.1
  have hb := S.1.2.1
  have hts := S.1.2.2.2.2
  have hl : lv_has ls 3 [(0, .ref a_this), (1, .ref a_p1)] := hl
  have hinX5 : ∀ w ∈ u_ws RX5 TX5 3, w ∈ wsX5_copyFrom := (fun _ h => List.mem_cons_of_mem _ (List.mem_append_right _ h))
  have F9 : FLk s args wsX5_copyFrom RX5 9 RX5 TX5 3 5 0 := ⟨hinX5, rfl, by decide, hts (.fieldLink RX5 9 "SlowPaths$Setting" "kinds" "[I") (List.mem_of_getElem? (i := 1) rfl)⟩
  have F15 : FLk s args wsX5_copyFrom RX5 15 RX5 TX5 3 5 1 := ⟨hinX5, rfl, by decide, hts (.fieldLink RX5 15 "SlowPaths$Setting" "delays" "[I") (List.mem_of_getElem? (i := 2) rfl)⟩
  have h := hf
  rw [f_X5_copyFrom] at h
  refine lv_iconst (v := (0 : Int32)) hx hb dX5_copyFrom_0 (by decide) ?_
  refine lv_istore_n (lv' := [(2, .int (0 : Int32)), (0, .ref a_this), (1, .ref a_p1)]) hx hb dX5_copyFrom_1 rfl hl (by decide) rfl (fun ls hl => ?_)
  obtain ⟨j38_1, ej38_1, h⟩ := bnd_ex h
  have hj38_1 : ∀ (k_kinds_1 : (Nat → Int32)) (k_delays_2 : (Nat → Int32)) (H : Heap) (locs : List Loc) (ls : Array Slot), j38_1 k_kinds_1 k_delays_2 = some (o_kinds, o_delays) → Wd D (tyA cI cJ cZ cS) A s [(a_this, .inr (5, [.ref a_kinds, .ref a_delays, .int i_this_held])), (a_p1, .inr (5, [.ref a_p1_kinds, .ref a_p1_delays, .int i_p1_held])), (a_p1_kinds, .inl (cI, 8, .inl k_p1_kinds)), (a_kinds, .inl (cI, 8, .inl k_kinds_1)), (a_p1_delays, .inl (cI, 8, .inl k_p1_delays)), (a_delays, .inl (cI, 8, .inl k_delays_2))] H locs → lv_has ls 3 [] → W p l e rmX5_copyFrom s m args below meth c H locs 0 0 Q (F0 m 38 ls []) := by
    intro k_kinds_1 k_delays_2 H locs ls h hw hl
    replace h := ap2 ej38_1 h
    cases h
    exact z_vret S hQ hr hw [0, 1, 2, 3, 4, 5] rfl rfl dX5_copyFrom_38
  have hL2_1 : ∀ (nf : Nat) (x2_3 : Int32) (k_kinds_4 : (Nat → Int32)) (k_delays_5 : (Nat → Int32)) (H : Heap) (locs : List Loc) (ls : Array Slot), f_X5_copyFrom_L2 N k_p1_kinds k_p1_delays j38_1 nf x2_3 k_kinds_4 k_delays_5 = some (o_kinds, o_delays) → Wd D (tyA cI cJ cZ cS) A s [(a_this, .inr (5, [.ref a_kinds, .ref a_delays, .int i_this_held])), (a_p1, .inr (5, [.ref a_p1_kinds, .ref a_p1_delays, .int i_p1_held])), (a_p1_kinds, .inl (cI, 8, .inl k_p1_kinds)), (a_kinds, .inl (cI, 8, .inl k_kinds_4)), (a_p1_delays, .inl (cI, 8, .inl k_p1_delays)), (a_delays, .inl (cI, 8, .inl k_delays_5))] H locs → lv_has ls 3 [(0, .ref a_this), (1, .ref a_p1), (2, .int x2_3)] → W p l e rmX5_copyFrom s m args below meth c H locs 0 0 Q (F0 m 2 ls []) := by
    intro nf
    induction nf with
    | zero =>
      intro x2_3 k_kinds_4 k_delays_5 H locs ls h
      rw [f_X5_copyFrom_L2] at h
      cases h
    | succ n_2 ih_2 =>
      intro x2_3 k_kinds_4 k_delays_5 H locs ls h hw hl
      rw [f_X5_copyFrom_L2] at h
      refine lv_iload_n hx hb dX5_copyFrom_2 rfl (lv_at hl 2 rfl) ?_
      refine lv_bipush (v := (8 : Int32)) hx hb dX5_copyFrom_3 (by decide) ?_
      refine lv_icmp_ge (tgt := 38) hx hb dX5_copyFrom_5 (by decide) (fun hc => ?_) (fun hc => ?_)
      · replace h := if_t hc h
        exact hj38_1 k_kinds_4 k_delays_5 H locs ls h hw (lv_sub hl [] rfl)
      · replace h := if_f hc h
        refine lv_aload_n hx hb dX5_copyFrom_8 rfl (lv_at hl 0 rfl) ?_
        refine z_get S hw F9 0 rfl rfl dX5_copyFrom_9 ?_
        refine lv_iload_n hx hb dX5_copyFrom_12 rfl (lv_at hl 2 rfl) ?_
        refine lv_aload_n hx hb dX5_copyFrom_13 rfl (lv_at hl 1 rfl) ?_
        refine z_get S hw F9 1 rfl rfl dX5_copyFrom_14 ?_
        refine lv_iload_n hx hb dX5_copyFrom_17 rfl (lv_at hl 2 rfl) ?_
        obtain ⟨hg, h⟩ := grd_el h
        refine z_iald S hw 2 0 rfl rfl hg dX5_copyFrom_18 ?_
        obtain ⟨hg, h⟩ := grd_el h
        obtain ⟨k_kinds_6, ek_kinds_6, h⟩ := bnd_ex h
        refine z_iast S hw ek_kinds_6 3 0 rfl rfl hg dX5_copyFrom_19 (fun H locs hw => ?_)
        refine lv_aload_n hx hb dX5_copyFrom_20 rfl (lv_at hl 0 rfl) ?_
        refine z_get S hw F15 0 rfl rfl dX5_copyFrom_21 ?_
        refine lv_iload_n hx hb dX5_copyFrom_24 rfl (lv_at hl 2 rfl) ?_
        refine lv_aload_n hx hb dX5_copyFrom_25 rfl (lv_at hl 1 rfl) ?_
        refine z_get S hw F15 1 rfl rfl dX5_copyFrom_26 ?_
        refine lv_iload_n hx hb dX5_copyFrom_29 rfl (lv_at hl 2 rfl) ?_
        obtain ⟨hg, h⟩ := grd_el h
        refine z_iald S hw 4 0 rfl rfl hg dX5_copyFrom_30 ?_
        obtain ⟨hg, h⟩ := grd_el h
        obtain ⟨k_delays_7, ek_delays_7, h⟩ := bnd_ex h
        refine z_iast S hw ek_delays_7 5 0 rfl rfl hg dX5_copyFrom_31 (fun H locs hw => ?_)
        obtain ⟨x2_8, ex2_8, h⟩ := bnd_ex h
        refine lv_iinc (v := x2_8) (lv' := [(2, .int x2_8), (0, .ref a_this), (1, .ref a_p1)]) hx hb dX5_copyFrom_32 hl (k := 2) rfl (by rw [ex2_8]; rfl) (by decide) rfl (fun ls hl => ?_)
        refine lv_goto (tgt := 2) hx hb dX5_copyFrom_35 (by decide) ?_
        exact ih_2 x2_8 k_kinds_6 k_delays_7 H locs ls h hw (lv_sub hl [1, 2, 0] rfl)
  exact hL2_1 N ((0 : Int32)) k_kinds k_delays H locs ls h hw (lv_sub hl [1, 2, 0] rfl)
abbrev rmX5_delaysTogether : Room := { frames := 0, cells := 0, slots := 0, locals := 0 }
theorem dv_X5_delaysTogether : yX5_delaysTogether.cls = RX5 ∧ yX5_delaysTogether.cls ≠ "java/lang/invoke/MethodHandle" ∧ yX5_delaysTogether.cls ≠ "java/lang/invoke/VarHandle" ∧ (parseMethodDescriptor yX5_delaysTogether.desc).map (fun d => d.parameters.length) = some 1 := by decide +kernel
noncomputable def f_X5_delaysTogether_L4 (N : Nat) (i_p1_gates : Int32) (k_delays : (Nat → Int32)) (j27_1 : Int32 → Option (Int32)) : Nat → Int32 → Int32 → Option (Int32)
  | 0, _, _ => none
  | n_4 + 1, x2_2, x3_3 =>
    (if i_p1_gates ≤ x3_3 then (j27_1 x2_2) else (grd (inb x3_3 8) <| bnd ((x2_2 + (k_delays x3_3.toNatClampNeg))) fun (x2_4 : Int32) => bnd (x3_3 + (1 : Int32)) fun (x3_5 : Int32) => f_X5_delaysTogether_L4 N i_p1_gates k_delays j27_1 n_4 x2_4 x3_5))
noncomputable def f_X5_delaysTogether (N : Nat)  (i_p1_gates : Int32) (k_delays : (Nat → Int32)) : Option (Int32) :=
  bnd (fun (x2_1 : Int32) => (some (x2_1))) fun (j27_1 : Int32 → Option (Int32)) => f_X5_delaysTogether_L4 N i_p1_gates k_delays j27_1 N ((0 : Int32)) ((0 : Int32))
set_option maxHeartbeats 4000000 in
set_option maxRecDepth 100000 in
theorem c_X5_delaysTogether (l : Launch) (D : va_G) (cI cJ cZ cS : ClassId) (sz N : Nat) (a_p1 a_this a_delays a_p1_told a_p1_lefts a_p1_rights a_p1_nexts a_p1_starts a_p1_sizes a_p1_steps a_p1_links a_kinds : Nat) (i_p1_inputs : Int32) (i_p1_gates : Int32) (i_p1_paths : Int32) (i_this_held : Int32) (k_delays : (Nat → Int32))  (rr : Int32) (hf : f_X5_delaysTogether N i_p1_gates k_delays = some (rr)) : MetIr l yX5_delaysTogether wsX5_delaysTogether rmX5_delaysTogether D (tyA cI cJ cZ cS) [(a_p1, .inr (2, [.int i_p1_inputs, .int i_p1_gates, .int i_p1_paths, .ref a_p1_told, .ref a_p1_lefts, .ref a_p1_rights, .ref a_p1_nexts, .ref a_p1_starts, .ref a_p1_sizes, .ref a_p1_steps, .ref a_p1_links])), (a_this, .inr (5, [.ref a_kinds, .ref a_delays, .int i_this_held])), (a_delays, .inl (cI, 8, .inl k_delays))] sz [.ref a_this, .ref a_p1] rr := by
  refine entIr (cc := cX5_delaysTogether) (maxL := 4) (own := RX5) (by decide) rfl rfl (Nat.le_of_ble_eq_true rfl) ?_
  intro p e s m args below meth c A ls Q S hr hw hl hQ
  have hx := S.1.1
  have hb := S.1.2.1
  have hts := S.1.2.2.2.2
  have hl : lv_has ls 4 [(0, .ref a_this), (1, .ref a_p1)] := hl
  have hinX5 : ∀ w ∈ u_ws RX5 TX5 3, w ∈ wsX5_delaysTogether := (fun _ h => List.mem_cons_of_mem _ (List.mem_append_right _ h))
  have F15 : FLk s args wsX5_delaysTogether RX5 15 RX5 TX5 3 5 1 := ⟨hinX5, rfl, by decide, hts (.fieldLink RX5 15 "SlowPaths$Setting" "delays" "[I") (List.mem_of_getElem? (i := 2) rfl)⟩
  have hinX2 : ∀ w ∈ u_ws RX2 TX2 11, w ∈ wsX5_delaysTogether := (fun _ h => List.mem_cons_of_mem _ (List.mem_append_left _ (List.mem_append_right _ h)))
  have F27 : FLk s args wsX5_delaysTogether RX5 27 RX2 TX2 11 2 1 := ⟨hinX2, rfl, by decide, hts (.fieldLink RX5 27 "SlowPaths$Net" "gates" "I") (List.mem_of_getElem? (i := 1) rfl)⟩
  have h := hf
  rw [f_X5_delaysTogether] at h
  refine lv_iconst (v := (0 : Int32)) hx hb dX5_delaysTogether_0 (by decide) ?_
  refine lv_istore_n (lv' := [(2, .int (0 : Int32)), (0, .ref a_this), (1, .ref a_p1)]) hx hb dX5_delaysTogether_1 rfl hl (by decide) rfl (fun ls hl => ?_)
  refine lv_iconst (v := (0 : Int32)) hx hb dX5_delaysTogether_2 (by decide) ?_
  refine lv_istore_n (lv' := [(3, .int (0 : Int32)), (2, .int (0 : Int32)), (0, .ref a_this), (1, .ref a_p1)]) hx hb dX5_delaysTogether_3 rfl hl (by decide) rfl (fun ls hl => ?_)
  obtain ⟨j27_1, ej27_1, h⟩ := bnd_ex h
  have hj27_1 : ∀ (x2_1 : Int32) (ls : Array Slot), j27_1 x2_1 = some (rr) → lv_has ls 4 [(2, .int x2_1)] → W p l e rmX5_delaysTogether s m args below meth c s.heap [] 0 0 Q (F0 m 27 ls []) := by
    intro x2_1 ls h hl
    replace h := ap1 ej27_1 h
    refine lv_iload_n hx hb dX5_delaysTogether_27 rfl (lv_at hl 0 rfl) ?_
    cases h
    exact z_iretr S hQ hr dX5_delaysTogether_28
  have hL4_1 : ∀ (nf : Nat) (x2_2 : Int32) (x3_3 : Int32) (ls : Array Slot), f_X5_delaysTogether_L4 N i_p1_gates k_delays j27_1 nf x2_2 x3_3 = some (rr) → lv_has ls 4 [(0, .ref a_this), (1, .ref a_p1), (2, .int x2_2), (3, .int x3_3)] → W p l e rmX5_delaysTogether s m args below meth c s.heap [] 0 0 Q (F0 m 4 ls []) := by
    intro nf
    induction nf with
    | zero =>
      intro x2_2 x3_3 ls h
      rw [f_X5_delaysTogether_L4] at h
      cases h
    | succ n_4 ih_4 =>
      intro x2_2 x3_3 ls h hl
      rw [f_X5_delaysTogether_L4] at h
      refine lv_iload_n hx hb dX5_delaysTogether_4 rfl (lv_at hl 3 rfl) ?_
      refine lv_aload_n hx hb dX5_delaysTogether_5 rfl (lv_at hl 1 rfl) ?_
      refine z_get S hw F27 0 rfl rfl dX5_delaysTogether_6 ?_
      refine lv_icmp_ge (tgt := 27) hx hb dX5_delaysTogether_9 (by decide) (fun hc => ?_) (fun hc => ?_)
      · replace h := if_t hc h
        exact hj27_1 x2_2 ls h (lv_sub hl [2] rfl)
      · replace h := if_f hc h
        refine lv_iload_n hx hb dX5_delaysTogether_12 rfl (lv_at hl 2 rfl) ?_
        refine lv_aload_n hx hb dX5_delaysTogether_13 rfl (lv_at hl 0 rfl) ?_
        refine z_get S hw F15 1 rfl rfl dX5_delaysTogether_14 ?_
        refine lv_iload_n hx hb dX5_delaysTogether_17 rfl (lv_at hl 3 rfl) ?_
        obtain ⟨hg, h⟩ := grd_el h
        refine z_iald S hw 2 0 rfl rfl hg dX5_delaysTogether_18 ?_
        refine lv_iadd hx hb dX5_delaysTogether_19 ?_
        refine lv_topi (fun x2_4 ex2_4 => ?_)
        replace h := bnd_at ex2_4 h
        refine lv_istore_n (lv' := [(2, .int x2_4), (0, .ref a_this), (1, .ref a_p1), (3, .int x3_3)]) hx hb dX5_delaysTogether_20 rfl hl (by decide) rfl (fun ls hl => ?_)
        obtain ⟨x3_5, ex3_5, h⟩ := bnd_ex h
        refine lv_iinc (v := x3_5) (lv' := [(3, .int x3_5), (2, .int x2_4), (0, .ref a_this), (1, .ref a_p1)]) hx hb dX5_delaysTogether_21 hl (k := 3) rfl (by rw [ex3_5]; rfl) (by decide) rfl (fun ls hl => ?_)
        refine lv_goto (tgt := 4) hx hb dX5_delaysTogether_24 (by decide) ?_
        exact ih_4 x2_4 x3_5 ls h (lv_sub hl [2, 3, 1, 0] rfl)
  exact hL4_1 N ((0 : Int32)) ((0 : Int32)) ls h (lv_sub hl [2, 3, 1, 0] rfl)
abbrev rmX6_add : Room := { frames := 0, cells := 0, slots := 0, locals := 0 }
theorem dv_X6_add : yX6_add.cls = RX6 ∧ yX6_add.cls ≠ "java/lang/invoke/MethodHandle" ∧ yX6_add.cls ≠ "java/lang/invoke/VarHandle" ∧ (parseMethodDescriptor yX6_add.desc).map (fun d => d.parameters.length) = some 3 := by decide +kernel
noncomputable def f_X6_add (N : Nat) (y1 : Int32) (y2 : Int32) (y3 : Int32) (i_this_size : Int32) (k_pairs : (Nat → Int32)) (k_times : (Nat → Int32)) (k_lates : (Nat → Int32)) : Option (Int32 × (Nat → Int32) × (Nat → Int32) × (Nat → Int32)) :=
  (if (6 : Int32) ≤ i_this_size then (some (i_this_size, k_pairs, k_times, k_lates)) else (grd (inb i_this_size 6) <| bnd (upd k_pairs i_this_size.toNatClampNeg y1) fun (k_pairs_1 : (Nat → Int32)) => grd (inb i_this_size 6) <| bnd (upd k_times i_this_size.toNatClampNeg y2) fun (k_times_2 : (Nat → Int32)) => grd (inb i_this_size 6) <| bnd (upd k_lates i_this_size.toNatClampNeg y3) fun (k_lates_3 : (Nat → Int32)) => bnd ((i_this_size + (1 : Int32))) fun (i_size_4 : Int32) => some (i_size_4, k_pairs_1, k_times_2, k_lates_3)))
set_option maxHeartbeats 4000000 in
set_option maxRecDepth 100000 in
theorem c_X6_add (l : Launch) (D : va_G) (cI cJ cZ cS : ClassId) (sz N : Nat) (a_this a_pairs a_times a_lates : Nat) (i_this_size : Int32) (k_pairs : (Nat → Int32)) (k_times : (Nat → Int32)) (k_lates : (Nat → Int32)) (y1 : Int32) (y2 : Int32) (y3 : Int32) (o_this_size : Int32) (o_pairs : (Nat → Int32)) (o_times : (Nat → Int32)) (o_lates : (Nat → Int32)) (hf : f_X6_add N y1 y2 y3 i_this_size k_pairs k_times k_lates = some (o_this_size, o_pairs, o_times, o_lates)) : MetV l yX6_add wsX6_add rmX6_add D (tyA cI cJ cZ cS) [(a_this, .inr (6, [.ref a_pairs, .ref a_times, .ref a_lates, .int i_this_size])), (a_pairs, .inl (cI, 6, .inl k_pairs)), (a_times, .inl (cI, 6, .inl k_times)), (a_lates, .inl (cI, 6, .inl k_lates))] sz [.ref a_this, .int y1, .int y2, .int y3] [(a_this, .inr (6, [.ref a_pairs, .ref a_times, .ref a_lates, .int o_this_size])), (a_pairs, .inl (cI, 6, .inl o_pairs)), (a_times, .inl (cI, 6, .inl o_times)), (a_lates, .inl (cI, 6, .inl o_lates))] := by
  refine entV (cc := cX6_add) (maxL := 4) (own := RX6) (by decide) rfl rfl (Nat.le_of_ble_eq_true rfl) ?_
  intro p e s m args below meth c A ls Q H locs S hr hw hl hQ
  have hx := S.1.1
  have hb := S.1.2.1
  have hts := S.1.2.2.2.2
  have hl : lv_has ls 4 [(0, .ref a_this), (1, .int y1), (2, .int y2), (3, .int y3)] := hl
  have hinX6 : ∀ w ∈ u_ws RX6 TX6 4, w ∈ wsX6_add := (fun _ h => List.mem_cons_of_mem _ (List.mem_append_right _ h))
  have F9 : FLk s args wsX6_add RX6 9 RX6 TX6 4 6 0 := ⟨hinX6, rfl, by decide, hts (.fieldLink RX6 9 "SlowPaths$Sightings" "pairs" "[I") (List.mem_of_getElem? (i := 2) rfl)⟩
  have F15 : FLk s args wsX6_add RX6 15 RX6 TX6 4 6 1 := ⟨hinX6, rfl, by decide, hts (.fieldLink RX6 15 "SlowPaths$Sightings" "times" "[I") (List.mem_of_getElem? (i := 3) rfl)⟩
  have F18 : FLk s args wsX6_add RX6 18 RX6 TX6 4 6 2 := ⟨hinX6, rfl, by decide, hts (.fieldLink RX6 18 "SlowPaths$Sightings" "lates" "[I") (List.mem_of_getElem? (i := 4) rfl)⟩
  have F21 : FLk s args wsX6_add RX6 21 RX6 TX6 4 6 3 := ⟨hinX6, rfl, by decide, hts (.fieldLink RX6 21 "SlowPaths$Sightings" "size" "I") (List.mem_of_getElem? (i := 1) rfl)⟩
  have P21 : PLk TX6 4 3 tyX6 false .int := ⟨tyX6_ok, nmX6, rfl, rfl⟩
  have h := hf
  rw [f_X6_add] at h
  refine lv_aload_n hx hb dX6_add_0 rfl (lv_at hl 0 rfl) ?_
  refine z_get S hw F21 0 rfl rfl dX6_add_1 ?_
  refine lv_bipush (v := (6 : Int32)) hx hb dX6_add_4 (by decide) ?_
  refine lv_icmp_ge (tgt := 49) hx hb dX6_add_6 (by decide) (fun hc => ?_) (fun hc => ?_)
  · replace h := if_t hc h
    cases h
    exact z_vret S hQ hr hw [0, 1, 2, 3] rfl rfl dX6_add_49
  · replace h := if_f hc h
    refine lv_aload_n hx hb dX6_add_9 rfl (lv_at hl 0 rfl) ?_
    refine z_get S hw F9 0 rfl rfl dX6_add_10 ?_
    refine lv_aload_n hx hb dX6_add_13 rfl (lv_at hl 0 rfl) ?_
    refine z_get S hw F21 0 rfl rfl dX6_add_14 ?_
    refine lv_iload_n hx hb dX6_add_17 rfl (lv_at hl 1 rfl) ?_
    obtain ⟨hg, h⟩ := grd_el h
    obtain ⟨k_pairs_1, ek_pairs_1, h⟩ := bnd_ex h
    refine z_iast S hw ek_pairs_1 1 0 rfl rfl hg dX6_add_18 (fun H locs hw => ?_)
    refine lv_aload_n hx hb dX6_add_19 rfl (lv_at hl 0 rfl) ?_
    refine z_get S hw F15 0 rfl rfl dX6_add_20 ?_
    refine lv_aload_n hx hb dX6_add_23 rfl (lv_at hl 0 rfl) ?_
    refine z_get S hw F21 0 rfl rfl dX6_add_24 ?_
    refine lv_iload_n hx hb dX6_add_27 rfl (lv_at hl 2 rfl) ?_
    obtain ⟨hg, h⟩ := grd_el h
    obtain ⟨k_times_2, ek_times_2, h⟩ := bnd_ex h
    refine z_iast S hw ek_times_2 2 0 rfl rfl hg dX6_add_28 (fun H locs hw => ?_)
    refine lv_aload_n hx hb dX6_add_29 rfl (lv_at hl 0 rfl) ?_
    refine z_get S hw F18 0 rfl rfl dX6_add_30 ?_
    refine lv_aload_n hx hb dX6_add_33 rfl (lv_at hl 0 rfl) ?_
    refine z_get S hw F21 0 rfl rfl dX6_add_34 ?_
    refine lv_iload_n hx hb dX6_add_37 rfl (lv_at hl 3 rfl) ?_
    obtain ⟨hg, h⟩ := grd_el h
    obtain ⟨k_lates_3, ek_lates_3, h⟩ := bnd_ex h
    refine z_iast S hw ek_lates_3 3 0 rfl rfl hg dX6_add_38 (fun H locs hw => ?_)
    refine lv_aload_n hx hb dX6_add_39 rfl (lv_at hl 0 rfl) ?_
    refine lv_dup hx hb dX6_add_40 rfl ?_
    refine z_get S hw F21 0 rfl rfl dX6_add_41 ?_
    refine lv_iconst (v := (1 : Int32)) hx hb dX6_add_44 (by decide) ?_
    refine lv_iadd hx hb dX6_add_45 ?_
    refine lv_topi (fun i_size_4 ei_size_4 => ?_)
    replace h := bnd_at ei_size_4 h
    refine z_put S hw F21 P21 rfl rfl 0 rfl (Nat.le_of_ble_eq_true rfl) dX6_add_46 (fun H locs hw => ?_)
    cases h
    exact z_vret S hQ hr hw [0, 1, 2, 3] rfl rfl dX6_add_49
abbrev rmX7_greatest : Room := { frames := 1, cells := 0, slots := 0, locals := 21 }
theorem dv_X7_greatest : yX7_greatest.cls = RX7 ∧ yX7_greatest.cls ≠ "java/lang/invoke/MethodHandle" ∧ yX7_greatest.cls ≠ "java/lang/invoke/VarHandle" ∧ (parseMethodDescriptor yX7_greatest.desc).map (fun d => d.parameters.length) = some 3 := by decide +kernel
noncomputable def f_X7_greatest_L32 (N : Nat) (y3 : Int32) (i_p1_gates : Int32) (k_p2 : (Nat → Int32)) (k_p1_lefts : (Nat → Int32)) (k_p1_rights : (Nat → Int32)) (j132_1 : Int32 → (Nat → Int32) → Option (Int32 × (Nat → Int32))) : Nat → Int32 → Int32 → (Nat → Int32) → Option (Int32 × (Nat → Int32))
  | 0, _, _, _ => none
  | n_32 + 1, x4_4, x5_5, k_upTo_6 =>
    (if i_p1_gates ≤ x5_5 then (j132_1 x4_4 k_upTo_6) else (grd (inb x5_5 8) <| grd (inb (k_p1_lefts x5_5.toNatClampNeg) 18) <| bnd ((k_upTo_6 (k_p1_lefts x5_5.toNatClampNeg).toNatClampNeg)) fun (x6_7 : Int32) => grd (inb x5_5 8) <| bnd (fun (t_8 : Int32) => (bnd (fun (t_9 : Int32) (t_10 : Int32) => (bnd ((t_10 + t_9)) fun (x4_11 : Int32) => grd (inb ((10 : Int32) + x5_5) 18) <| bnd (upd k_upTo_6 ((10 : Int32) + x5_5).toNatClampNeg x4_11) fun (k_upTo_12 : (Nat → Int32)) => bnd (x5_5 + (1 : Int32)) fun (x5_13 : Int32) => f_X7_greatest_L32 N y3 i_p1_gates k_p2 k_p1_lefts k_p1_rights j132_1 n_32 x4_11 x5_13 k_upTo_12)) fun (j111_1 : Int32 → Int32 → Option (Int32 × (Nat → Int32))) => (if ((y3 >>> (x5_5 &&& 31)) &&& (1 : Int32)) = (1 : Int32) then (grd (inb x5_5 8) <| j111_1 ((k_p2 x5_5.toNatClampNeg)) ((if x6_7 < t_8 then t_8 else x6_7))) else (j111_1 ((0 : Int32)) ((if x6_7 < t_8 then t_8 else x6_7)))))) fun (j84_1 : Int32 → Option (Int32 × (Nat → Int32))) => (if (k_p1_rights x5_5.toNatClampNeg) = (-9 : Int32) then (j84_1 x6_7) else (grd (inb x5_5 8) <| grd (inb (k_p1_rights x5_5.toNatClampNeg) 18) <| j84_1 ((k_upTo_6 (k_p1_rights x5_5.toNatClampNeg).toNatClampNeg))))))
noncomputable def f_X7_greatest_L3 (N : Nat) (i_p1_inputs : Int32) (j26_1 : (Nat → Int32) → Option (Int32 × (Nat → Int32))) : Nat → Int32 → (Nat → Int32) → Option (Int32 × (Nat → Int32))
  | 0, _, _ => none
  | n_3 + 1, x4_14, k_upTo_15 =>
    (if i_p1_inputs ≤ x4_14 then (j26_1 k_upTo_15) else (grd (inb x4_14 18) <| bnd (upd k_upTo_15 x4_14.toNatClampNeg (0 : Int32)) fun (k_upTo_16 : (Nat → Int32)) => bnd (x4_14 + (1 : Int32)) fun (x4_17 : Int32) => f_X7_greatest_L3 N i_p1_inputs j26_1 n_3 x4_17 k_upTo_16))
noncomputable def f_X7_greatest (N : Nat) (y3 : Int32) (i_p1_inputs : Int32) (i_p1_gates : Int32) (k_p2 : (Nat → Int32)) (k_p1_lefts : (Nat → Int32)) (k_upTo : (Nat → Int32)) (k_p1_rights : (Nat → Int32)) : Option (Int32 × (Nat → Int32)) :=
  bnd (fun (k_upTo_1 : (Nat → Int32)) => (bnd (fun (x4_2 : Int32) (k_upTo_3 : (Nat → Int32)) => (some (x4_2, k_upTo_3))) fun (j132_1 : Int32 → (Nat → Int32) → Option (Int32 × (Nat → Int32))) => f_X7_greatest_L32 N y3 i_p1_gates k_p2 k_p1_lefts k_p1_rights j132_1 N ((0 : Int32)) ((0 : Int32)) k_upTo_1)) fun (j26_1 : (Nat → Int32) → Option (Int32 × (Nat → Int32))) => f_X7_greatest_L3 N i_p1_inputs j26_1 N ((0 : Int32)) k_upTo
set_option maxHeartbeats 4000000 in
set_option maxRecDepth 100000 in
theorem c_X7_greatest (l : Launch) (D : va_G) (cI cJ cZ cS : ClassId) (sz N : Nat) (a_p1 a_this a_p2 a_p1_lefts a_upTo a_p1_rights a_p1_told a_p1_nexts a_p1_starts a_p1_sizes a_p1_steps a_p1_links : Nat) (i_p1_inputs : Int32) (i_p1_gates : Int32) (i_p1_paths : Int32) (k_p2 : (Nat → Int32)) (k_p1_lefts : (Nat → Int32)) (k_upTo : (Nat → Int32)) (k_p1_rights : (Nat → Int32)) (y3 : Int32) (rr : Int32) (o_upTo : (Nat → Int32)) (hf : f_X7_greatest N y3 i_p1_inputs i_p1_gates k_p2 k_p1_lefts k_upTo k_p1_rights = some (rr, o_upTo)) : MetI l yX7_greatest wsX7_greatest rmX7_greatest D (tyA cI cJ cZ cS) [(a_p1, .inr (2, [.int i_p1_inputs, .int i_p1_gates, .int i_p1_paths, .ref a_p1_told, .ref a_p1_lefts, .ref a_p1_rights, .ref a_p1_nexts, .ref a_p1_starts, .ref a_p1_sizes, .ref a_p1_steps, .ref a_p1_links])), (a_this, .inr (7, [.ref a_upTo])), (a_p2, .inl (cI, 8, .inl k_p2)), (a_p1_lefts, .inl (cI, 8, .inl k_p1_lefts)), (a_upTo, .inl (cI, 18, .inl k_upTo)), (a_p1_rights, .inl (cI, 8, .inl k_p1_rights))] sz [.ref a_this, .ref a_p1, .ref a_p2, .int y3] rr [(a_p1, .inr (2, [.int i_p1_inputs, .int i_p1_gates, .int i_p1_paths, .ref a_p1_told, .ref a_p1_lefts, .ref a_p1_rights, .ref a_p1_nexts, .ref a_p1_starts, .ref a_p1_sizes, .ref a_p1_steps, .ref a_p1_links])), (a_this, .inr (7, [.ref a_upTo])), (a_p2, .inl (cI, 8, .inl k_p2)), (a_p1_lefts, .inl (cI, 8, .inl k_p1_lefts)), (a_upTo, .inl (cI, 18, .inl o_upTo)), (a_p1_rights, .inl (cI, 8, .inl k_p1_rights))] := by
  refine entI (cc := cX7_greatest) (maxL := 8) (own := RX7) (by decide) rfl rfl (Nat.le_of_ble_eq_true rfl) ?_
  intro p e s m args below meth c A ls Q H locs S hr hw hl hQ
  have hx := S.1.1
  have hb := S.1.2.1
  have hts := S.1.2.2.2.2
  have hl : lv_has ls 8 [(0, .ref a_this), (1, .ref a_p1), (2, .ref a_p2), (3, .int y3)] := hl
  have hinX7 : ∀ w ∈ u_ws RX7 TX7 1, w ∈ wsX7_greatest := (fun _ h => List.mem_cons_of_mem _ (List.mem_append_right _ h))
  have F9 : FLk s args wsX7_greatest RX7 9 RX7 TX7 1 7 0 := ⟨hinX7, rfl, by decide, hts (.fieldLink RX7 9 "SlowPaths$Spans" "upTo" "[I") (List.mem_of_getElem? (i := 2) rfl)⟩
  have hinX2 : ∀ w ∈ u_ws RX2 TX2 11, w ∈ wsX7_greatest := (fun _ h => List.mem_cons_of_mem _ (List.mem_append_left _ (List.mem_append_right _ h)))
  have F15 : FLk s args wsX7_greatest RX7 15 RX2 TX2 11 2 0 := ⟨hinX2, rfl, by decide, hts (.fieldLink RX7 15 "SlowPaths$Net" "inputs" "I") (List.mem_of_getElem? (i := 1) rfl)⟩
  have F21 : FLk s args wsX7_greatest RX7 21 RX2 TX2 11 2 1 := ⟨hinX2, rfl, by decide, hts (.fieldLink RX7 21 "SlowPaths$Net" "gates" "I") (List.mem_of_getElem? (i := 3) rfl)⟩
  have F24 : FLk s args wsX7_greatest RX7 24 RX2 TX2 11 2 4 := ⟨hinX2, rfl, by decide, hts (.fieldLink RX7 24 "SlowPaths$Net" "lefts" "[I") (List.mem_of_getElem? (i := 4) rfl)⟩
  have F27 : FLk s args wsX7_greatest RX7 27 RX2 TX2 11 2 5 := ⟨hinX2, rfl, by decide, hts (.fieldLink RX7 27 "SlowPaths$Net" "rights" "[I") (List.mem_of_getElem? (i := 5) rfl)⟩
  have h := hf
  rw [f_X7_greatest] at h
  refine lv_iconst (v := (0 : Int32)) hx hb dX7_greatest_0 (by decide) ?_
  refine lv_istore (lv' := [(4, .int (0 : Int32)), (0, .ref a_this), (1, .ref a_p1), (2, .ref a_p2), (3, .int y3)]) hx hb dX7_greatest_1 hl (by decide) rfl (fun ls hl => ?_)
  obtain ⟨j26_1, ej26_1, h⟩ := bnd_ex h
  have hj26_1 : ∀ (k_upTo_1 : (Nat → Int32)) (H : Heap) (locs : List Loc) (ls : Array Slot), j26_1 k_upTo_1 = some (rr, o_upTo) → Wd D (tyA cI cJ cZ cS) A s [(a_p1, .inr (2, [.int i_p1_inputs, .int i_p1_gates, .int i_p1_paths, .ref a_p1_told, .ref a_p1_lefts, .ref a_p1_rights, .ref a_p1_nexts, .ref a_p1_starts, .ref a_p1_sizes, .ref a_p1_steps, .ref a_p1_links])), (a_this, .inr (7, [.ref a_upTo])), (a_p2, .inl (cI, 8, .inl k_p2)), (a_p1_lefts, .inl (cI, 8, .inl k_p1_lefts)), (a_upTo, .inl (cI, 18, .inl k_upTo_1)), (a_p1_rights, .inl (cI, 8, .inl k_p1_rights))] H locs → lv_has ls 8 [(0, .ref a_this), (1, .ref a_p1), (2, .ref a_p2), (3, .int y3)] → W p l e rmX7_greatest s m args below meth c H locs 0 0 Q (F0 m 26 ls []) := by
    intro k_upTo_1 H locs ls h hw hl
    replace h := ap1 ej26_1 h
    refine lv_iconst (v := (0 : Int32)) hx hb dX7_greatest_26 (by decide) ?_
    refine lv_istore (lv' := [(4, .int (0 : Int32)), (0, .ref a_this), (1, .ref a_p1), (2, .ref a_p2), (3, .int y3)]) hx hb dX7_greatest_27 hl (by decide) rfl (fun ls hl => ?_)
    refine lv_iconst (v := (0 : Int32)) hx hb dX7_greatest_29 (by decide) ?_
    refine lv_istore (lv' := [(5, .int (0 : Int32)), (4, .int (0 : Int32)), (0, .ref a_this), (1, .ref a_p1), (2, .ref a_p2), (3, .int y3)]) hx hb dX7_greatest_30 hl (by decide) rfl (fun ls hl => ?_)
    obtain ⟨j132_1, ej132_1, h⟩ := bnd_ex h
    have hj132_1 : ∀ (x4_2 : Int32) (k_upTo_3 : (Nat → Int32)) (H : Heap) (locs : List Loc) (ls : Array Slot), j132_1 x4_2 k_upTo_3 = some (rr, o_upTo) → Wd D (tyA cI cJ cZ cS) A s [(a_p1, .inr (2, [.int i_p1_inputs, .int i_p1_gates, .int i_p1_paths, .ref a_p1_told, .ref a_p1_lefts, .ref a_p1_rights, .ref a_p1_nexts, .ref a_p1_starts, .ref a_p1_sizes, .ref a_p1_steps, .ref a_p1_links])), (a_this, .inr (7, [.ref a_upTo])), (a_p2, .inl (cI, 8, .inl k_p2)), (a_p1_lefts, .inl (cI, 8, .inl k_p1_lefts)), (a_upTo, .inl (cI, 18, .inl k_upTo_3)), (a_p1_rights, .inl (cI, 8, .inl k_p1_rights))] H locs → lv_has ls 8 [(4, .int x4_2)] → W p l e rmX7_greatest s m args below meth c H locs 0 0 Q (F0 m 132 ls []) := by
      intro x4_2 k_upTo_3 H locs ls h hw hl
      replace h := ap2 ej132_1 h
      refine lv_iload hx hb dX7_greatest_132 (lv_at hl 0 rfl) ?_
      cases h
      exact z_iret S hQ hr hw [0, 1, 2, 3, 4, 5] rfl rfl dX7_greatest_134
    have hL32_1 : ∀ (nf : Nat) (x4_4 : Int32) (x5_5 : Int32) (k_upTo_6 : (Nat → Int32)) (H : Heap) (locs : List Loc) (ls : Array Slot), f_X7_greatest_L32 N y3 i_p1_gates k_p2 k_p1_lefts k_p1_rights j132_1 nf x4_4 x5_5 k_upTo_6 = some (rr, o_upTo) → Wd D (tyA cI cJ cZ cS) A s [(a_p1, .inr (2, [.int i_p1_inputs, .int i_p1_gates, .int i_p1_paths, .ref a_p1_told, .ref a_p1_lefts, .ref a_p1_rights, .ref a_p1_nexts, .ref a_p1_starts, .ref a_p1_sizes, .ref a_p1_steps, .ref a_p1_links])), (a_this, .inr (7, [.ref a_upTo])), (a_p2, .inl (cI, 8, .inl k_p2)), (a_p1_lefts, .inl (cI, 8, .inl k_p1_lefts)), (a_upTo, .inl (cI, 18, .inl k_upTo_6)), (a_p1_rights, .inl (cI, 8, .inl k_p1_rights))] H locs → lv_has ls 8 [(0, .ref a_this), (1, .ref a_p1), (2, .ref a_p2), (3, .int y3), (4, .int x4_4), (5, .int x5_5)] → W p l e rmX7_greatest s m args below meth c H locs 0 0 Q (F0 m 32 ls []) := by
      intro nf
      induction nf with
      | zero =>
        intro x4_4 x5_5 k_upTo_6 H locs ls h
        rw [f_X7_greatest_L32] at h
        cases h
      | succ n_32 ih_32 =>
        intro x4_4 x5_5 k_upTo_6 H locs ls h hw hl
        rw [f_X7_greatest_L32] at h
        refine lv_iload hx hb dX7_greatest_32 (lv_at hl 5 rfl) ?_
        refine lv_aload_n hx hb dX7_greatest_34 rfl (lv_at hl 1 rfl) ?_
        refine z_get S hw F21 0 rfl rfl dX7_greatest_35 ?_
        refine lv_icmp_ge (tgt := 132) hx hb dX7_greatest_38 (by decide) (fun hc => ?_) (fun hc => ?_)
        · replace h := if_t hc h
          exact hj132_1 x4_4 k_upTo_6 H locs ls h hw (lv_sub hl [4] rfl)
        · replace h := if_f hc h
          refine lv_aload_n hx hb dX7_greatest_41 rfl (lv_at hl 0 rfl) ?_
          refine z_get S hw F9 1 rfl rfl dX7_greatest_42 ?_
          refine lv_aload_n hx hb dX7_greatest_45 rfl (lv_at hl 1 rfl) ?_
          refine z_get S hw F24 0 rfl rfl dX7_greatest_46 ?_
          refine lv_iload hx hb dX7_greatest_49 (lv_at hl 5 rfl) ?_
          obtain ⟨hg, h⟩ := grd_el h
          refine z_iald S hw 3 0 rfl rfl hg dX7_greatest_51 ?_
          obtain ⟨hg, h⟩ := grd_el h
          refine z_iald S hw 4 0 rfl rfl hg dX7_greatest_52 ?_
          refine lv_topi (fun x6_7 ex6_7 => ?_)
          replace h := bnd_at ex6_7 h
          refine lv_istore (lv' := [(6, .int x6_7), (0, .ref a_this), (1, .ref a_p1), (2, .ref a_p2), (3, .int y3), (4, .int x4_4), (5, .int x5_5)]) hx hb dX7_greatest_53 hl (by decide) rfl (fun ls hl => ?_)
          refine lv_aload_n hx hb dX7_greatest_55 rfl (lv_at hl 2 rfl) ?_
          refine z_get S hw F27 0 rfl rfl dX7_greatest_56 ?_
          refine lv_iload hx hb dX7_greatest_59 (lv_at hl 6 rfl) ?_
          obtain ⟨hg, h⟩ := grd_el h
          refine z_iald S hw 5 0 rfl rfl hg dX7_greatest_61 ?_
          refine lv_bipush (v := (-9 : Int32)) hx hb dX7_greatest_62 (by decide) ?_
          obtain ⟨j84_1, ej84_1, h⟩ := bnd_ex h
          have hj84_1 : ∀ (t_8 : Int32) (H : Heap) (locs : List Loc) (ls : Array Slot), j84_1 t_8 = some (rr, o_upTo) → Wd D (tyA cI cJ cZ cS) A s [(a_p1, .inr (2, [.int i_p1_inputs, .int i_p1_gates, .int i_p1_paths, .ref a_p1_told, .ref a_p1_lefts, .ref a_p1_rights, .ref a_p1_nexts, .ref a_p1_starts, .ref a_p1_sizes, .ref a_p1_steps, .ref a_p1_links])), (a_this, .inr (7, [.ref a_upTo])), (a_p2, .inl (cI, 8, .inl k_p2)), (a_p1_lefts, .inl (cI, 8, .inl k_p1_lefts)), (a_upTo, .inl (cI, 18, .inl k_upTo_6)), (a_p1_rights, .inl (cI, 8, .inl k_p1_rights))] H locs → lv_has ls 8 [(0, .ref a_this), (1, .ref a_p1), (2, .ref a_p2), (3, .int y3), (5, .int x5_5), (6, .int x6_7)] → W p l e rmX7_greatest s m args below meth c H locs 0 0 Q (F0 m 84 ls [.int t_8]) := by
            intro t_8 H locs ls h hw hl
            replace h := ap1 ej84_1 h
            refine lv_istore (lv' := [(7, .int t_8), (0, .ref a_this), (1, .ref a_p1), (2, .ref a_p2), (3, .int y3), (5, .int x5_5), (6, .int x6_7)]) hx hb dX7_greatest_84 hl (by decide) rfl (fun ls hl => ?_)
            refine lv_iload hx hb dX7_greatest_86 (lv_at hl 6 rfl) ?_
            refine lv_iload hx hb dX7_greatest_88 (lv_at hl 0 rfl) ?_
            refine va_mmax hx hb (hl.1.symm ▸ S.1.2.2.1) S.1.2.2.2.1 (hts (.methodLink RX7 30 Lib.Math.max.name) (List.mem_of_getElem? (i := 6) rfl)) (hts (.static Lib.Math.max.name) (List.mem_of_getElem? (i := 7) rfl)) (hts (.initialized "java/lang/Math") (List.mem_of_getElem? (i := 8) rfl)) (hts (.code Lib.Math.max.name Lib.Math.max.code 2 (some .int)) (List.mem_of_getElem? (i := 9) rfl)) (Nat.le_of_ble_eq_true rfl) (Nat.le_of_ble_eq_true rfl) (Nat.zero_le _) (Nat.zero_le _) dX7_greatest_90 ?_
            refine lv_iload_n hx hb dX7_greatest_93 rfl (lv_at hl 4 rfl) ?_
            refine lv_iload hx hb dX7_greatest_94 (lv_at hl 5 rfl) ?_
            refine lv_ishr hx hb dX7_greatest_96 ?_
            refine lv_iconst (v := (1 : Int32)) hx hb dX7_greatest_97 (by decide) ?_
            refine lv_iand hx hb dX7_greatest_98 ?_
            refine lv_iconst (v := (1 : Int32)) hx hb dX7_greatest_99 (by decide) ?_
            obtain ⟨j111_1, ej111_1, h⟩ := bnd_ex h
            have hj111_1 : ∀ (t_9 : Int32) (t_10 : Int32) (H : Heap) (locs : List Loc) (ls : Array Slot), j111_1 t_9 t_10 = some (rr, o_upTo) → Wd D (tyA cI cJ cZ cS) A s [(a_p1, .inr (2, [.int i_p1_inputs, .int i_p1_gates, .int i_p1_paths, .ref a_p1_told, .ref a_p1_lefts, .ref a_p1_rights, .ref a_p1_nexts, .ref a_p1_starts, .ref a_p1_sizes, .ref a_p1_steps, .ref a_p1_links])), (a_this, .inr (7, [.ref a_upTo])), (a_p2, .inl (cI, 8, .inl k_p2)), (a_p1_lefts, .inl (cI, 8, .inl k_p1_lefts)), (a_upTo, .inl (cI, 18, .inl k_upTo_6)), (a_p1_rights, .inl (cI, 8, .inl k_p1_rights))] H locs → lv_has ls 8 [(0, .ref a_this), (1, .ref a_p1), (2, .ref a_p2), (3, .int y3), (5, .int x5_5)] → W p l e rmX7_greatest s m args below meth c H locs 0 0 Q (F0 m 111 ls [.int t_9, .int t_10]) := by
              intro t_9 t_10 H locs ls h hw hl
              replace h := ap2 ej111_1 h
              refine lv_iadd hx hb dX7_greatest_111 ?_
              refine lv_topi (fun x4_11 ex4_11 => ?_)
              replace h := bnd_at ex4_11 h
              refine lv_istore (lv' := [(4, .int x4_11), (0, .ref a_this), (1, .ref a_p1), (2, .ref a_p2), (3, .int y3), (5, .int x5_5)]) hx hb dX7_greatest_112 hl (by decide) rfl (fun ls hl => ?_)
              refine lv_aload_n hx hb dX7_greatest_114 rfl (lv_at hl 1 rfl) ?_
              refine z_get S hw F9 1 rfl rfl dX7_greatest_115 ?_
              refine lv_bipush (v := (10 : Int32)) hx hb dX7_greatest_118 (by decide) ?_
              refine lv_iload hx hb dX7_greatest_120 (lv_at hl 5 rfl) ?_
              refine lv_iadd hx hb dX7_greatest_122 ?_
              refine lv_iload hx hb dX7_greatest_123 (lv_at hl 0 rfl) ?_
              obtain ⟨hg, h⟩ := grd_el h
              obtain ⟨k_upTo_12, ek_upTo_12, h⟩ := bnd_ex h
              refine z_iast S hw ek_upTo_12 4 0 rfl rfl hg dX7_greatest_125 (fun H locs hw => ?_)
              obtain ⟨x5_13, ex5_13, h⟩ := bnd_ex h
              refine lv_iinc (v := x5_13) (lv' := [(5, .int x5_13), (4, .int x4_11), (0, .ref a_this), (1, .ref a_p1), (2, .ref a_p2), (3, .int y3)]) hx hb dX7_greatest_126 hl (k := 5) rfl (by rw [ex5_13]; rfl) (by decide) rfl (fun ls hl => ?_)
              refine lv_goto (tgt := 32) hx hb dX7_greatest_129 (by decide) ?_
              exact ih_32 x4_11 x5_13 k_upTo_12 H locs ls h hw (lv_sub hl [2, 3, 4, 5, 1, 0] rfl)
            refine lv_icmp_ne (tgt := 110) hx hb dX7_greatest_100 (by decide) (fun hc => ?_) (fun hc => ?_)
            · replace h := if_f hc h
              refine lv_iconst (v := (0 : Int32)) hx hb dX7_greatest_110 (by decide) ?_
              exact hj111_1 ((0 : Int32)) ((if x6_7 < t_8 then t_8 else x6_7)) H locs ls h hw (lv_sub hl [1, 2, 3, 4, 5] rfl)
            · replace h := if_t hc h
              refine lv_aload_n hx hb dX7_greatest_103 rfl (lv_at hl 3 rfl) ?_
              refine lv_iload hx hb dX7_greatest_104 (lv_at hl 5 rfl) ?_
              obtain ⟨hg, h⟩ := grd_el h
              refine z_iald S hw 2 0 rfl rfl hg dX7_greatest_106 ?_
              refine lv_goto (tgt := 111) hx hb dX7_greatest_107 (by decide) ?_
              exact hj111_1 ((k_p2 x5_5.toNatClampNeg)) ((if x6_7 < t_8 then t_8 else x6_7)) H locs ls h hw (lv_sub hl [1, 2, 3, 4, 5] rfl)
          refine lv_icmp_ne (tgt := 72) hx hb dX7_greatest_64 (by decide) (fun hc => ?_) (fun hc => ?_)
          · replace h := if_f hc h
            refine lv_aload_n hx hb dX7_greatest_72 rfl (lv_at hl 1 rfl) ?_
            refine z_get S hw F9 1 rfl rfl dX7_greatest_73 ?_
            refine lv_aload_n hx hb dX7_greatest_76 rfl (lv_at hl 2 rfl) ?_
            refine z_get S hw F27 0 rfl rfl dX7_greatest_77 ?_
            refine lv_iload hx hb dX7_greatest_80 (lv_at hl 6 rfl) ?_
            obtain ⟨hg, h⟩ := grd_el h
            refine z_iald S hw 5 0 rfl rfl hg dX7_greatest_82 ?_
            obtain ⟨hg, h⟩ := grd_el h
            refine z_iald S hw 4 0 rfl rfl hg dX7_greatest_83 ?_
            exact hj84_1 ((k_upTo_6 (k_p1_rights x5_5.toNatClampNeg).toNatClampNeg)) H locs ls h hw (lv_sub hl [1, 2, 3, 4, 6, 0] rfl)
          · replace h := if_t hc h
            refine lv_iload hx hb dX7_greatest_67 (lv_at hl 0 rfl) ?_
            refine lv_goto (tgt := 84) hx hb dX7_greatest_69 (by decide) ?_
            exact hj84_1 x6_7 H locs ls h hw (lv_sub hl [1, 2, 3, 4, 6, 0] rfl)
    exact hL32_1 N ((0 : Int32)) ((0 : Int32)) k_upTo_1 H locs ls h hw (lv_sub hl [2, 3, 4, 5, 1, 0] rfl)
  have hL3_1 : ∀ (nf : Nat) (x4_14 : Int32) (k_upTo_15 : (Nat → Int32)) (H : Heap) (locs : List Loc) (ls : Array Slot), f_X7_greatest_L3 N i_p1_inputs j26_1 nf x4_14 k_upTo_15 = some (rr, o_upTo) → Wd D (tyA cI cJ cZ cS) A s [(a_p1, .inr (2, [.int i_p1_inputs, .int i_p1_gates, .int i_p1_paths, .ref a_p1_told, .ref a_p1_lefts, .ref a_p1_rights, .ref a_p1_nexts, .ref a_p1_starts, .ref a_p1_sizes, .ref a_p1_steps, .ref a_p1_links])), (a_this, .inr (7, [.ref a_upTo])), (a_p2, .inl (cI, 8, .inl k_p2)), (a_p1_lefts, .inl (cI, 8, .inl k_p1_lefts)), (a_upTo, .inl (cI, 18, .inl k_upTo_15)), (a_p1_rights, .inl (cI, 8, .inl k_p1_rights))] H locs → lv_has ls 8 [(0, .ref a_this), (1, .ref a_p1), (2, .ref a_p2), (3, .int y3), (4, .int x4_14)] → W p l e rmX7_greatest s m args below meth c H locs 0 0 Q (F0 m 3 ls []) := by
    intro nf
    induction nf with
    | zero =>
      intro x4_14 k_upTo_15 H locs ls h
      rw [f_X7_greatest_L3] at h
      cases h
    | succ n_3 ih_3 =>
      intro x4_14 k_upTo_15 H locs ls h hw hl
      rw [f_X7_greatest_L3] at h
      refine lv_iload hx hb dX7_greatest_3 (lv_at hl 4 rfl) ?_
      refine lv_aload_n hx hb dX7_greatest_5 rfl (lv_at hl 1 rfl) ?_
      refine z_get S hw F15 0 rfl rfl dX7_greatest_6 ?_
      refine lv_icmp_ge (tgt := 26) hx hb dX7_greatest_9 (by decide) (fun hc => ?_) (fun hc => ?_)
      · replace h := if_t hc h
        exact hj26_1 k_upTo_15 H locs ls h hw (lv_sub hl [0, 1, 2, 3] rfl)
      · replace h := if_f hc h
        refine lv_aload_n hx hb dX7_greatest_12 rfl (lv_at hl 0 rfl) ?_
        refine z_get S hw F9 1 rfl rfl dX7_greatest_13 ?_
        refine lv_iload hx hb dX7_greatest_16 (lv_at hl 4 rfl) ?_
        refine lv_iconst (v := (0 : Int32)) hx hb dX7_greatest_18 (by decide) ?_
        obtain ⟨hg, h⟩ := grd_el h
        obtain ⟨k_upTo_16, ek_upTo_16, h⟩ := bnd_ex h
        refine z_iast S hw ek_upTo_16 4 0 rfl rfl hg dX7_greatest_19 (fun H locs hw => ?_)
        obtain ⟨x4_17, ex4_17, h⟩ := bnd_ex h
        refine lv_iinc (v := x4_17) (lv' := [(4, .int x4_17), (0, .ref a_this), (1, .ref a_p1), (2, .ref a_p2), (3, .int y3)]) hx hb dX7_greatest_20 hl (k := 4) rfl (by rw [ex4_17]; rfl) (by decide) rfl (fun ls hl => ?_)
        refine lv_goto (tgt := 3) hx hb dX7_greatest_23 (by decide) ?_
        exact ih_3 x4_17 k_upTo_16 H locs ls h hw (lv_sub hl [1, 2, 3, 4, 0] rfl)
  exact hL3_1 N ((0 : Int32)) k_upTo H locs ls h hw (lv_sub hl [1, 2, 3, 4, 0] rfl)
