abbrev rmX10_late : Room := { frames := 5, cells := 0, slots := 0, locals := 118 }
theorem dv_X10_late : yX10_late.cls = RX10 ∧ yX10_late.cls ≠ "java/lang/invoke/MethodHandle" ∧ yX10_late.cls ≠ "java/lang/invoke/VarHandle" ∧ (parseMethodDescriptor yX10_late.desc).map (fun d => d.parameters.length) = some 2 := by decide +kernel
noncomputable def f_X10_late (N : Nat) (y1 : Int32) (y2 : Int32) (i_this_inputs : Int32) (i_this_gates : Int32) (k_now : (Nat → Int32)) (k_other : (Nat → Int32)) (k_one : (Nat → Int32)) (k_before : (Nat → Int32)) (k_after : (Nat → Int32)) (k_values : (Nat → Int32)) (k_waves : (Nat → Int32)) : Option (Int32 × (Nat → Int32) × (Nat → Int32) × (Nat → Int32) × (Nat → Int32)) :=
  obd1 (f_X10_isPair N y1 i_this_inputs) fun (r_1 : Int32) => (if r_1 = (0 : Int32) then (some ((-2 : Int32), k_before, k_after, k_values, k_waves)) else (obd1 (f_X10_in N (y2.toInt64) (0 : Int64) (99 : Int64)) fun (r_2 : Int32) => (if r_2 = (0 : Int32) then (some ((-2 : Int32), k_before, k_after, k_values, k_waves)) else ((if i_this_gates = (0 : Int32) then (some ((-3 : Int32), k_before, k_after, k_values, k_waves)) else (obd5 (f_X10_isLate N (0 : Int32) y1 y2 i_this_inputs i_this_gates k_now k_other k_one k_before k_after k_values k_waves) fun (r_3 : Int32) (k_before_4 : (Nat → Int32)) (k_after_5 : (Nat → Int32)) (k_values_6 : (Nat → Int32)) (k_waves_7 : (Nat → Int32)) => (if r_3 = (0 : Int32) then (some ((0 : Int32), k_before_4, k_after_5, k_values_6, k_waves_7)) else (some ((1 : Int32), k_before_4, k_after_5, k_values_6, k_waves_7)))))))))
set_option maxHeartbeats 4000000 in
set_option maxRecDepth 100000 in
theorem c_X10_late (l : Launch) (D : va_G) (cI cJ cZ cS : ClassId) (sz N : Nat) (a_this a_now a_other a_one a_before a_after a_values a_waves a_next a_readOne a_readOther a_readNext a_text a_pathInput a_pathGates a_taken a_row a_seenPair a_seenTime a_seenLate a_isKept a_kept : Nat) (i_this_inputs : Int32) (i_this_gates : Int32) (i_this_readInputs : Int32) (i_this_readGates : Int32) (i_this_length : Int32) (i_this_paths : Int32) (i_this_acts : Int32) (i_this_turn : Int32) (i_this_seen : Int32) (i_this_seed : Int64) (k_now : (Nat → Int32)) (k_other : (Nat → Int32)) (k_one : (Nat → Int32)) (k_before : (Nat → Int32)) (k_after : (Nat → Int32)) (k_values : (Nat → Int32)) (k_waves : (Nat → Int32)) (y1 : Int32) (y2 : Int32) (rr : Int32) (o_before : (Nat → Int32)) (o_after : (Nat → Int32)) (o_values : (Nat → Int32)) (o_waves : (Nat → Int32)) (hf : f_X10_late N y1 y2 i_this_inputs i_this_gates k_now k_other k_one k_before k_after k_values k_waves = some (rr, o_before, o_after, o_values, o_waves)) : MetI l yX10_late wsX10_late rmX10_late D (tyA cI cJ cZ cS) [(a_this, .inr (10, [.int i_this_inputs, .int i_this_gates, .ref a_now, .ref a_one, .ref a_other, .ref a_next, .int i_this_readInputs, .int i_this_readGates, .ref a_readOne, .ref a_readOther, .ref a_readNext, .ref a_text, .int i_this_length, .int i_this_paths, .ref a_pathInput, .ref a_pathGates, .ref a_before, .ref a_after, .ref a_values, .ref a_taken, .ref a_waves, .int i_this_acts, .int i_this_turn, .ref a_row, .int i_this_seen, .ref a_seenPair, .ref a_seenTime, .ref a_seenLate, .long i_this_seed, .ref a_isKept, .ref a_kept])), (a_now, .inl (cI, 32, .inl k_now)), (a_other, .inl (cI, 8, .inl k_other)), (a_one, .inl (cI, 8, .inl k_one)), (a_before, .inl (cI, 12, .inl k_before)), (a_after, .inl (cI, 12, .inl k_after)), (a_values, .inl (cI, 12, .inl k_values)), (a_waves, .inl (cI, 1200, .inl k_waves))] sz [.ref a_this, .int y1, .int y2] rr [(a_this, .inr (10, [.int i_this_inputs, .int i_this_gates, .ref a_now, .ref a_one, .ref a_other, .ref a_next, .int i_this_readInputs, .int i_this_readGates, .ref a_readOne, .ref a_readOther, .ref a_readNext, .ref a_text, .int i_this_length, .int i_this_paths, .ref a_pathInput, .ref a_pathGates, .ref a_before, .ref a_after, .ref a_values, .ref a_taken, .ref a_waves, .int i_this_acts, .int i_this_turn, .ref a_row, .int i_this_seen, .ref a_seenPair, .ref a_seenTime, .ref a_seenLate, .long i_this_seed, .ref a_isKept, .ref a_kept])), (a_now, .inl (cI, 32, .inl k_now)), (a_other, .inl (cI, 8, .inl k_other)), (a_one, .inl (cI, 8, .inl k_one)), (a_before, .inl (cI, 12, .inl o_before)), (a_after, .inl (cI, 12, .inl o_after)), (a_values, .inl (cI, 12, .inl o_values)), (a_waves, .inl (cI, 1200, .inl o_waves))] := by
  refine entI (cc := cX10_late) (maxL := 3) (own := RX10) (by decide) rfl rfl (Nat.le_of_ble_eq_true rfl) ?_
  intro p e s m args below meth c A ls Q H locs S hr hw hl hQ
  have hx := S.1.1
  have hb := S.1.2.1
  have hts := S.1.2.2.2.2
  have hl : lv_has ls 3 [(0, .ref a_this), (1, .int y1), (2, .int y2)] := hl
  have hinX10 : ∀ w ∈ u_ws RX10 TX10 31, w ∈ wsX10_late := (fun _ h => List.mem_cons_of_mem _ (List.mem_append_right _ h))
  have F115 : FLk s args wsX10_late RX10 115 RX10 TX10 31 10 1 := ⟨hinX10, rfl, by decide, hts (.fieldLink RX10 115 "SlowPathsModel" "gates" "I") (List.mem_of_getElem? (i := 2) rfl)⟩
  have h := hf
  rw [f_X10_late] at h
  refine lv_aload_n hx hb dX10_late_0 rfl (lv_at hl 0 rfl) ?_
  refine lv_iload_n hx hb dX10_late_1 rfl (lv_at hl 1 rfl) ?_
  obtain ⟨r_1, e2_1, h⟩ := obd1_el h
  refine zr_VI (As := [.int y1]) (rest := []) (q0 := 0) S hw (c_X10_isPair l D cI cJ cZ cS H.size N a_this a_now a_one a_other a_next a_readOne a_readOther a_readNext a_text a_pathInput a_pathGates a_before a_after a_values a_taken a_waves a_row a_seenPair a_seenTime a_seenLate a_isKept a_kept i_this_inputs i_this_gates i_this_readInputs i_this_readGates i_this_length i_this_paths i_this_acts i_this_turn i_this_seen i_this_seed y1 r_1 e2_1) (cwV 1 hts gX10_late_X10_isPair rfl rfl rfl dv_X10_isPair ⟨Nat.le_of_ble_eq_true rfl, Nat.le_of_ble_eq_true rfl⟩) [0] rfl rfl rfl rfl rfl rfl hl.1 rfl (Nat.le_of_ble_eq_true rfl) dX10_late_2 ⟨Nat.zero_le _, Nat.zero_le _⟩ ?_
  refine lv_if_eq (tgt := 20) hx hb dX10_late_5 (by decide) (fun hc => ?_) (fun hc => ?_)
  · replace h := if_t hc h
    refine lv_bipush (v := (-2 : Int32)) hx hb dX10_late_20 (by decide) ?_
    cases h
    exact z_iret S hQ hr hw [0, 1, 2, 3, 4, 5, 6, 7] rfl rfl dX10_late_22
  · replace h := if_f hc h
    refine lv_iload_n hx hb dX10_late_8 rfl (lv_at hl 2 rfl) ?_
    refine lv_i2l hx hb dX10_late_9 rfl ?_
    refine lv_lconst (v := (0 : Int64)) hx hb dX10_late_10 (by decide) ?_
    refine lv_ldc2 (v := (99 : Int64)) hx hb S.1.2.2.2.1 (hts (.constantLong RX10 208 (99)) (List.mem_of_getElem? (i := 1) rfl)) dX10_late_11 ?_
    obtain ⟨r_2, e14_1, h⟩ := obd1_el h
    refine zr_SI (As := [.long (y2.toInt64), .long (0 : Int64), .long (99 : Int64)]) (rest := []) (q0 := 0) (ci := 0) (fs := []) (qc := (RX0, TX0, 4)) S hw (c_X10_in l D cI cJ cZ cS H.size N (y2.toInt64) (0 : Int64) (99 : Int64) r_2 e14_1) (va_cwS 3 hts gX10_late_X10_in rfl rfl rfl ds_X10_in ⟨Nat.le_of_ble_eq_true rfl, Nat.le_of_ble_eq_true rfl⟩) [] rfl rfl rfl hl.1 rfl (Nat.le_of_ble_eq_true rfl) dX10_late_14 ⟨Nat.zero_le _, Nat.zero_le _⟩ ?_
    refine lv_if_ne (tgt := 23) hx hb dX10_late_17 (by decide) (fun hc => ?_) (fun hc => ?_)
    · replace h := if_f hc h
      refine lv_aload_n hx hb dX10_late_23 rfl (lv_at hl 0 rfl) ?_
      refine z_get S hw F115 0 rfl rfl dX10_late_24 ?_
      refine lv_if_ne (tgt := 33) hx hb dX10_late_27 (by decide) (fun hc => ?_) (fun hc => ?_)
      · replace h := if_f hc h
        refine lv_aload_n hx hb dX10_late_33 rfl (lv_at hl 0 rfl) ?_
        refine lv_iconst (v := (0 : Int32)) hx hb dX10_late_34 (by decide) ?_
        refine lv_iload_n hx hb dX10_late_35 rfl (lv_at hl 1 rfl) ?_
        refine lv_iload_n hx hb dX10_late_36 rfl (lv_at hl 2 rfl) ?_
        obtain ⟨r_3, k_before_4, k_after_5, k_values_6, k_waves_7, e37_1, h⟩ := obd5_el h
        refine zc_VI (As := [.int (0 : Int32), .int y1, .int y2]) (rest := []) (wr := []) (q0 := 0) S hw (c_X10_isLate l D cI cJ cZ cS H.size N a_this a_now a_other a_one a_before a_after a_values a_waves a_next a_readOne a_readOther a_readNext a_text a_pathInput a_pathGates a_taken a_row a_seenPair a_seenTime a_seenLate a_isKept a_kept i_this_inputs i_this_gates i_this_readInputs i_this_readGates i_this_length i_this_paths i_this_acts i_this_turn i_this_seen i_this_seed k_now k_other k_one k_before k_after k_values k_waves (0 : Int32) y1 y2 r_3 k_before_4 k_after_5 k_values_6 k_waves_7 e37_1) (cwV 3 hts gX10_late_X10_isLate rfl rfl rfl dv_X10_isLate ⟨Nat.le_of_ble_eq_true rfl, Nat.le_of_ble_eq_true rfl⟩) [0, 1, 2, 3, 4, 5, 6, 7] [] rfl rfl rfl rfl (by decide) rfl rfl rfl rfl hl.1 rfl (Nat.le_of_ble_eq_true rfl) dX10_late_37 ⟨Nat.zero_le _, Nat.zero_le _⟩ (fun H locs hw => ?_)
        refine lv_if_eq (tgt := 47) hx hb dX10_late_40 (by decide) (fun hc => ?_) (fun hc => ?_)
        · replace h := if_t hc h
          refine lv_iconst (v := (0 : Int32)) hx hb dX10_late_47 (by decide) ?_
          cases h
          exact z_iret S hQ hr hw [0, 1, 2, 3, 4, 5, 6, 7] rfl rfl dX10_late_48
        · replace h := if_f hc h
          refine lv_iconst (v := (1 : Int32)) hx hb dX10_late_43 (by decide) ?_
          refine lv_goto (tgt := 48) hx hb dX10_late_44 (by decide) ?_
          cases h
          exact z_iret S hQ hr hw [0, 1, 2, 3, 4, 5, 6, 7] rfl rfl dX10_late_48
      · replace h := if_t hc h
        refine lv_bipush (v := (-3 : Int32)) hx hb dX10_late_30 (by decide) ?_
        cases h
        exact z_iret S hQ hr hw [0, 1, 2, 3, 4, 5, 6, 7] rfl rfl dX10_late_32
    · replace h := if_t hc h
      refine lv_bipush (v := (-2 : Int32)) hx hb dX10_late_20 (by decide) ?_
      cases h
      exact z_iret S hQ hr hw [0, 1, 2, 3, 4, 5, 6, 7] rfl rfl dX10_late_22
abbrev rmX10_keepAct : Room := { frames := 0, cells := 0, slots := 0, locals := 0 }
theorem dv_X10_keepAct : yX10_keepAct.cls = RX10 ∧ yX10_keepAct.cls ≠ "java/lang/invoke/MethodHandle" ∧ yX10_keepAct.cls ≠ "java/lang/invoke/VarHandle" ∧ (parseMethodDescriptor yX10_keepAct.desc).map (fun d => d.parameters.length) = some 0 := by decide +kernel
noncomputable def f_X10_keepAct_L2 (N : Nat) (i_this_turn : Int32) (k_now : (Nat → Int32)) (j34_1 : (Nat → Int32) → Option (Int32 × Int32 × (Nat → Int32))) : Nat → Int32 → (Nat → Int32) → Option (Int32 × Int32 × (Nat → Int32))
  | 0, _, _ => none
  | n_2 + 1, x1_4, k_row_5 =>
    (if (16 : Int32) ≤ x1_4 then (j34_1 k_row_5) else (grd (inb x1_4 32) <| grd (inb (((16 : Int32) * i_this_turn) + x1_4) 224) <| bnd (upd k_row_5 (((16 : Int32) * i_this_turn) + x1_4).toNatClampNeg (k_now x1_4.toNatClampNeg)) fun (k_row_6 : (Nat → Int32)) => bnd (x1_4 + (1 : Int32)) fun (x1_7 : Int32) => f_X10_keepAct_L2 N i_this_turn k_now j34_1 n_2 x1_7 k_row_6))
noncomputable def f_X10_keepAct (N : Nat)  (i_this_acts : Int32) (i_this_turn : Int32) (k_now : (Nat → Int32)) (k_row : (Nat → Int32)) : Option (Int32 × Int32 × (Nat → Int32)) :=
  bnd (fun (k_row_1 : (Nat → Int32)) => (bnd (((i_this_turn + (1 : Int32)) - (i_this_turn + (1 : Int32)) / (14 : Int32) * (14 : Int32))) fun (i_turn_2 : Int32) => bnd (fun (t_3 : Int32) => (some (t_3, i_turn_2, k_row_1))) fun (j68_1 : Int32 → Option (Int32 × Int32 × (Nat → Int32))) => (if (14 : Int32) ≤ i_this_acts then (j68_1 ((14 : Int32))) else (j68_1 ((i_this_acts + (1 : Int32))))))) fun (j34_1 : (Nat → Int32) → Option (Int32 × Int32 × (Nat → Int32))) => f_X10_keepAct_L2 N i_this_turn k_now j34_1 N ((0 : Int32)) k_row
set_option maxHeartbeats 4000000 in
set_option maxRecDepth 100000 in
theorem c_X10_keepAct (l : Launch) (D : va_G) (cI cJ cZ cS : ClassId) (sz N : Nat) (a_this a_now a_row a_one a_other a_next a_readOne a_readOther a_readNext a_text a_pathInput a_pathGates a_before a_after a_values a_taken a_waves a_seenPair a_seenTime a_seenLate a_isKept a_kept : Nat) (i_this_inputs : Int32) (i_this_gates : Int32) (i_this_readInputs : Int32) (i_this_readGates : Int32) (i_this_length : Int32) (i_this_paths : Int32) (i_this_acts : Int32) (i_this_turn : Int32) (i_this_seen : Int32) (i_this_seed : Int64) (k_now : (Nat → Int32)) (k_row : (Nat → Int32))  (o_this_acts : Int32) (o_this_turn : Int32) (o_row : (Nat → Int32)) (hf : f_X10_keepAct N i_this_acts i_this_turn k_now k_row = some (o_this_acts, o_this_turn, o_row)) : MetV l yX10_keepAct wsX10_keepAct rmX10_keepAct D (tyA cI cJ cZ cS) [(a_this, .inr (10, [.int i_this_inputs, .int i_this_gates, .ref a_now, .ref a_one, .ref a_other, .ref a_next, .int i_this_readInputs, .int i_this_readGates, .ref a_readOne, .ref a_readOther, .ref a_readNext, .ref a_text, .int i_this_length, .int i_this_paths, .ref a_pathInput, .ref a_pathGates, .ref a_before, .ref a_after, .ref a_values, .ref a_taken, .ref a_waves, .int i_this_acts, .int i_this_turn, .ref a_row, .int i_this_seen, .ref a_seenPair, .ref a_seenTime, .ref a_seenLate, .long i_this_seed, .ref a_isKept, .ref a_kept])), (a_now, .inl (cI, 32, .inl k_now)), (a_row, .inl (cI, 224, .inl k_row))] sz [.ref a_this] [(a_this, .inr (10, [.int i_this_inputs, .int i_this_gates, .ref a_now, .ref a_one, .ref a_other, .ref a_next, .int i_this_readInputs, .int i_this_readGates, .ref a_readOne, .ref a_readOther, .ref a_readNext, .ref a_text, .int i_this_length, .int i_this_paths, .ref a_pathInput, .ref a_pathGates, .ref a_before, .ref a_after, .ref a_values, .ref a_taken, .ref a_waves, .int o_this_acts, .int o_this_turn, .ref a_row, .int i_this_seen, .ref a_seenPair, .ref a_seenTime, .ref a_seenLate, .long i_this_seed, .ref a_isKept, .ref a_kept])), (a_now, .inl (cI, 32, .inl k_now)), (a_row, .inl (cI, 224, .inl o_row))] := by
  refine entV (cc := cX10_keepAct) (maxL := 2) (own := RX10) (by decide) rfl rfl (Nat.le_of_ble_eq_true rfl) ?_
  intro p e s m args below meth c A ls Q H locs S hr hw hl hQ
  have hx := S.1.1
  have hb := S.1.2.1
  have hts := S.1.2.2.2.2
  have hl : lv_has ls 2 [(0, .ref a_this)] := hl
  have hinX10 : ∀ w ∈ u_ws RX10 TX10 31, w ∈ wsX10_keepAct := (fun _ h => List.mem_cons_of_mem _ (List.mem_append_right _ h))
  have F7 : FLk s args wsX10_keepAct RX10 7 RX10 TX10 31 10 2 := ⟨hinX10, rfl, by decide, hts (.fieldLink RX10 7 "SlowPathsModel" "now" "[I") (List.mem_of_getElem? (i := 3) rfl)⟩
  have F55 : FLk s args wsX10_keepAct RX10 55 RX10 TX10 31 10 23 := ⟨hinX10, rfl, by decide, hts (.fieldLink RX10 55 "SlowPathsModel" "row" "[I") (List.mem_of_getElem? (i := 1) rfl)⟩
  have F118 : FLk s args wsX10_keepAct RX10 118 RX10 TX10 31 10 21 := ⟨hinX10, rfl, by decide, hts (.fieldLink RX10 118 "SlowPathsModel" "acts" "I") (List.mem_of_getElem? (i := 4) rfl)⟩
  have F217 : FLk s args wsX10_keepAct RX10 217 RX10 TX10 31 10 22 := ⟨hinX10, rfl, by decide, hts (.fieldLink RX10 217 "SlowPathsModel" "turn" "I") (List.mem_of_getElem? (i := 2) rfl)⟩
  have P118 : PLk TX10 31 21 tyX10 false .int := ⟨tyX10_ok, nmX10, rfl, rfl⟩
  have P217 : PLk TX10 31 22 tyX10 false .int := ⟨tyX10_ok, nmX10, rfl, rfl⟩
  have h := hf
  rw [f_X10_keepAct] at h
  refine lv_iconst (v := (0 : Int32)) hx hb dX10_keepAct_0 (by decide) ?_
  refine lv_istore_n (lv' := [(1, .int (0 : Int32)), (0, .ref a_this)]) hx hb dX10_keepAct_1 rfl hl (by decide) rfl (fun ls hl => ?_)
  obtain ⟨j34_1, ej34_1, h⟩ := bnd_ex h
  have hj34_1 : ∀ (k_row_1 : (Nat → Int32)) (H : Heap) (locs : List Loc) (ls : Array Slot), j34_1 k_row_1 = some (o_this_acts, o_this_turn, o_row) → Wd D (tyA cI cJ cZ cS) A s [(a_this, .inr (10, [.int i_this_inputs, .int i_this_gates, .ref a_now, .ref a_one, .ref a_other, .ref a_next, .int i_this_readInputs, .int i_this_readGates, .ref a_readOne, .ref a_readOther, .ref a_readNext, .ref a_text, .int i_this_length, .int i_this_paths, .ref a_pathInput, .ref a_pathGates, .ref a_before, .ref a_after, .ref a_values, .ref a_taken, .ref a_waves, .int i_this_acts, .int i_this_turn, .ref a_row, .int i_this_seen, .ref a_seenPair, .ref a_seenTime, .ref a_seenLate, .long i_this_seed, .ref a_isKept, .ref a_kept])), (a_now, .inl (cI, 32, .inl k_now)), (a_row, .inl (cI, 224, .inl k_row_1))] H locs → lv_has ls 2 [(0, .ref a_this)] → W p l e rmX10_keepAct s m args below meth c H locs 0 0 Q (F0 m 34 ls []) := by
    intro k_row_1 H locs ls h hw hl
    replace h := ap1 ej34_1 h
    refine lv_aload_n hx hb dX10_keepAct_34 rfl (lv_at hl 0 rfl) ?_
    refine lv_aload_n hx hb dX10_keepAct_35 rfl (lv_at hl 0 rfl) ?_
    refine z_get S hw F217 0 rfl rfl dX10_keepAct_36 ?_
    refine lv_iconst (v := (1 : Int32)) hx hb dX10_keepAct_39 (by decide) ?_
    refine lv_iadd hx hb dX10_keepAct_40 ?_
    refine lv_bipush (v := (14 : Int32)) hx hb dX10_keepAct_41 (by decide) ?_
    refine lv_irem hx hb dX10_keepAct_43 (by decide) ?_
    refine lv_topi (fun i_turn_2 ei_turn_2 => ?_)
    replace h := bnd_at ei_turn_2 h
    refine z_put S hw F217 P217 rfl rfl 0 rfl (Nat.le_of_ble_eq_true rfl) dX10_keepAct_44 (fun H locs hw => ?_)
    refine lv_aload_n hx hb dX10_keepAct_47 rfl (lv_at hl 0 rfl) ?_
    refine lv_aload_n hx hb dX10_keepAct_48 rfl (lv_at hl 0 rfl) ?_
    refine z_get S hw F118 0 rfl rfl dX10_keepAct_49 ?_
    refine lv_bipush (v := (14 : Int32)) hx hb dX10_keepAct_52 (by decide) ?_
    obtain ⟨j68_1, ej68_1, h⟩ := bnd_ex h
    have hj68_1 : ∀ (t_3 : Int32) (H : Heap) (locs : List Loc) (ls : Array Slot), j68_1 t_3 = some (o_this_acts, o_this_turn, o_row) → Wd D (tyA cI cJ cZ cS) A s [(a_this, .inr (10, [.int i_this_inputs, .int i_this_gates, .ref a_now, .ref a_one, .ref a_other, .ref a_next, .int i_this_readInputs, .int i_this_readGates, .ref a_readOne, .ref a_readOther, .ref a_readNext, .ref a_text, .int i_this_length, .int i_this_paths, .ref a_pathInput, .ref a_pathGates, .ref a_before, .ref a_after, .ref a_values, .ref a_taken, .ref a_waves, .int i_this_acts, .int i_turn_2, .ref a_row, .int i_this_seen, .ref a_seenPair, .ref a_seenTime, .ref a_seenLate, .long i_this_seed, .ref a_isKept, .ref a_kept])), (a_now, .inl (cI, 32, .inl k_now)), (a_row, .inl (cI, 224, .inl k_row_1))] H locs → lv_has ls 2 [] → W p l e rmX10_keepAct s m args below meth c H locs 0 0 Q (F0 m 68 ls [.int t_3, .ref a_this]) := by
      intro t_3 H locs ls h hw hl
      replace h := ap1 ej68_1 h
      refine z_put S hw F118 P118 rfl rfl 0 rfl (Nat.le_of_ble_eq_true rfl) dX10_keepAct_68 (fun H locs hw => ?_)
      cases h
      exact z_vret S hQ hr hw [0, 1, 2] rfl rfl dX10_keepAct_71
    refine lv_icmp_ge (tgt := 66) hx hb dX10_keepAct_54 (by decide) (fun hc => ?_) (fun hc => ?_)
    · replace h := if_t hc h
      refine lv_bipush (v := (14 : Int32)) hx hb dX10_keepAct_66 (by decide) ?_
      exact hj68_1 ((14 : Int32)) H locs ls h hw (lv_sub hl [] rfl)
    · replace h := if_f hc h
      refine lv_aload_n hx hb dX10_keepAct_57 rfl (lv_at hl 0 rfl) ?_
      refine z_get S hw F118 0 rfl rfl dX10_keepAct_58 ?_
      refine lv_iconst (v := (1 : Int32)) hx hb dX10_keepAct_61 (by decide) ?_
      refine lv_iadd hx hb dX10_keepAct_62 ?_
      refine lv_goto (tgt := 68) hx hb dX10_keepAct_63 (by decide) ?_
      exact hj68_1 ((i_this_acts + (1 : Int32))) H locs ls h hw (lv_sub hl [] rfl)
  have hL2_1 : ∀ (nf : Nat) (x1_4 : Int32) (k_row_5 : (Nat → Int32)) (H : Heap) (locs : List Loc) (ls : Array Slot), f_X10_keepAct_L2 N i_this_turn k_now j34_1 nf x1_4 k_row_5 = some (o_this_acts, o_this_turn, o_row) → Wd D (tyA cI cJ cZ cS) A s [(a_this, .inr (10, [.int i_this_inputs, .int i_this_gates, .ref a_now, .ref a_one, .ref a_other, .ref a_next, .int i_this_readInputs, .int i_this_readGates, .ref a_readOne, .ref a_readOther, .ref a_readNext, .ref a_text, .int i_this_length, .int i_this_paths, .ref a_pathInput, .ref a_pathGates, .ref a_before, .ref a_after, .ref a_values, .ref a_taken, .ref a_waves, .int i_this_acts, .int i_this_turn, .ref a_row, .int i_this_seen, .ref a_seenPair, .ref a_seenTime, .ref a_seenLate, .long i_this_seed, .ref a_isKept, .ref a_kept])), (a_now, .inl (cI, 32, .inl k_now)), (a_row, .inl (cI, 224, .inl k_row_5))] H locs → lv_has ls 2 [(0, .ref a_this), (1, .int x1_4)] → W p l e rmX10_keepAct s m args below meth c H locs 0 0 Q (F0 m 2 ls []) := by
    intro nf
    induction nf with
    | zero =>
      intro x1_4 k_row_5 H locs ls h
      rw [f_X10_keepAct_L2] at h
      cases h
    | succ n_2 ih_2 =>
      intro x1_4 k_row_5 H locs ls h hw hl
      rw [f_X10_keepAct_L2] at h
      refine lv_iload_n hx hb dX10_keepAct_2 rfl (lv_at hl 1 rfl) ?_
      refine lv_bipush (v := (16 : Int32)) hx hb dX10_keepAct_3 (by decide) ?_
      refine lv_icmp_ge (tgt := 34) hx hb dX10_keepAct_5 (by decide) (fun hc => ?_) (fun hc => ?_)
      · replace h := if_t hc h
        exact hj34_1 k_row_5 H locs ls h hw (lv_sub hl [0] rfl)
      · replace h := if_f hc h
        refine lv_aload_n hx hb dX10_keepAct_8 rfl (lv_at hl 0 rfl) ?_
        refine z_get S hw F55 0 rfl rfl dX10_keepAct_9 ?_
        refine lv_bipush (v := (16 : Int32)) hx hb dX10_keepAct_12 (by decide) ?_
        refine lv_aload_n hx hb dX10_keepAct_14 rfl (lv_at hl 0 rfl) ?_
        refine z_get S hw F217 0 rfl rfl dX10_keepAct_15 ?_
        refine lv_imul hx hb dX10_keepAct_18 ?_
        refine lv_iload_n hx hb dX10_keepAct_19 rfl (lv_at hl 1 rfl) ?_
        refine lv_iadd hx hb dX10_keepAct_20 ?_
        refine lv_aload_n hx hb dX10_keepAct_21 rfl (lv_at hl 0 rfl) ?_
        refine z_get S hw F7 0 rfl rfl dX10_keepAct_22 ?_
        refine lv_iload_n hx hb dX10_keepAct_25 rfl (lv_at hl 1 rfl) ?_
        obtain ⟨hg, h⟩ := grd_el h
        refine z_iald S hw 1 0 rfl rfl hg dX10_keepAct_26 ?_
        obtain ⟨hg, h⟩ := grd_el h
        obtain ⟨k_row_6, ek_row_6, h⟩ := bnd_ex h
        refine z_iast S hw ek_row_6 2 0 rfl rfl hg dX10_keepAct_27 (fun H locs hw => ?_)
        obtain ⟨x1_7, ex1_7, h⟩ := bnd_ex h
        refine lv_iinc (v := x1_7) (lv' := [(1, .int x1_7), (0, .ref a_this)]) hx hb dX10_keepAct_28 hl (k := 1) rfl (by rw [ex1_7]; rfl) (by decide) rfl (fun ls hl => ?_)
        refine lv_goto (tgt := 2) hx hb dX10_keepAct_31 (by decide) ?_
        exact ih_2 x1_7 k_row_6 H locs ls h hw (lv_sub hl [1, 0] rfl)
  exact hL2_1 N ((0 : Int32)) k_row H locs ls h hw (lv_sub hl [1, 0] rfl)
abbrev rmX10_slow : Room := { frames := 2, cells := 0, slots := 0, locals := 46 }
theorem dv_X10_slow : yX10_slow.cls = RX10 ∧ yX10_slow.cls ≠ "java/lang/invoke/MethodHandle" ∧ yX10_slow.cls ≠ "java/lang/invoke/VarHandle" ∧ (parseMethodDescriptor yX10_slow.desc).map (fun d => d.parameters.length) = some 2 := by decide +kernel
noncomputable def f_X10_slow (N : Nat) (y1 : Int32) (y2 : Int32) (i_this_gates : Int32) (i_this_acts : Int32) (i_this_turn : Int32) (k_now : (Nat → Int32)) (k_row : (Nat → Int32)) : Option (Int32 × Int32 × Int32 × (Nat → Int32) × (Nat → Int32)) :=
  obd1 (f_X10_isGate N y1 i_this_gates) fun (r_1 : Int32) => (if r_1 = (0 : Int32) then (some ((-1 : Int32), i_this_acts, i_this_turn, k_now, k_row)) else (obd1 (f_X10_in N (y2.toInt64) (1 : Int64) (9 : Int64)) fun (r_2 : Int32) => (if r_2 = (0 : Int32) then (some ((-2 : Int32), i_this_acts, i_this_turn, k_now, k_row)) else (obd3 (f_X10_keepAct N i_this_acts i_this_turn k_now k_row) fun (i_this_acts_3 : Int32) (i_this_turn_4 : Int32) (k_row_5 : (Nat → Int32)) => grd (inb ((8 : Int32) + y1) 32) <| bnd ((k_now ((8 : Int32) + y1).toNatClampNeg)) fun (x3_6 : Int32) => grd (inb ((8 : Int32) + y1) 32) <| bnd (upd k_now ((8 : Int32) + y1).toNatClampNeg y2) fun (k_now_7 : (Nat → Int32)) => some (x3_6, i_this_acts_3, i_this_turn_4, k_now_7, k_row_5)))))
set_option maxHeartbeats 4000000 in
set_option maxRecDepth 100000 in
theorem c_X10_slow (l : Launch) (D : va_G) (cI cJ cZ cS : ClassId) (sz N : Nat) (a_this a_now a_row a_one a_other a_next a_readOne a_readOther a_readNext a_text a_pathInput a_pathGates a_before a_after a_values a_taken a_waves a_seenPair a_seenTime a_seenLate a_isKept a_kept : Nat) (i_this_inputs : Int32) (i_this_gates : Int32) (i_this_readInputs : Int32) (i_this_readGates : Int32) (i_this_length : Int32) (i_this_paths : Int32) (i_this_acts : Int32) (i_this_turn : Int32) (i_this_seen : Int32) (i_this_seed : Int64) (k_now : (Nat → Int32)) (k_row : (Nat → Int32)) (y1 : Int32) (y2 : Int32) (rr : Int32) (o_this_acts : Int32) (o_this_turn : Int32) (o_now : (Nat → Int32)) (o_row : (Nat → Int32)) (hf : f_X10_slow N y1 y2 i_this_gates i_this_acts i_this_turn k_now k_row = some (rr, o_this_acts, o_this_turn, o_now, o_row)) : MetI l yX10_slow wsX10_slow rmX10_slow D (tyA cI cJ cZ cS) [(a_this, .inr (10, [.int i_this_inputs, .int i_this_gates, .ref a_now, .ref a_one, .ref a_other, .ref a_next, .int i_this_readInputs, .int i_this_readGates, .ref a_readOne, .ref a_readOther, .ref a_readNext, .ref a_text, .int i_this_length, .int i_this_paths, .ref a_pathInput, .ref a_pathGates, .ref a_before, .ref a_after, .ref a_values, .ref a_taken, .ref a_waves, .int i_this_acts, .int i_this_turn, .ref a_row, .int i_this_seen, .ref a_seenPair, .ref a_seenTime, .ref a_seenLate, .long i_this_seed, .ref a_isKept, .ref a_kept])), (a_now, .inl (cI, 32, .inl k_now)), (a_row, .inl (cI, 224, .inl k_row))] sz [.ref a_this, .int y1, .int y2] rr [(a_this, .inr (10, [.int i_this_inputs, .int i_this_gates, .ref a_now, .ref a_one, .ref a_other, .ref a_next, .int i_this_readInputs, .int i_this_readGates, .ref a_readOne, .ref a_readOther, .ref a_readNext, .ref a_text, .int i_this_length, .int i_this_paths, .ref a_pathInput, .ref a_pathGates, .ref a_before, .ref a_after, .ref a_values, .ref a_taken, .ref a_waves, .int o_this_acts, .int o_this_turn, .ref a_row, .int i_this_seen, .ref a_seenPair, .ref a_seenTime, .ref a_seenLate, .long i_this_seed, .ref a_isKept, .ref a_kept])), (a_now, .inl (cI, 32, .inl o_now)), (a_row, .inl (cI, 224, .inl o_row))] := by
  refine entI (cc := cX10_slow) (maxL := 4) (own := RX10) (by decide) rfl rfl (Nat.le_of_ble_eq_true rfl) ?_
  intro p e s m args below meth c A ls Q H locs S hr hw hl hQ
  have hx := S.1.1
  have hb := S.1.2.1
  have hts := S.1.2.2.2.2
  have hl : lv_has ls 4 [(0, .ref a_this), (1, .int y1), (2, .int y2)] := hl
  have hinX10 : ∀ w ∈ u_ws RX10 TX10 31, w ∈ wsX10_slow := (fun _ h => List.mem_cons_of_mem _ (List.mem_append_right _ h))
  have F7 : FLk s args wsX10_slow RX10 7 RX10 TX10 31 10 2 := ⟨hinX10, rfl, by decide, hts (.fieldLink RX10 7 "SlowPathsModel" "now" "[I") (List.mem_of_getElem? (i := 2) rfl)⟩
  have h := hf
  rw [f_X10_slow] at h
  refine lv_aload_n hx hb dX10_slow_0 rfl (lv_at hl 0 rfl) ?_
  refine lv_iload_n hx hb dX10_slow_1 rfl (lv_at hl 1 rfl) ?_
  obtain ⟨r_1, e2_1, h⟩ := obd1_el h
  refine zr_VI (As := [.int y1]) (rest := []) (q0 := 0) S hw (c_X10_isGate l D cI cJ cZ cS H.size N a_this a_now a_one a_other a_next a_readOne a_readOther a_readNext a_text a_pathInput a_pathGates a_before a_after a_values a_taken a_waves a_row a_seenPair a_seenTime a_seenLate a_isKept a_kept i_this_inputs i_this_gates i_this_readInputs i_this_readGates i_this_length i_this_paths i_this_acts i_this_turn i_this_seen i_this_seed y1 r_1 e2_1) (cwV 1 hts gX10_slow_X10_isGate rfl rfl rfl dv_X10_isGate ⟨Nat.le_of_ble_eq_true rfl, Nat.le_of_ble_eq_true rfl⟩) [0] rfl rfl rfl rfl rfl rfl hl.1 rfl (Nat.le_of_ble_eq_true rfl) dX10_slow_2 ⟨Nat.zero_le _, Nat.zero_le _⟩ ?_
  refine lv_if_ne (tgt := 10) hx hb dX10_slow_5 (by decide) (fun hc => ?_) (fun hc => ?_)
  · replace h := if_f hc h
    refine lv_iload_n hx hb dX10_slow_10 rfl (lv_at hl 2 rfl) ?_
    refine lv_i2l hx hb dX10_slow_11 rfl ?_
    refine lv_lconst (v := (1 : Int64)) hx hb dX10_slow_12 (by decide) ?_
    refine lv_ldc2 (v := (9 : Int64)) hx hb S.1.2.2.2.1 (hts (.constantLong RX10 220 (9)) (List.mem_of_getElem? (i := 1) rfl)) dX10_slow_13 ?_
    obtain ⟨r_2, e16_1, h⟩ := obd1_el h
    refine zr_SI (As := [.long (y2.toInt64), .long (1 : Int64), .long (9 : Int64)]) (rest := []) (q0 := 0) (ci := 0) (fs := []) (qc := (RX0, TX0, 4)) S hw (c_X10_in l D cI cJ cZ cS H.size N (y2.toInt64) (1 : Int64) (9 : Int64) r_2 e16_1) (va_cwS 3 hts gX10_slow_X10_in rfl rfl rfl ds_X10_in ⟨Nat.le_of_ble_eq_true rfl, Nat.le_of_ble_eq_true rfl⟩) [] rfl rfl rfl hl.1 rfl (Nat.le_of_ble_eq_true rfl) dX10_slow_16 ⟨Nat.zero_le _, Nat.zero_le _⟩ ?_
    refine lv_if_ne (tgt := 25) hx hb dX10_slow_19 (by decide) (fun hc => ?_) (fun hc => ?_)
    · replace h := if_f hc h
      refine lv_aload_n hx hb dX10_slow_25 rfl (lv_at hl 0 rfl) ?_
      obtain ⟨i_this_acts_3, i_this_turn_4, k_row_5, e26_1, h⟩ := obd3_el h
      refine zc_VV (As := []) (rest := []) (wr := []) (q0 := 0) S hw (c_X10_keepAct l D cI cJ cZ cS H.size N a_this a_now a_row a_one a_other a_next a_readOne a_readOther a_readNext a_text a_pathInput a_pathGates a_before a_after a_values a_taken a_waves a_seenPair a_seenTime a_seenLate a_isKept a_kept i_this_inputs i_this_gates i_this_readInputs i_this_readGates i_this_length i_this_paths i_this_acts i_this_turn i_this_seen i_this_seed k_now k_row i_this_acts_3 i_this_turn_4 k_row_5 e26_1) (cwV 0 hts gX10_slow_X10_keepAct rfl rfl rfl dv_X10_keepAct ⟨Nat.le_of_ble_eq_true rfl, Nat.le_of_ble_eq_true rfl⟩) [0, 1, 2] [] rfl rfl rfl rfl (by decide) rfl rfl rfl rfl hl.1 rfl (Nat.le_of_ble_eq_true rfl) dX10_slow_26 ⟨Nat.zero_le _, Nat.zero_le _⟩ (fun H locs hw => ?_)
      refine lv_aload_n hx hb dX10_slow_29 rfl (lv_at hl 0 rfl) ?_
      refine z_get S hw F7 0 rfl rfl dX10_slow_30 ?_
      refine lv_bipush (v := (8 : Int32)) hx hb dX10_slow_33 (by decide) ?_
      refine lv_iload_n hx hb dX10_slow_35 rfl (lv_at hl 1 rfl) ?_
      refine lv_iadd hx hb dX10_slow_36 ?_
      obtain ⟨hg, h⟩ := grd_el h
      refine z_iald S hw 1 0 rfl rfl hg dX10_slow_37 ?_
      refine lv_topi (fun x3_6 ex3_6 => ?_)
      replace h := bnd_at ex3_6 h
      refine lv_istore_n (lv' := [(3, .int x3_6), (0, .ref a_this), (1, .int y1), (2, .int y2)]) hx hb dX10_slow_38 rfl hl (by decide) rfl (fun ls hl => ?_)
      refine lv_aload_n hx hb dX10_slow_39 rfl (lv_at hl 1 rfl) ?_
      refine z_get S hw F7 0 rfl rfl dX10_slow_40 ?_
      refine lv_bipush (v := (8 : Int32)) hx hb dX10_slow_43 (by decide) ?_
      refine lv_iload_n hx hb dX10_slow_45 rfl (lv_at hl 2 rfl) ?_
      refine lv_iadd hx hb dX10_slow_46 ?_
      refine lv_iload_n hx hb dX10_slow_47 rfl (lv_at hl 3 rfl) ?_
      obtain ⟨hg, h⟩ := grd_el h
      obtain ⟨k_now_7, ek_now_7, h⟩ := bnd_ex h
      refine z_iast S hw ek_now_7 1 0 rfl rfl hg dX10_slow_48 (fun H locs hw => ?_)
      refine lv_iload_n hx hb dX10_slow_49 rfl (lv_at hl 0 rfl) ?_
      cases h
      exact z_iret S hQ hr hw [0, 1, 2] rfl rfl dX10_slow_50
    · replace h := if_t hc h
      refine lv_bipush (v := (-2 : Int32)) hx hb dX10_slow_22 (by decide) ?_
      cases h
      exact z_iret S hQ hr hw [0, 1, 2] rfl rfl dX10_slow_24
  · replace h := if_t hc h
    refine lv_iconst (v := (-1 : Int32)) hx hb dX10_slow_8 (by decide) ?_
    cases h
    exact z_iret S hQ hr hw [0, 1, 2] rfl rfl dX10_slow_9
abbrev rmX10_turn : Room := { frames := 2, cells := 0, slots := 0, locals := 46 }
theorem dv_X10_turn : yX10_turn.cls = RX10 ∧ yX10_turn.cls ≠ "java/lang/invoke/MethodHandle" ∧ yX10_turn.cls ≠ "java/lang/invoke/VarHandle" ∧ (parseMethodDescriptor yX10_turn.desc).map (fun d => d.parameters.length) = some 2 := by decide +kernel
noncomputable def f_X10_turn (N : Nat) (y1 : Int32) (y2 : Int32) (i_this_gates : Int32) (i_this_acts : Int32) (i_this_turn : Int32) (k_now : (Nat → Int32)) (k_row : (Nat → Int32)) : Option (Int32 × Int32 × Int32 × (Nat → Int32) × (Nat → Int32)) :=
  obd1 (f_X10_isGate N y1 i_this_gates) fun (r_1 : Int32) => (if r_1 = (0 : Int32) then (some ((-1 : Int32), i_this_acts, i_this_turn, k_now, k_row)) else (obd1 (f_X10_in N (y2.toInt64) (0 : Int64) (3 : Int64)) fun (r_2 : Int32) => (if r_2 = (0 : Int32) then (some ((-2 : Int32), i_this_acts, i_this_turn, k_now, k_row)) else (grd (inb ((0 : Int32) + y1) 32) <| (if (k_now ((0 : Int32) + y1).toNatClampNeg) = (4 : Int32) then (some ((-3 : Int32), i_this_acts, i_this_turn, k_now, k_row)) else (grd (inb ((0 : Int32) + y1) 32) <| (if (k_now ((0 : Int32) + y1).toNatClampNeg) = y2 then (some ((-3 : Int32), i_this_acts, i_this_turn, k_now, k_row)) else (obd3 (f_X10_keepAct N i_this_acts i_this_turn k_now k_row) fun (i_this_acts_3 : Int32) (i_this_turn_4 : Int32) (k_row_5 : (Nat → Int32)) => grd (inb ((0 : Int32) + y1) 32) <| bnd ((k_now ((0 : Int32) + y1).toNatClampNeg)) fun (x3_6 : Int32) => grd (inb ((0 : Int32) + y1) 32) <| bnd (upd k_now ((0 : Int32) + y1).toNatClampNeg y2) fun (k_now_7 : (Nat → Int32)) => some (x3_6, i_this_acts_3, i_this_turn_4, k_now_7, k_row_5)))))))))
set_option maxHeartbeats 4000000 in
set_option maxRecDepth 100000 in
theorem c_X10_turn (l : Launch) (D : va_G) (cI cJ cZ cS : ClassId) (sz N : Nat) (a_this a_now a_row a_one a_other a_next a_readOne a_readOther a_readNext a_text a_pathInput a_pathGates a_before a_after a_values a_taken a_waves a_seenPair a_seenTime a_seenLate a_isKept a_kept : Nat) (i_this_inputs : Int32) (i_this_gates : Int32) (i_this_readInputs : Int32) (i_this_readGates : Int32) (i_this_length : Int32) (i_this_paths : Int32) (i_this_acts : Int32) (i_this_turn : Int32) (i_this_seen : Int32) (i_this_seed : Int64) (k_now : (Nat → Int32)) (k_row : (Nat → Int32)) (y1 : Int32) (y2 : Int32) (rr : Int32) (o_this_acts : Int32) (o_this_turn : Int32) (o_now : (Nat → Int32)) (o_row : (Nat → Int32)) (hf : f_X10_turn N y1 y2 i_this_gates i_this_acts i_this_turn k_now k_row = some (rr, o_this_acts, o_this_turn, o_now, o_row)) : MetI l yX10_turn wsX10_turn rmX10_turn D (tyA cI cJ cZ cS) [(a_this, .inr (10, [.int i_this_inputs, .int i_this_gates, .ref a_now, .ref a_one, .ref a_other, .ref a_next, .int i_this_readInputs, .int i_this_readGates, .ref a_readOne, .ref a_readOther, .ref a_readNext, .ref a_text, .int i_this_length, .int i_this_paths, .ref a_pathInput, .ref a_pathGates, .ref a_before, .ref a_after, .ref a_values, .ref a_taken, .ref a_waves, .int i_this_acts, .int i_this_turn, .ref a_row, .int i_this_seen, .ref a_seenPair, .ref a_seenTime, .ref a_seenLate, .long i_this_seed, .ref a_isKept, .ref a_kept])), (a_now, .inl (cI, 32, .inl k_now)), (a_row, .inl (cI, 224, .inl k_row))] sz [.ref a_this, .int y1, .int y2] rr [(a_this, .inr (10, [.int i_this_inputs, .int i_this_gates, .ref a_now, .ref a_one, .ref a_other, .ref a_next, .int i_this_readInputs, .int i_this_readGates, .ref a_readOne, .ref a_readOther, .ref a_readNext, .ref a_text, .int i_this_length, .int i_this_paths, .ref a_pathInput, .ref a_pathGates, .ref a_before, .ref a_after, .ref a_values, .ref a_taken, .ref a_waves, .int o_this_acts, .int o_this_turn, .ref a_row, .int i_this_seen, .ref a_seenPair, .ref a_seenTime, .ref a_seenLate, .long i_this_seed, .ref a_isKept, .ref a_kept])), (a_now, .inl (cI, 32, .inl o_now)), (a_row, .inl (cI, 224, .inl o_row))] := by
  refine entI (cc := cX10_turn) (maxL := 4) (own := RX10) (by decide) rfl rfl (Nat.le_of_ble_eq_true rfl) ?_
  intro p e s m args below meth c A ls Q H locs S hr hw hl hQ
  have hx := S.1.1
  have hb := S.1.2.1
  have hts := S.1.2.2.2.2
  have hl : lv_has ls 4 [(0, .ref a_this), (1, .int y1), (2, .int y2)] := hl
  have hinX10 : ∀ w ∈ u_ws RX10 TX10 31, w ∈ wsX10_turn := (fun _ h => List.mem_cons_of_mem _ (List.mem_append_right _ h))
  have F7 : FLk s args wsX10_turn RX10 7 RX10 TX10 31 10 2 := ⟨hinX10, rfl, by decide, hts (.fieldLink RX10 7 "SlowPathsModel" "now" "[I") (List.mem_of_getElem? (i := 2) rfl)⟩
  have h := hf
  rw [f_X10_turn] at h
  refine lv_aload_n hx hb dX10_turn_0 rfl (lv_at hl 0 rfl) ?_
  refine lv_iload_n hx hb dX10_turn_1 rfl (lv_at hl 1 rfl) ?_
  obtain ⟨r_1, e2_1, h⟩ := obd1_el h
  refine zr_VI (As := [.int y1]) (rest := []) (q0 := 0) S hw (c_X10_isGate l D cI cJ cZ cS H.size N a_this a_now a_one a_other a_next a_readOne a_readOther a_readNext a_text a_pathInput a_pathGates a_before a_after a_values a_taken a_waves a_row a_seenPair a_seenTime a_seenLate a_isKept a_kept i_this_inputs i_this_gates i_this_readInputs i_this_readGates i_this_length i_this_paths i_this_acts i_this_turn i_this_seen i_this_seed y1 r_1 e2_1) (cwV 1 hts gX10_turn_X10_isGate rfl rfl rfl dv_X10_isGate ⟨Nat.le_of_ble_eq_true rfl, Nat.le_of_ble_eq_true rfl⟩) [0] rfl rfl rfl rfl rfl rfl hl.1 rfl (Nat.le_of_ble_eq_true rfl) dX10_turn_2 ⟨Nat.zero_le _, Nat.zero_le _⟩ ?_
  refine lv_if_ne (tgt := 10) hx hb dX10_turn_5 (by decide) (fun hc => ?_) (fun hc => ?_)
  · replace h := if_f hc h
    refine lv_iload_n hx hb dX10_turn_10 rfl (lv_at hl 2 rfl) ?_
    refine lv_i2l hx hb dX10_turn_11 rfl ?_
    refine lv_lconst (v := (0 : Int64)) hx hb dX10_turn_12 (by decide) ?_
    refine lv_ldc2 (v := (3 : Int64)) hx hb S.1.2.2.2.1 (hts (.constantLong RX10 225 (3)) (List.mem_of_getElem? (i := 1) rfl)) dX10_turn_13 ?_
    obtain ⟨r_2, e16_1, h⟩ := obd1_el h
    refine zr_SI (As := [.long (y2.toInt64), .long (0 : Int64), .long (3 : Int64)]) (rest := []) (q0 := 0) (ci := 0) (fs := []) (qc := (RX0, TX0, 4)) S hw (c_X10_in l D cI cJ cZ cS H.size N (y2.toInt64) (0 : Int64) (3 : Int64) r_2 e16_1) (va_cwS 3 hts gX10_turn_X10_in rfl rfl rfl ds_X10_in ⟨Nat.le_of_ble_eq_true rfl, Nat.le_of_ble_eq_true rfl⟩) [] rfl rfl rfl hl.1 rfl (Nat.le_of_ble_eq_true rfl) dX10_turn_16 ⟨Nat.zero_le _, Nat.zero_le _⟩ ?_
    refine lv_if_ne (tgt := 25) hx hb dX10_turn_19 (by decide) (fun hc => ?_) (fun hc => ?_)
    · replace h := if_f hc h
      refine lv_aload_n hx hb dX10_turn_25 rfl (lv_at hl 0 rfl) ?_
      refine z_get S hw F7 0 rfl rfl dX10_turn_26 ?_
      refine lv_iconst (v := (0 : Int32)) hx hb dX10_turn_29 (by decide) ?_
      refine lv_iload_n hx hb dX10_turn_30 rfl (lv_at hl 1 rfl) ?_
      refine lv_iadd hx hb dX10_turn_31 ?_
      obtain ⟨hg, h⟩ := grd_el h
      refine z_iald S hw 1 0 rfl rfl hg dX10_turn_32 ?_
      refine lv_iconst (v := (4 : Int32)) hx hb dX10_turn_33 (by decide) ?_
      refine lv_icmp_eq (tgt := 49) hx hb dX10_turn_34 (by decide) (fun hc => ?_) (fun hc => ?_)
      · replace h := if_t hc h
        refine lv_bipush (v := (-3 : Int32)) hx hb dX10_turn_49 (by decide) ?_
        cases h
        exact z_iret S hQ hr hw [0, 1, 2] rfl rfl dX10_turn_51
      · replace h := if_f hc h
        refine lv_aload_n hx hb dX10_turn_37 rfl (lv_at hl 0 rfl) ?_
        refine z_get S hw F7 0 rfl rfl dX10_turn_38 ?_
        refine lv_iconst (v := (0 : Int32)) hx hb dX10_turn_41 (by decide) ?_
        refine lv_iload_n hx hb dX10_turn_42 rfl (lv_at hl 1 rfl) ?_
        refine lv_iadd hx hb dX10_turn_43 ?_
        obtain ⟨hg, h⟩ := grd_el h
        refine z_iald S hw 1 0 rfl rfl hg dX10_turn_44 ?_
        refine lv_iload_n hx hb dX10_turn_45 rfl (lv_at hl 2 rfl) ?_
        refine lv_icmp_ne (tgt := 52) hx hb dX10_turn_46 (by decide) (fun hc => ?_) (fun hc => ?_)
        · replace h := if_f hc h
          refine lv_aload_n hx hb dX10_turn_52 rfl (lv_at hl 0 rfl) ?_
          obtain ⟨i_this_acts_3, i_this_turn_4, k_row_5, e53_1, h⟩ := obd3_el h
          refine zc_VV (As := []) (rest := []) (wr := []) (q0 := 0) S hw (c_X10_keepAct l D cI cJ cZ cS H.size N a_this a_now a_row a_one a_other a_next a_readOne a_readOther a_readNext a_text a_pathInput a_pathGates a_before a_after a_values a_taken a_waves a_seenPair a_seenTime a_seenLate a_isKept a_kept i_this_inputs i_this_gates i_this_readInputs i_this_readGates i_this_length i_this_paths i_this_acts i_this_turn i_this_seen i_this_seed k_now k_row i_this_acts_3 i_this_turn_4 k_row_5 e53_1) (cwV 0 hts gX10_turn_X10_keepAct rfl rfl rfl dv_X10_keepAct ⟨Nat.le_of_ble_eq_true rfl, Nat.le_of_ble_eq_true rfl⟩) [0, 1, 2] [] rfl rfl rfl rfl (by decide) rfl rfl rfl rfl hl.1 rfl (Nat.le_of_ble_eq_true rfl) dX10_turn_53 ⟨Nat.zero_le _, Nat.zero_le _⟩ (fun H locs hw => ?_)
          refine lv_aload_n hx hb dX10_turn_56 rfl (lv_at hl 0 rfl) ?_
          refine z_get S hw F7 0 rfl rfl dX10_turn_57 ?_
          refine lv_iconst (v := (0 : Int32)) hx hb dX10_turn_60 (by decide) ?_
          refine lv_iload_n hx hb dX10_turn_61 rfl (lv_at hl 1 rfl) ?_
          refine lv_iadd hx hb dX10_turn_62 ?_
          obtain ⟨hg, h⟩ := grd_el h
          refine z_iald S hw 1 0 rfl rfl hg dX10_turn_63 ?_
          refine lv_topi (fun x3_6 ex3_6 => ?_)
          replace h := bnd_at ex3_6 h
          refine lv_istore_n (lv' := [(3, .int x3_6), (0, .ref a_this), (1, .int y1), (2, .int y2)]) hx hb dX10_turn_64 rfl hl (by decide) rfl (fun ls hl => ?_)
          refine lv_aload_n hx hb dX10_turn_65 rfl (lv_at hl 1 rfl) ?_
          refine z_get S hw F7 0 rfl rfl dX10_turn_66 ?_
          refine lv_iconst (v := (0 : Int32)) hx hb dX10_turn_69 (by decide) ?_
          refine lv_iload_n hx hb dX10_turn_70 rfl (lv_at hl 2 rfl) ?_
          refine lv_iadd hx hb dX10_turn_71 ?_
          refine lv_iload_n hx hb dX10_turn_72 rfl (lv_at hl 3 rfl) ?_
          obtain ⟨hg, h⟩ := grd_el h
          obtain ⟨k_now_7, ek_now_7, h⟩ := bnd_ex h
          refine z_iast S hw ek_now_7 1 0 rfl rfl hg dX10_turn_73 (fun H locs hw => ?_)
          refine lv_iload_n hx hb dX10_turn_74 rfl (lv_at hl 0 rfl) ?_
          cases h
          exact z_iret S hQ hr hw [0, 1, 2] rfl rfl dX10_turn_75
        · replace h := if_t hc h
          refine lv_bipush (v := (-3 : Int32)) hx hb dX10_turn_49 (by decide) ?_
          cases h
          exact z_iret S hQ hr hw [0, 1, 2] rfl rfl dX10_turn_51
    · replace h := if_t hc h
      refine lv_bipush (v := (-2 : Int32)) hx hb dX10_turn_22 (by decide) ?_
      cases h
      exact z_iret S hQ hr hw [0, 1, 2] rfl rfl dX10_turn_24
  · replace h := if_t hc h
    refine lv_iconst (v := (-1 : Int32)) hx hb dX10_turn_8 (by decide) ?_
    cases h
    exact z_iret S hQ hr hw [0, 1, 2] rfl rfl dX10_turn_9
abbrev rmX10_undo : Room := { frames := 0, cells := 0, slots := 0, locals := 0 }
theorem dv_X10_undo : yX10_undo.cls = RX10 ∧ yX10_undo.cls ≠ "java/lang/invoke/MethodHandle" ∧ yX10_undo.cls ≠ "java/lang/invoke/VarHandle" ∧ (parseMethodDescriptor yX10_undo.desc).map (fun d => d.parameters.length) = some 0 := by decide +kernel
noncomputable def f_X10_undo_L36 (N : Nat) (k_row : (Nat → Int32)) (i_turn_2 : Int32) (j68_1 : (Nat → Int32) → Option (Int32 × Int32 × Int32 × (Nat → Int32))) : Nat → Int32 → (Nat → Int32) → Option (Int32 × Int32 × Int32 × (Nat → Int32))
  | 0, _, _ => none
  | n_36 + 1, x1_4, k_now_5 =>
    (if (16 : Int32) ≤ x1_4 then (j68_1 k_now_5) else (grd (inb (((16 : Int32) * i_turn_2) + x1_4) 224) <| grd (inb x1_4 32) <| bnd (upd k_now_5 x1_4.toNatClampNeg (k_row (((16 : Int32) * i_turn_2) + x1_4).toNatClampNeg)) fun (k_now_6 : (Nat → Int32)) => bnd (x1_4 + (1 : Int32)) fun (x1_7 : Int32) => f_X10_undo_L36 N k_row i_turn_2 j68_1 n_36 x1_7 k_now_6))
noncomputable def f_X10_undo (N : Nat)  (i_this_acts : Int32) (i_this_turn : Int32) (k_row : (Nat → Int32)) (k_now : (Nat → Int32)) : Option (Int32 × Int32 × Int32 × (Nat → Int32)) :=
  (if i_this_acts = (0 : Int32) then (some ((-3 : Int32), i_this_acts, i_this_turn, k_now)) else (bnd ((i_this_acts - (1 : Int32))) fun (i_acts_1 : Int32) => bnd (((i_this_turn + (13 : Int32)) - (i_this_turn + (13 : Int32)) / (14 : Int32) * (14 : Int32))) fun (i_turn_2 : Int32) => bnd (fun (k_now_3 : (Nat → Int32)) => (some (i_acts_1, i_acts_1, i_turn_2, k_now_3))) fun (j68_1 : (Nat → Int32) → Option (Int32 × Int32 × Int32 × (Nat → Int32))) => f_X10_undo_L36 N k_row i_turn_2 j68_1 N ((0 : Int32)) k_now))
set_option maxHeartbeats 4000000 in
set_option maxRecDepth 100000 in
theorem c_X10_undo (l : Launch) (D : va_G) (cI cJ cZ cS : ClassId) (sz N : Nat) (a_this a_row a_now a_one a_other a_next a_readOne a_readOther a_readNext a_text a_pathInput a_pathGates a_before a_after a_values a_taken a_waves a_seenPair a_seenTime a_seenLate a_isKept a_kept : Nat) (i_this_inputs : Int32) (i_this_gates : Int32) (i_this_readInputs : Int32) (i_this_readGates : Int32) (i_this_length : Int32) (i_this_paths : Int32) (i_this_acts : Int32) (i_this_turn : Int32) (i_this_seen : Int32) (i_this_seed : Int64) (k_row : (Nat → Int32)) (k_now : (Nat → Int32))  (rr : Int32) (o_this_acts : Int32) (o_this_turn : Int32) (o_now : (Nat → Int32)) (hf : f_X10_undo N i_this_acts i_this_turn k_row k_now = some (rr, o_this_acts, o_this_turn, o_now)) : MetI l yX10_undo wsX10_undo rmX10_undo D (tyA cI cJ cZ cS) [(a_this, .inr (10, [.int i_this_inputs, .int i_this_gates, .ref a_now, .ref a_one, .ref a_other, .ref a_next, .int i_this_readInputs, .int i_this_readGates, .ref a_readOne, .ref a_readOther, .ref a_readNext, .ref a_text, .int i_this_length, .int i_this_paths, .ref a_pathInput, .ref a_pathGates, .ref a_before, .ref a_after, .ref a_values, .ref a_taken, .ref a_waves, .int i_this_acts, .int i_this_turn, .ref a_row, .int i_this_seen, .ref a_seenPair, .ref a_seenTime, .ref a_seenLate, .long i_this_seed, .ref a_isKept, .ref a_kept])), (a_row, .inl (cI, 224, .inl k_row)), (a_now, .inl (cI, 32, .inl k_now))] sz [.ref a_this] rr [(a_this, .inr (10, [.int i_this_inputs, .int i_this_gates, .ref a_now, .ref a_one, .ref a_other, .ref a_next, .int i_this_readInputs, .int i_this_readGates, .ref a_readOne, .ref a_readOther, .ref a_readNext, .ref a_text, .int i_this_length, .int i_this_paths, .ref a_pathInput, .ref a_pathGates, .ref a_before, .ref a_after, .ref a_values, .ref a_taken, .ref a_waves, .int o_this_acts, .int o_this_turn, .ref a_row, .int i_this_seen, .ref a_seenPair, .ref a_seenTime, .ref a_seenLate, .long i_this_seed, .ref a_isKept, .ref a_kept])), (a_row, .inl (cI, 224, .inl k_row)), (a_now, .inl (cI, 32, .inl o_now))] := by
  refine entI (cc := cX10_undo) (maxL := 2) (own := RX10) (by decide) rfl rfl (Nat.le_of_ble_eq_true rfl) ?_
  intro p e s m args below meth c A ls Q H locs S hr hw hl hQ
  have hx := S.1.1
  have hb := S.1.2.1
  have hts := S.1.2.2.2.2
  have hl : lv_has ls 2 [(0, .ref a_this)] := hl
  have hinX10 : ∀ w ∈ u_ws RX10 TX10 31, w ∈ wsX10_undo := (fun _ h => List.mem_cons_of_mem _ (List.mem_append_right _ h))
  have F7 : FLk s args wsX10_undo RX10 7 RX10 TX10 31 10 2 := ⟨hinX10, rfl, by decide, hts (.fieldLink RX10 7 "SlowPathsModel" "now" "[I") (List.mem_of_getElem? (i := 3) rfl)⟩
  have F55 : FLk s args wsX10_undo RX10 55 RX10 TX10 31 10 23 := ⟨hinX10, rfl, by decide, hts (.fieldLink RX10 55 "SlowPathsModel" "row" "[I") (List.mem_of_getElem? (i := 4) rfl)⟩
  have F118 : FLk s args wsX10_undo RX10 118 RX10 TX10 31 10 21 := ⟨hinX10, rfl, by decide, hts (.fieldLink RX10 118 "SlowPathsModel" "acts" "I") (List.mem_of_getElem? (i := 1) rfl)⟩
  have F217 : FLk s args wsX10_undo RX10 217 RX10 TX10 31 10 22 := ⟨hinX10, rfl, by decide, hts (.fieldLink RX10 217 "SlowPathsModel" "turn" "I") (List.mem_of_getElem? (i := 2) rfl)⟩
  have P118 : PLk TX10 31 21 tyX10 false .int := ⟨tyX10_ok, nmX10, rfl, rfl⟩
  have P217 : PLk TX10 31 22 tyX10 false .int := ⟨tyX10_ok, nmX10, rfl, rfl⟩
  have h := hf
  rw [f_X10_undo] at h
  refine lv_aload_n hx hb dX10_undo_0 rfl (lv_at hl 0 rfl) ?_
  refine z_get S hw F118 0 rfl rfl dX10_undo_1 ?_
  refine lv_if_ne (tgt := 10) hx hb dX10_undo_4 (by decide) (fun hc => ?_) (fun hc => ?_)
  · replace h := if_f hc h
    refine lv_aload_n hx hb dX10_undo_10 rfl (lv_at hl 0 rfl) ?_
    refine lv_dup hx hb dX10_undo_11 rfl ?_
    refine z_get S hw F118 0 rfl rfl dX10_undo_12 ?_
    refine lv_iconst (v := (1 : Int32)) hx hb dX10_undo_15 (by decide) ?_
    refine lv_isub hx hb dX10_undo_16 ?_
    refine lv_topi (fun i_acts_1 ei_acts_1 => ?_)
    replace h := bnd_at ei_acts_1 h
    refine z_put S hw F118 P118 rfl rfl 0 rfl (Nat.le_of_ble_eq_true rfl) dX10_undo_17 (fun H locs hw => ?_)
    refine lv_aload_n hx hb dX10_undo_20 rfl (lv_at hl 0 rfl) ?_
    refine lv_aload_n hx hb dX10_undo_21 rfl (lv_at hl 0 rfl) ?_
    refine z_get S hw F217 0 rfl rfl dX10_undo_22 ?_
    refine lv_bipush (v := (13 : Int32)) hx hb dX10_undo_25 (by decide) ?_
    refine lv_iadd hx hb dX10_undo_27 ?_
    refine lv_bipush (v := (14 : Int32)) hx hb dX10_undo_28 (by decide) ?_
    refine lv_irem hx hb dX10_undo_30 (by decide) ?_
    refine lv_topi (fun i_turn_2 ei_turn_2 => ?_)
    replace h := bnd_at ei_turn_2 h
    refine z_put S hw F217 P217 rfl rfl 0 rfl (Nat.le_of_ble_eq_true rfl) dX10_undo_31 (fun H locs hw => ?_)
    refine lv_iconst (v := (0 : Int32)) hx hb dX10_undo_34 (by decide) ?_
    refine lv_istore_n (lv' := [(1, .int (0 : Int32)), (0, .ref a_this)]) hx hb dX10_undo_35 rfl hl (by decide) rfl (fun ls hl => ?_)
    obtain ⟨j68_1, ej68_1, h⟩ := bnd_ex h
    have hj68_1 : ∀ (k_now_3 : (Nat → Int32)) (H : Heap) (locs : List Loc) (ls : Array Slot), j68_1 k_now_3 = some (rr, o_this_acts, o_this_turn, o_now) → Wd D (tyA cI cJ cZ cS) A s [(a_this, .inr (10, [.int i_this_inputs, .int i_this_gates, .ref a_now, .ref a_one, .ref a_other, .ref a_next, .int i_this_readInputs, .int i_this_readGates, .ref a_readOne, .ref a_readOther, .ref a_readNext, .ref a_text, .int i_this_length, .int i_this_paths, .ref a_pathInput, .ref a_pathGates, .ref a_before, .ref a_after, .ref a_values, .ref a_taken, .ref a_waves, .int i_acts_1, .int i_turn_2, .ref a_row, .int i_this_seen, .ref a_seenPair, .ref a_seenTime, .ref a_seenLate, .long i_this_seed, .ref a_isKept, .ref a_kept])), (a_row, .inl (cI, 224, .inl k_row)), (a_now, .inl (cI, 32, .inl k_now_3))] H locs → lv_has ls 2 [(0, .ref a_this)] → W p l e rmX10_undo s m args below meth c H locs 0 0 Q (F0 m 68 ls []) := by
      intro k_now_3 H locs ls h hw hl
      replace h := ap1 ej68_1 h
      refine lv_aload_n hx hb dX10_undo_68 rfl (lv_at hl 0 rfl) ?_
      refine z_get S hw F118 0 rfl rfl dX10_undo_69 ?_
      cases h
      exact z_iret S hQ hr hw [0, 1, 2] rfl rfl dX10_undo_72
    have hL36_1 : ∀ (nf : Nat) (x1_4 : Int32) (k_now_5 : (Nat → Int32)) (H : Heap) (locs : List Loc) (ls : Array Slot), f_X10_undo_L36 N k_row i_turn_2 j68_1 nf x1_4 k_now_5 = some (rr, o_this_acts, o_this_turn, o_now) → Wd D (tyA cI cJ cZ cS) A s [(a_this, .inr (10, [.int i_this_inputs, .int i_this_gates, .ref a_now, .ref a_one, .ref a_other, .ref a_next, .int i_this_readInputs, .int i_this_readGates, .ref a_readOne, .ref a_readOther, .ref a_readNext, .ref a_text, .int i_this_length, .int i_this_paths, .ref a_pathInput, .ref a_pathGates, .ref a_before, .ref a_after, .ref a_values, .ref a_taken, .ref a_waves, .int i_acts_1, .int i_turn_2, .ref a_row, .int i_this_seen, .ref a_seenPair, .ref a_seenTime, .ref a_seenLate, .long i_this_seed, .ref a_isKept, .ref a_kept])), (a_row, .inl (cI, 224, .inl k_row)), (a_now, .inl (cI, 32, .inl k_now_5))] H locs → lv_has ls 2 [(0, .ref a_this), (1, .int x1_4)] → W p l e rmX10_undo s m args below meth c H locs 0 0 Q (F0 m 36 ls []) := by
      intro nf
      induction nf with
      | zero =>
        intro x1_4 k_now_5 H locs ls h
        rw [f_X10_undo_L36] at h
        cases h
      | succ n_36 ih_36 =>
        intro x1_4 k_now_5 H locs ls h hw hl
        rw [f_X10_undo_L36] at h
        refine lv_iload_n hx hb dX10_undo_36 rfl (lv_at hl 1 rfl) ?_
        refine lv_bipush (v := (16 : Int32)) hx hb dX10_undo_37 (by decide) ?_
        refine lv_icmp_ge (tgt := 68) hx hb dX10_undo_39 (by decide) (fun hc => ?_) (fun hc => ?_)
        · replace h := if_t hc h
          exact hj68_1 k_now_5 H locs ls h hw (lv_sub hl [0] rfl)
        · replace h := if_f hc h
          refine lv_aload_n hx hb dX10_undo_42 rfl (lv_at hl 0 rfl) ?_
          refine z_get S hw F7 0 rfl rfl dX10_undo_43 ?_
          refine lv_iload_n hx hb dX10_undo_46 rfl (lv_at hl 1 rfl) ?_
          refine lv_aload_n hx hb dX10_undo_47 rfl (lv_at hl 0 rfl) ?_
          refine z_get S hw F55 0 rfl rfl dX10_undo_48 ?_
          refine lv_bipush (v := (16 : Int32)) hx hb dX10_undo_51 (by decide) ?_
          refine lv_aload_n hx hb dX10_undo_53 rfl (lv_at hl 0 rfl) ?_
          refine z_get S hw F217 0 rfl rfl dX10_undo_54 ?_
          refine lv_imul hx hb dX10_undo_57 ?_
          refine lv_iload_n hx hb dX10_undo_58 rfl (lv_at hl 1 rfl) ?_
          refine lv_iadd hx hb dX10_undo_59 ?_
          obtain ⟨hg, h⟩ := grd_el h
          refine z_iald S hw 1 0 rfl rfl hg dX10_undo_60 ?_
          obtain ⟨hg, h⟩ := grd_el h
          obtain ⟨k_now_6, ek_now_6, h⟩ := bnd_ex h
          refine z_iast S hw ek_now_6 2 0 rfl rfl hg dX10_undo_61 (fun H locs hw => ?_)
          obtain ⟨x1_7, ex1_7, h⟩ := bnd_ex h
          refine lv_iinc (v := x1_7) (lv' := [(1, .int x1_7), (0, .ref a_this)]) hx hb dX10_undo_62 hl (k := 1) rfl (by rw [ex1_7]; rfl) (by decide) rfl (fun ls hl => ?_)
          refine lv_goto (tgt := 36) hx hb dX10_undo_65 (by decide) ?_
          exact ih_36 x1_7 k_now_6 H locs ls h hw (lv_sub hl [1, 0] rfl)
    exact hL36_1 N ((0 : Int32)) k_now H locs ls h hw (lv_sub hl [1, 0] rfl)
  · replace h := if_t hc h
    refine lv_bipush (v := (-3 : Int32)) hx hb dX10_undo_7 (by decide) ?_
    cases h
    exact z_iret S hQ hr hw [0, 1, 2] rfl rfl dX10_undo_9
abbrev rmX10_layTrial : Room := { frames := 0, cells := 0, slots := 0, locals := 0 }
theorem dv_X10_layTrial : yX10_layTrial.cls = RX10 ∧ yX10_layTrial.cls ≠ "java/lang/invoke/MethodHandle" ∧ yX10_layTrial.cls ≠ "java/lang/invoke/VarHandle" ∧ (parseMethodDescriptor yX10_layTrial.desc).map (fun d => d.parameters.length) = some 0 := by decide +kernel
noncomputable def f_X10_layTrial_L2 (N : Nat) (j29_1 : (Nat → Int32) → Option ((Nat → Int32))) : Nat → Int32 → (Nat → Int32) → Option ((Nat → Int32))
  | 0, _, _ => none
  | n_2 + 1, x1_2, k_now_3 =>
    (if (16 : Int32) ≤ x1_2 then (j29_1 k_now_3) else (grd (inb x1_2 32) <| grd (inb ((16 : Int32) + x1_2) 32) <| bnd (upd k_now_3 ((16 : Int32) + x1_2).toNatClampNeg (k_now_3 x1_2.toNatClampNeg)) fun (k_now_4 : (Nat → Int32)) => bnd (x1_2 + (1 : Int32)) fun (x1_5 : Int32) => f_X10_layTrial_L2 N j29_1 n_2 x1_5 k_now_4))
noncomputable def f_X10_layTrial (N : Nat)  (k_now : (Nat → Int32)) : Option ((Nat → Int32)) :=
  bnd (fun (k_now_1 : (Nat → Int32)) => (some (k_now_1))) fun (j29_1 : (Nat → Int32) → Option ((Nat → Int32))) => f_X10_layTrial_L2 N j29_1 N ((0 : Int32)) k_now
set_option maxHeartbeats 4000000 in
set_option maxRecDepth 100000 in
theorem c_X10_layTrial (l : Launch) (D : va_G) (cI cJ cZ cS : ClassId) (sz N : Nat) (a_this a_now a_one a_other a_next a_readOne a_readOther a_readNext a_text a_pathInput a_pathGates a_before a_after a_values a_taken a_waves a_row a_seenPair a_seenTime a_seenLate a_isKept a_kept : Nat) (i_this_inputs : Int32) (i_this_gates : Int32) (i_this_readInputs : Int32) (i_this_readGates : Int32) (i_this_length : Int32) (i_this_paths : Int32) (i_this_acts : Int32) (i_this_turn : Int32) (i_this_seen : Int32) (i_this_seed : Int64) (k_now : (Nat → Int32))  (o_now : (Nat → Int32)) (hf : f_X10_layTrial N k_now = some (o_now)) : MetV l yX10_layTrial wsX10_layTrial rmX10_layTrial D (tyA cI cJ cZ cS) [(a_this, .inr (10, [.int i_this_inputs, .int i_this_gates, .ref a_now, .ref a_one, .ref a_other, .ref a_next, .int i_this_readInputs, .int i_this_readGates, .ref a_readOne, .ref a_readOther, .ref a_readNext, .ref a_text, .int i_this_length, .int i_this_paths, .ref a_pathInput, .ref a_pathGates, .ref a_before, .ref a_after, .ref a_values, .ref a_taken, .ref a_waves, .int i_this_acts, .int i_this_turn, .ref a_row, .int i_this_seen, .ref a_seenPair, .ref a_seenTime, .ref a_seenLate, .long i_this_seed, .ref a_isKept, .ref a_kept])), (a_now, .inl (cI, 32, .inl k_now))] sz [.ref a_this] [(a_this, .inr (10, [.int i_this_inputs, .int i_this_gates, .ref a_now, .ref a_one, .ref a_other, .ref a_next, .int i_this_readInputs, .int i_this_readGates, .ref a_readOne, .ref a_readOther, .ref a_readNext, .ref a_text, .int i_this_length, .int i_this_paths, .ref a_pathInput, .ref a_pathGates, .ref a_before, .ref a_after, .ref a_values, .ref a_taken, .ref a_waves, .int i_this_acts, .int i_this_turn, .ref a_row, .int i_this_seen, .ref a_seenPair, .ref a_seenTime, .ref a_seenLate, .long i_this_seed, .ref a_isKept, .ref a_kept])), (a_now, .inl (cI, 32, .inl o_now))] := by
  refine entV (cc := cX10_layTrial) (maxL := 2) (own := RX10) (by decide) rfl rfl (Nat.le_of_ble_eq_true rfl) ?_
  intro p e s m args below meth c A ls Q H locs S hr hw hl hQ
  have hx := S.1.1
  have hb := S.1.2.1
  have hts := S.1.2.2.2.2
  have hl : lv_has ls 2 [(0, .ref a_this)] := hl
  have hinX10 : ∀ w ∈ u_ws RX10 TX10 31, w ∈ wsX10_layTrial := (fun _ h => List.mem_cons_of_mem _ (List.mem_append_right _ h))
  have F7 : FLk s args wsX10_layTrial RX10 7 RX10 TX10 31 10 2 := ⟨hinX10, rfl, by decide, hts (.fieldLink RX10 7 "SlowPathsModel" "now" "[I") (List.mem_of_getElem? (i := 1) rfl)⟩
  have h := hf
  rw [f_X10_layTrial] at h
  refine lv_iconst (v := (0 : Int32)) hx hb dX10_layTrial_0 (by decide) ?_
  refine lv_istore_n (lv' := [(1, .int (0 : Int32)), (0, .ref a_this)]) hx hb dX10_layTrial_1 rfl hl (by decide) rfl (fun ls hl => ?_)
  obtain ⟨j29_1, ej29_1, h⟩ := bnd_ex h
  have hj29_1 : ∀ (k_now_1 : (Nat → Int32)) (H : Heap) (locs : List Loc) (ls : Array Slot), j29_1 k_now_1 = some (o_now) → Wd D (tyA cI cJ cZ cS) A s [(a_this, .inr (10, [.int i_this_inputs, .int i_this_gates, .ref a_now, .ref a_one, .ref a_other, .ref a_next, .int i_this_readInputs, .int i_this_readGates, .ref a_readOne, .ref a_readOther, .ref a_readNext, .ref a_text, .int i_this_length, .int i_this_paths, .ref a_pathInput, .ref a_pathGates, .ref a_before, .ref a_after, .ref a_values, .ref a_taken, .ref a_waves, .int i_this_acts, .int i_this_turn, .ref a_row, .int i_this_seen, .ref a_seenPair, .ref a_seenTime, .ref a_seenLate, .long i_this_seed, .ref a_isKept, .ref a_kept])), (a_now, .inl (cI, 32, .inl k_now_1))] H locs → lv_has ls 2 [] → W p l e rmX10_layTrial s m args below meth c H locs 0 0 Q (F0 m 29 ls []) := by
    intro k_now_1 H locs ls h hw hl
    replace h := ap1 ej29_1 h
    cases h
    exact z_vret S hQ hr hw [0, 1] rfl rfl dX10_layTrial_29
  have hL2_1 : ∀ (nf : Nat) (x1_2 : Int32) (k_now_3 : (Nat → Int32)) (H : Heap) (locs : List Loc) (ls : Array Slot), f_X10_layTrial_L2 N j29_1 nf x1_2 k_now_3 = some (o_now) → Wd D (tyA cI cJ cZ cS) A s [(a_this, .inr (10, [.int i_this_inputs, .int i_this_gates, .ref a_now, .ref a_one, .ref a_other, .ref a_next, .int i_this_readInputs, .int i_this_readGates, .ref a_readOne, .ref a_readOther, .ref a_readNext, .ref a_text, .int i_this_length, .int i_this_paths, .ref a_pathInput, .ref a_pathGates, .ref a_before, .ref a_after, .ref a_values, .ref a_taken, .ref a_waves, .int i_this_acts, .int i_this_turn, .ref a_row, .int i_this_seen, .ref a_seenPair, .ref a_seenTime, .ref a_seenLate, .long i_this_seed, .ref a_isKept, .ref a_kept])), (a_now, .inl (cI, 32, .inl k_now_3))] H locs → lv_has ls 2 [(0, .ref a_this), (1, .int x1_2)] → W p l e rmX10_layTrial s m args below meth c H locs 0 0 Q (F0 m 2 ls []) := by
    intro nf
    induction nf with
    | zero =>
      intro x1_2 k_now_3 H locs ls h
      rw [f_X10_layTrial_L2] at h
      cases h
    | succ n_2 ih_2 =>
      intro x1_2 k_now_3 H locs ls h hw hl
      rw [f_X10_layTrial_L2] at h
      refine lv_iload_n hx hb dX10_layTrial_2 rfl (lv_at hl 1 rfl) ?_
      refine lv_bipush (v := (16 : Int32)) hx hb dX10_layTrial_3 (by decide) ?_
      refine lv_icmp_ge (tgt := 29) hx hb dX10_layTrial_5 (by decide) (fun hc => ?_) (fun hc => ?_)
      · replace h := if_t hc h
        exact hj29_1 k_now_3 H locs ls h hw (lv_sub hl [] rfl)
      · replace h := if_f hc h
        refine lv_aload_n hx hb dX10_layTrial_8 rfl (lv_at hl 0 rfl) ?_
        refine z_get S hw F7 0 rfl rfl dX10_layTrial_9 ?_
        refine lv_bipush (v := (16 : Int32)) hx hb dX10_layTrial_12 (by decide) ?_
        refine lv_iload_n hx hb dX10_layTrial_14 rfl (lv_at hl 1 rfl) ?_
        refine lv_iadd hx hb dX10_layTrial_15 ?_
        refine lv_aload_n hx hb dX10_layTrial_16 rfl (lv_at hl 0 rfl) ?_
        refine z_get S hw F7 0 rfl rfl dX10_layTrial_17 ?_
        refine lv_iload_n hx hb dX10_layTrial_20 rfl (lv_at hl 1 rfl) ?_
        obtain ⟨hg, h⟩ := grd_el h
        refine z_iald S hw 1 0 rfl rfl hg dX10_layTrial_21 ?_
        obtain ⟨hg, h⟩ := grd_el h
        obtain ⟨k_now_4, ek_now_4, h⟩ := bnd_ex h
        refine z_iast S hw ek_now_4 1 0 rfl rfl hg dX10_layTrial_22 (fun H locs hw => ?_)
        obtain ⟨x1_5, ex1_5, h⟩ := bnd_ex h
        refine lv_iinc (v := x1_5) (lv' := [(1, .int x1_5), (0, .ref a_this)]) hx hb dX10_layTrial_23 hl (k := 1) rfl (by rw [ex1_5]; rfl) (by decide) rfl (fun ls hl => ?_)
        refine lv_goto (tgt := 2) hx hb dX10_layTrial_26 (by decide) ?_
        exact ih_2 x1_5 k_now_4 H locs ls h hw (lv_sub hl [1, 0] rfl)
  exact hL2_1 N ((0 : Int32)) k_now H locs ls h hw (lv_sub hl [1, 0] rfl)
abbrev rmX10_longerThan : Room := { frames := 2, cells := 0, slots := 0, locals := 45 }
theorem dv_X10_longerThan : yX10_longerThan.cls = RX10 ∧ yX10_longerThan.cls ≠ "java/lang/invoke/MethodHandle" ∧ yX10_longerThan.cls ≠ "java/lang/invoke/VarHandle" ∧ (parseMethodDescriptor yX10_longerThan.desc).map (fun d => d.parameters.length) = some 1 := by decide +kernel
noncomputable def f_X10_longerThan_L4 (N : Nat) (y1 : Int32) (i_this_gates : Int32) (i_this_paths : Int32) (k_pathGates : (Nat → Int32)) (k_now : (Nat → Int32)) (j36_1 : Int32 → Option (Int32)) : Nat → Int32 → Int32 → Option (Int32)
  | 0, _, _ => none
  | n_4 + 1, x2_2, x3_3 =>
    (if i_this_paths ≤ x3_3 then (j36_1 x2_2) else (obd1 (f_X10_lengthOf N (1 : Int32) x3_3 i_this_gates k_pathGates k_now) fun (r_4 : Int32) => bnd (fun (t_5 : Int32) (t_6 : Int32) => (bnd ((t_6 + t_5)) fun (x2_7 : Int32) => bnd (x3_3 + (1 : Int32)) fun (x3_8 : Int32) => f_X10_longerThan_L4 N y1 i_this_gates i_this_paths k_pathGates k_now j36_1 n_4 x2_7 x3_8)) fun (j28_1 : Int32 → Int32 → Option (Int32)) => (if r_4 < y1 then (j28_1 ((0 : Int32)) x2_2) else (j28_1 ((1 : Int32)) x2_2))))
noncomputable def f_X10_longerThan (N : Nat) (y1 : Int32) (i_this_gates : Int32) (i_this_paths : Int32) (k_pathGates : (Nat → Int32)) (k_now : (Nat → Int32)) : Option (Int32) :=
  bnd (fun (x2_1 : Int32) => (some (x2_1))) fun (j36_1 : Int32 → Option (Int32)) => f_X10_longerThan_L4 N y1 i_this_gates i_this_paths k_pathGates k_now j36_1 N ((0 : Int32)) ((0 : Int32))
set_option maxHeartbeats 4000000 in
set_option maxRecDepth 100000 in
theorem c_X10_longerThan (l : Launch) (D : va_G) (cI cJ cZ cS : ClassId) (sz N : Nat) (a_this a_pathGates a_now a_one a_other a_next a_readOne a_readOther a_readNext a_text a_pathInput a_before a_after a_values a_taken a_waves a_row a_seenPair a_seenTime a_seenLate a_isKept a_kept : Nat) (i_this_inputs : Int32) (i_this_gates : Int32) (i_this_readInputs : Int32) (i_this_readGates : Int32) (i_this_length : Int32) (i_this_paths : Int32) (i_this_acts : Int32) (i_this_turn : Int32) (i_this_seen : Int32) (i_this_seed : Int64) (k_pathGates : (Nat → Int32)) (k_now : (Nat → Int32)) (y1 : Int32) (rr : Int32) (hf : f_X10_longerThan N y1 i_this_gates i_this_paths k_pathGates k_now = some (rr)) : MetIr l yX10_longerThan wsX10_longerThan rmX10_longerThan D (tyA cI cJ cZ cS) [(a_this, .inr (10, [.int i_this_inputs, .int i_this_gates, .ref a_now, .ref a_one, .ref a_other, .ref a_next, .int i_this_readInputs, .int i_this_readGates, .ref a_readOne, .ref a_readOther, .ref a_readNext, .ref a_text, .int i_this_length, .int i_this_paths, .ref a_pathInput, .ref a_pathGates, .ref a_before, .ref a_after, .ref a_values, .ref a_taken, .ref a_waves, .int i_this_acts, .int i_this_turn, .ref a_row, .int i_this_seen, .ref a_seenPair, .ref a_seenTime, .ref a_seenLate, .long i_this_seed, .ref a_isKept, .ref a_kept])), (a_pathGates, .inl (cI, 64, .inl k_pathGates)), (a_now, .inl (cI, 32, .inl k_now))] sz [.ref a_this, .int y1] rr := by
  refine entIr (cc := cX10_longerThan) (maxL := 4) (own := RX10) (by decide) rfl rfl (Nat.le_of_ble_eq_true rfl) ?_
  intro p e s m args below meth c A ls Q S hr hw hl hQ
  have hx := S.1.1
  have hb := S.1.2.1
  have hts := S.1.2.2.2.2
  have hl : lv_has ls 4 [(0, .ref a_this), (1, .int y1)] := hl
  have hinX10 : ∀ w ∈ u_ws RX10 TX10 31, w ∈ wsX10_longerThan := (fun _ h => List.mem_cons_of_mem _ (List.mem_append_right _ h))
  have F124 : FLk s args wsX10_longerThan RX10 124 RX10 TX10 31 10 13 := ⟨hinX10, rfl, by decide, hts (.fieldLink RX10 124 "SlowPathsModel" "paths" "I") (List.mem_of_getElem? (i := 1) rfl)⟩
  have h := hf
  rw [f_X10_longerThan] at h
  refine lv_iconst (v := (0 : Int32)) hx hb dX10_longerThan_0 (by decide) ?_
  refine lv_istore_n (lv' := [(2, .int (0 : Int32)), (0, .ref a_this), (1, .int y1)]) hx hb dX10_longerThan_1 rfl hl (by decide) rfl (fun ls hl => ?_)
  refine lv_iconst (v := (0 : Int32)) hx hb dX10_longerThan_2 (by decide) ?_
  refine lv_istore_n (lv' := [(3, .int (0 : Int32)), (2, .int (0 : Int32)), (0, .ref a_this), (1, .int y1)]) hx hb dX10_longerThan_3 rfl hl (by decide) rfl (fun ls hl => ?_)
  obtain ⟨j36_1, ej36_1, h⟩ := bnd_ex h
  have hj36_1 : ∀ (x2_1 : Int32) (ls : Array Slot), j36_1 x2_1 = some (rr) → lv_has ls 4 [(2, .int x2_1)] → W p l e rmX10_longerThan s m args below meth c s.heap [] 0 0 Q (F0 m 36 ls []) := by
    intro x2_1 ls h hl
    replace h := ap1 ej36_1 h
    refine lv_iload_n hx hb dX10_longerThan_36 rfl (lv_at hl 0 rfl) ?_
    cases h
    exact z_iretr S hQ hr dX10_longerThan_37
  have hL4_1 : ∀ (nf : Nat) (x2_2 : Int32) (x3_3 : Int32) (ls : Array Slot), f_X10_longerThan_L4 N y1 i_this_gates i_this_paths k_pathGates k_now j36_1 nf x2_2 x3_3 = some (rr) → lv_has ls 4 [(0, .ref a_this), (1, .int y1), (2, .int x2_2), (3, .int x3_3)] → W p l e rmX10_longerThan s m args below meth c s.heap [] 0 0 Q (F0 m 4 ls []) := by
    intro nf
    induction nf with
    | zero =>
      intro x2_2 x3_3 ls h
      rw [f_X10_longerThan_L4] at h
      cases h
    | succ n_4 ih_4 =>
      intro x2_2 x3_3 ls h hl
      rw [f_X10_longerThan_L4] at h
      refine lv_iload_n hx hb dX10_longerThan_4 rfl (lv_at hl 3 rfl) ?_
      refine lv_aload_n hx hb dX10_longerThan_5 rfl (lv_at hl 0 rfl) ?_
      refine z_get S hw F124 0 rfl rfl dX10_longerThan_6 ?_
      refine lv_icmp_ge (tgt := 36) hx hb dX10_longerThan_9 (by decide) (fun hc => ?_) (fun hc => ?_)
      · replace h := if_t hc h
        exact hj36_1 x2_2 ls h (lv_sub hl [2] rfl)
      · replace h := if_f hc h
        refine lv_iload_n hx hb dX10_longerThan_12 rfl (lv_at hl 2 rfl) ?_
        refine lv_aload_n hx hb dX10_longerThan_13 rfl (lv_at hl 0 rfl) ?_
        refine lv_iconst (v := (1 : Int32)) hx hb dX10_longerThan_14 (by decide) ?_
        refine lv_iload_n hx hb dX10_longerThan_15 rfl (lv_at hl 3 rfl) ?_
        obtain ⟨r_4, e16_1, h⟩ := obd1_el h
        refine zr_VI (As := [.int (1 : Int32), .int x3_3]) (rest := [.int x2_2]) (q0 := 0) S hw (c_X10_lengthOf l D cI cJ cZ cS s.heap.size N a_this a_pathGates a_now a_one a_other a_next a_readOne a_readOther a_readNext a_text a_pathInput a_before a_after a_values a_taken a_waves a_row a_seenPair a_seenTime a_seenLate a_isKept a_kept i_this_inputs i_this_gates i_this_readInputs i_this_readGates i_this_length i_this_paths i_this_acts i_this_turn i_this_seen i_this_seed k_pathGates k_now (1 : Int32) x3_3 r_4 e16_1) (cwV 2 hts gX10_longerThan_X10_lengthOf rfl rfl rfl dv_X10_lengthOf ⟨Nat.le_of_ble_eq_true rfl, Nat.le_of_ble_eq_true rfl⟩) [0, 1, 2] rfl rfl rfl rfl rfl rfl hl.1 rfl (Nat.le_of_ble_eq_true rfl) dX10_longerThan_16 ⟨Nat.zero_le _, Nat.zero_le _⟩ ?_
        refine lv_iload_n hx hb dX10_longerThan_19 rfl (lv_at hl 1 rfl) ?_
        obtain ⟨j28_1, ej28_1, h⟩ := bnd_ex h
        have hj28_1 : ∀ (t_5 : Int32) (t_6 : Int32) (ls : Array Slot), j28_1 t_5 t_6 = some (rr) → lv_has ls 4 [(0, .ref a_this), (1, .int y1), (3, .int x3_3)] → W p l e rmX10_longerThan s m args below meth c s.heap [] 0 0 Q (F0 m 28 ls [.int t_5, .int t_6]) := by
          intro t_5 t_6 ls h hl
          replace h := ap2 ej28_1 h
          refine lv_iadd hx hb dX10_longerThan_28 ?_
          refine lv_topi (fun x2_7 ex2_7 => ?_)
          replace h := bnd_at ex2_7 h
          refine lv_istore_n (lv' := [(2, .int x2_7), (0, .ref a_this), (1, .int y1), (3, .int x3_3)]) hx hb dX10_longerThan_29 rfl hl (by decide) rfl (fun ls hl => ?_)
          obtain ⟨x3_8, ex3_8, h⟩ := bnd_ex h
          refine lv_iinc (v := x3_8) (lv' := [(3, .int x3_8), (2, .int x2_7), (0, .ref a_this), (1, .int y1)]) hx hb dX10_longerThan_30 hl (k := 3) rfl (by rw [ex3_8]; rfl) (by decide) rfl (fun ls hl => ?_)
          refine lv_goto (tgt := 4) hx hb dX10_longerThan_33 (by decide) ?_
          exact ih_4 x2_7 x3_8 ls h (lv_sub hl [2, 3, 1, 0] rfl)
        refine lv_icmp_lt (tgt := 27) hx hb dX10_longerThan_20 (by decide) (fun hc => ?_) (fun hc => ?_)
        · replace h := if_t hc h
          refine lv_iconst (v := (0 : Int32)) hx hb dX10_longerThan_27 (by decide) ?_
          exact hj28_1 ((0 : Int32)) x2_2 ls h (lv_sub hl [0, 1, 3] rfl)
        · replace h := if_f hc h
          refine lv_iconst (v := (1 : Int32)) hx hb dX10_longerThan_23 (by decide) ?_
          refine lv_goto (tgt := 28) hx hb dX10_longerThan_24 (by decide) ?_
          exact hj28_1 ((1 : Int32)) x2_2 ls h (lv_sub hl [0, 1, 3] rfl)
  exact hL4_1 N ((0 : Int32)) ((0 : Int32)) ls h (lv_sub hl [2, 3, 1, 0] rfl)
