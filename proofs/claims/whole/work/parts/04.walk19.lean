abbrev rmX10_slower : Room := { frames := 5, cells := 0, slots := 0, locals := 118 }
theorem dv_X10_slower : yX10_slower.cls = RX10 ∧ yX10_slower.cls ≠ "java/lang/invoke/MethodHandle" ∧ yX10_slower.cls ≠ "java/lang/invoke/VarHandle" ∧ (parseMethodDescriptor yX10_slower.desc).map (fun d => d.parameters.length) = some 1 := by decide +kernel
noncomputable def f_X10_slower_L65 (N : Nat) (i_this_inputs : Int32) (i_this_gates : Int32) (i_this_seen : Int32) (k_seenPair : (Nat → Int32)) (k_seenTime : (Nat → Int32)) (k_other : (Nat → Int32)) (k_one : (Nat → Int32)) (k_seenLate : (Nat → Int32)) (k_now_35 : (Nat → Int32)) (j130_1 : Int32 → (Nat → Int32) → (Nat → Int32) → (Nat → Int32) → (Nat → Int32) → Option (Int32 × (Nat → Int32) × (Nat → Int32) × (Nat → Int32) × (Nat → Int32) × (Nat → Int32))) : Nat → Int32 → Int32 → (Nat → Int32) → (Nat → Int32) → (Nat → Int32) → (Nat → Int32) → Option (Int32 × (Nat → Int32) × (Nat → Int32) × (Nat → Int32) × (Nat → Int32) × (Nat → Int32))
  | 0, _, _, _, _, _, _ => none
  | n_65 + 1, x6_46, x7_47, k_before_48, k_after_49, k_values_50, k_waves_51 =>
    (if i_this_seen ≤ x7_47 then (j130_1 x6_46 k_before_48 k_after_49 k_values_50 k_waves_51) else ((if x6_46 = (0 : Int32) then (j130_1 x6_46 k_before_48 k_after_49 k_values_50 k_waves_51) else (grd (inb x7_47 6) <| grd (inb x7_47 6) <| obd5 (f_X10_isLate N (1 : Int32) (k_seenPair x7_47.toNatClampNeg) (k_seenTime x7_47.toNatClampNeg) i_this_inputs i_this_gates k_now_35 k_other k_one k_before_48 k_after_49 k_values_50 k_waves_51) fun (r_52 : Int32) (k_before_53 : (Nat → Int32)) (k_after_54 : (Nat → Int32)) (k_values_55 : (Nat → Int32)) (k_waves_56 : (Nat → Int32)) => grd (inb x7_47 6) <| bnd (fun (t_57 : Int32) (t_58 : Int32) => (bnd (fun (t_59 : Int32) => (bnd (x7_47 + (1 : Int32)) fun (x7_60 : Int32) => f_X10_slower_L65 N i_this_inputs i_this_gates i_this_seen k_seenPair k_seenTime k_other k_one k_seenLate k_now_35 j130_1 n_65 t_59 x7_60 k_before_53 k_after_54 k_values_55 k_waves_56)) fun (j122_1 : Int32 → Option (Int32 × (Nat → Int32) × (Nat → Int32) × (Nat → Int32) × (Nat → Int32) × (Nat → Int32))) => (if t_58 = t_57 then (j122_1 ((1 : Int32))) else (j122_1 ((0 : Int32)))))) fun (j114_1 : Int32 → Int32 → Option (Int32 × (Nat → Int32) × (Nat → Int32) × (Nat → Int32) × (Nat → Int32) × (Nat → Int32))) => (if (k_seenLate x7_47.toNatClampNeg) = (1 : Int32) then (j114_1 ((1 : Int32)) r_52) else (j114_1 ((0 : Int32)) r_52))))))
noncomputable def f_X10_slower_L33 (N : Nat) (i_this_inputs : Int32) (i_this_gates : Int32) (i_this_seen : Int32) (k_seenPair : (Nat → Int32)) (k_seenTime : (Nat → Int32)) (k_other : (Nat → Int32)) (k_one : (Nat → Int32)) (k_seenLate : (Nat → Int32)) (x4_11 : Int32) (j171_1 : Int32 → Int32 → (Nat → Int32) → (Nat → Int32) → (Nat → Int32) → (Nat → Int32) → (Nat → Int32) → Option (Int32 × (Nat → Int32) × (Nat → Int32) × (Nat → Int32) × (Nat → Int32) × (Nat → Int32))) : Nat → Int32 → Int32 → Int32 → (Nat → Int32) → (Nat → Int32) → (Nat → Int32) → (Nat → Int32) → (Nat → Int32) → Option (Int32 × (Nat → Int32) × (Nat → Int32) × (Nat → Int32) × (Nat → Int32) × (Nat → Int32))
  | 0, _, _, _, _, _, _, _, _ => none
  | n_33 + 1, x2_25, x3_26, x5_27, k_now_28, k_before_29, k_after_30, k_values_31, k_waves_32 =>
    (if (9 : Int32) < x5_27 then (j171_1 x2_25 x3_26 k_now_28 k_before_29 k_after_30 k_values_31 k_waves_32) else (obd1 (f_X10_layTrial N k_now_28) fun (k_now_33 : (Nat → Int32)) => bnd (((24 : Int32) + x4_11)) fun (t_34 : Int32) => grd (inb t_34 32) <| grd (inb t_34 32) <| bnd (upd k_now_33 t_34.toNatClampNeg ((k_now_33 t_34.toNatClampNeg) + x5_27)) fun (k_now_35 : (Nat → Int32)) => bnd (fun (x6_36 : Int32) (k_before_37 : (Nat → Int32)) (k_after_38 : (Nat → Int32)) (k_values_39 : (Nat → Int32)) (k_waves_40 : (Nat → Int32)) => (bnd (fun (t_41 : Int32) => (bnd (fun (t_42 : Int32) (t_43 : Int32) => (bnd ((t_43 + t_42)) fun (x2_44 : Int32) => bnd (x5_27 + (1 : Int32)) fun (x5_45 : Int32) => f_X10_slower_L33 N i_this_inputs i_this_gates i_this_seen k_seenPair k_seenTime k_other k_one k_seenLate x4_11 j171_1 n_33 x2_44 t_41 x5_45 k_now_35 k_before_37 k_after_38 k_values_39 k_waves_40)) fun (j163_1 : Int32 → Int32 → Option (Int32 × (Nat → Int32) × (Nat → Int32) × (Nat → Int32) × (Nat → Int32) × (Nat → Int32))) => (if x6_36 = (0 : Int32) then (j163_1 ((0 : Int32)) x2_25) else (j163_1 ((1 : Int32)) x2_25)))) fun (j151_1 : Int32 → Option (Int32 × (Nat → Int32) × (Nat → Int32) × (Nat → Int32) × (Nat → Int32) × (Nat → Int32))) => bnd (α := Option (Int32 × (Nat → Int32) × (Nat → Int32) × (Nat → Int32) × (Nat → Int32) × (Nat → Int32))) (j151_1 x3_26) fun (j150_1 : Option (Int32 × (Nat → Int32) × (Nat → Int32) × (Nat → Int32) × (Nat → Int32) × (Nat → Int32))) => (if x6_36 = (0 : Int32) then (j150_1) else ((if x2_25 = (0 : Int32) then (j151_1 ((((10 : Int32) * x4_11) + x5_27))) else (j150_1)))))) fun (j130_1 : Int32 → (Nat → Int32) → (Nat → Int32) → (Nat → Int32) → (Nat → Int32) → Option (Int32 × (Nat → Int32) × (Nat → Int32) × (Nat → Int32) × (Nat → Int32) × (Nat → Int32))) => f_X10_slower_L65 N i_this_inputs i_this_gates i_this_seen k_seenPair k_seenTime k_other k_one k_seenLate k_now_35 j130_1 N ((1 : Int32)) ((0 : Int32)) k_before_29 k_after_30 k_values_31 k_waves_32))
noncomputable def f_X10_slower_L21 (N : Nat) (i_this_inputs : Int32) (i_this_gates : Int32) (i_this_seen : Int32) (k_seenPair : (Nat → Int32)) (k_seenTime : (Nat → Int32)) (k_other : (Nat → Int32)) (k_one : (Nat → Int32)) (k_seenLate : (Nat → Int32)) (j177_1 : Int32 → Int32 → (Nat → Int32) → (Nat → Int32) → (Nat → Int32) → (Nat → Int32) → (Nat → Int32) → Option (Int32 × (Nat → Int32) × (Nat → Int32) × (Nat → Int32) × (Nat → Int32) × (Nat → Int32))) : Nat → Int32 → Int32 → Int32 → (Nat → Int32) → (Nat → Int32) → (Nat → Int32) → (Nat → Int32) → (Nat → Int32) → Option (Int32 × (Nat → Int32) × (Nat → Int32) × (Nat → Int32) × (Nat → Int32) × (Nat → Int32))
  | 0, _, _, _, _, _, _, _, _ => none
  | n_21 + 1, x2_9, x3_10, x4_11, k_now_12, k_before_13, k_after_14, k_values_15, k_waves_16 =>
    (if i_this_gates ≤ x4_11 then (j177_1 x2_9 x3_10 k_now_12 k_before_13 k_after_14 k_values_15 k_waves_16) else (bnd (fun (x2_17 : Int32) (x3_18 : Int32) (k_now_19 : (Nat → Int32)) (k_before_20 : (Nat → Int32)) (k_after_21 : (Nat → Int32)) (k_values_22 : (Nat → Int32)) (k_waves_23 : (Nat → Int32)) => (bnd (x4_11 + (1 : Int32)) fun (x4_24 : Int32) => f_X10_slower_L21 N i_this_inputs i_this_gates i_this_seen k_seenPair k_seenTime k_other k_one k_seenLate j177_1 n_21 x2_17 x3_18 x4_24 k_now_19 k_before_20 k_after_21 k_values_22 k_waves_23)) fun (j171_1 : Int32 → Int32 → (Nat → Int32) → (Nat → Int32) → (Nat → Int32) → (Nat → Int32) → (Nat → Int32) → Option (Int32 × (Nat → Int32) × (Nat → Int32) × (Nat → Int32) × (Nat → Int32) × (Nat → Int32))) => f_X10_slower_L33 N i_this_inputs i_this_gates i_this_seen k_seenPair k_seenTime k_other k_one k_seenLate x4_11 j171_1 N x2_9 x3_10 ((1 : Int32)) k_now_12 k_before_13 k_after_14 k_values_15 k_waves_16))
noncomputable def f_X10_slower (N : Nat) (y1 : Int32) (i_this_inputs : Int32) (i_this_gates : Int32) (i_this_seen : Int32) (k_now : (Nat → Int32)) (k_seenPair : (Nat → Int32)) (k_seenTime : (Nat → Int32)) (k_other : (Nat → Int32)) (k_one : (Nat → Int32)) (k_before : (Nat → Int32)) (k_after : (Nat → Int32)) (k_values : (Nat → Int32)) (k_waves : (Nat → Int32)) (k_seenLate : (Nat → Int32)) : Option (Int32 × (Nat → Int32) × (Nat → Int32) × (Nat → Int32) × (Nat → Int32) × (Nat → Int32)) :=
  obd1 (f_X10_in N (y1.toInt64) (0 : Int64) (1 : Int64)) fun (r_1 : Int32) => (if r_1 = (0 : Int32) then (some ((-2 : Int32), k_now, k_before, k_after, k_values, k_waves)) else (bnd (fun (x2_2 : Int32) (x3_3 : Int32) (k_now_4 : (Nat → Int32)) (k_before_5 : (Nat → Int32)) (k_after_6 : (Nat → Int32)) (k_values_7 : (Nat → Int32)) (k_waves_8 : (Nat → Int32)) => ((if y1 = (0 : Int32) then (some (x2_2, k_now_4, k_before_5, k_after_6, k_values_7, k_waves_8)) else (some (x3_3, k_now_4, k_before_5, k_after_6, k_values_7, k_waves_8))))) fun (j177_1 : Int32 → Int32 → (Nat → Int32) → (Nat → Int32) → (Nat → Int32) → (Nat → Int32) → (Nat → Int32) → Option (Int32 × (Nat → Int32) × (Nat → Int32) × (Nat → Int32) × (Nat → Int32) × (Nat → Int32))) => f_X10_slower_L21 N i_this_inputs i_this_gates i_this_seen k_seenPair k_seenTime k_other k_one k_seenLate j177_1 N ((0 : Int32)) ((-9 : Int32)) ((0 : Int32)) k_now k_before k_after k_values k_waves))
set_option maxHeartbeats 4000000 in
set_option maxRecDepth 100000 in
theorem c_X10_slower (l : Launch) (D : va_G) (cI cJ cZ cS : ClassId) (sz N : Nat) (a_this a_now a_seenPair a_seenTime a_other a_one a_before a_after a_values a_waves a_seenLate a_next a_readOne a_readOther a_readNext a_text a_pathInput a_pathGates a_taken a_row a_isKept a_kept : Nat) (i_this_inputs : Int32) (i_this_gates : Int32) (i_this_readInputs : Int32) (i_this_readGates : Int32) (i_this_length : Int32) (i_this_paths : Int32) (i_this_acts : Int32) (i_this_turn : Int32) (i_this_seen : Int32) (i_this_seed : Int64) (k_now : (Nat → Int32)) (k_seenPair : (Nat → Int32)) (k_seenTime : (Nat → Int32)) (k_other : (Nat → Int32)) (k_one : (Nat → Int32)) (k_before : (Nat → Int32)) (k_after : (Nat → Int32)) (k_values : (Nat → Int32)) (k_waves : (Nat → Int32)) (k_seenLate : (Nat → Int32)) (y1 : Int32) (rr : Int32) (o_now : (Nat → Int32)) (o_before : (Nat → Int32)) (o_after : (Nat → Int32)) (o_values : (Nat → Int32)) (o_waves : (Nat → Int32)) (hf : f_X10_slower N y1 i_this_inputs i_this_gates i_this_seen k_now k_seenPair k_seenTime k_other k_one k_before k_after k_values k_waves k_seenLate = some (rr, o_now, o_before, o_after, o_values, o_waves)) : MetI l yX10_slower wsX10_slower rmX10_slower D (tyA cI cJ cZ cS) [(a_this, .inr (10, [.int i_this_inputs, .int i_this_gates, .ref a_now, .ref a_one, .ref a_other, .ref a_next, .int i_this_readInputs, .int i_this_readGates, .ref a_readOne, .ref a_readOther, .ref a_readNext, .ref a_text, .int i_this_length, .int i_this_paths, .ref a_pathInput, .ref a_pathGates, .ref a_before, .ref a_after, .ref a_values, .ref a_taken, .ref a_waves, .int i_this_acts, .int i_this_turn, .ref a_row, .int i_this_seen, .ref a_seenPair, .ref a_seenTime, .ref a_seenLate, .long i_this_seed, .ref a_isKept, .ref a_kept])), (a_now, .inl (cI, 32, .inl k_now)), (a_seenPair, .inl (cI, 6, .inl k_seenPair)), (a_seenTime, .inl (cI, 6, .inl k_seenTime)), (a_other, .inl (cI, 8, .inl k_other)), (a_one, .inl (cI, 8, .inl k_one)), (a_before, .inl (cI, 12, .inl k_before)), (a_after, .inl (cI, 12, .inl k_after)), (a_values, .inl (cI, 12, .inl k_values)), (a_waves, .inl (cI, 1200, .inl k_waves)), (a_seenLate, .inl (cI, 6, .inl k_seenLate))] sz [.ref a_this, .int y1] rr [(a_this, .inr (10, [.int i_this_inputs, .int i_this_gates, .ref a_now, .ref a_one, .ref a_other, .ref a_next, .int i_this_readInputs, .int i_this_readGates, .ref a_readOne, .ref a_readOther, .ref a_readNext, .ref a_text, .int i_this_length, .int i_this_paths, .ref a_pathInput, .ref a_pathGates, .ref a_before, .ref a_after, .ref a_values, .ref a_taken, .ref a_waves, .int i_this_acts, .int i_this_turn, .ref a_row, .int i_this_seen, .ref a_seenPair, .ref a_seenTime, .ref a_seenLate, .long i_this_seed, .ref a_isKept, .ref a_kept])), (a_now, .inl (cI, 32, .inl o_now)), (a_seenPair, .inl (cI, 6, .inl k_seenPair)), (a_seenTime, .inl (cI, 6, .inl k_seenTime)), (a_other, .inl (cI, 8, .inl k_other)), (a_one, .inl (cI, 8, .inl k_one)), (a_before, .inl (cI, 12, .inl o_before)), (a_after, .inl (cI, 12, .inl o_after)), (a_values, .inl (cI, 12, .inl o_values)), (a_waves, .inl (cI, 1200, .inl o_waves)), (a_seenLate, .inl (cI, 6, .inl k_seenLate))] := by
  refine entI (cc := cX10_slower) (maxL := 8) (own := RX10) (by decide) rfl rfl (Nat.le_of_ble_eq_true rfl) ?_
  intro p e s m args below meth c A ls Q H locs S hr hw hl hQ
  have hx := S.1.1
  have hb := S.1.2.1
  have hts := S.1.2.2.2.2
  have hl : lv_has ls 8 [(0, .ref a_this), (1, .int y1)] := hl
  have hinX10 : ∀ w ∈ u_ws RX10 TX10 31, w ∈ wsX10_slower := (fun _ h => List.mem_cons_of_mem _ (List.mem_append_right _ h))
  have F7 : FLk s args wsX10_slower RX10 7 RX10 TX10 31 10 2 := ⟨hinX10, rfl, by decide, hts (.fieldLink RX10 7 "SlowPathsModel" "now" "[I") (List.mem_of_getElem? (i := 2) rfl)⟩
  have F58 : FLk s args wsX10_slower RX10 58 RX10 TX10 31 10 25 := ⟨hinX10, rfl, by decide, hts (.fieldLink RX10 58 "SlowPathsModel" "seenPair" "[I") (List.mem_of_getElem? (i := 4) rfl)⟩
  have F61 : FLk s args wsX10_slower RX10 61 RX10 TX10 31 10 26 := ⟨hinX10, rfl, by decide, hts (.fieldLink RX10 61 "SlowPathsModel" "seenTime" "[I") (List.mem_of_getElem? (i := 5) rfl)⟩
  have F64 : FLk s args wsX10_slower RX10 64 RX10 TX10 31 10 27 := ⟨hinX10, rfl, by decide, hts (.fieldLink RX10 64 "SlowPathsModel" "seenLate" "[I") (List.mem_of_getElem? (i := 6) rfl)⟩
  have F115 : FLk s args wsX10_slower RX10 115 RX10 TX10 31 10 1 := ⟨hinX10, rfl, by decide, hts (.fieldLink RX10 115 "SlowPathsModel" "gates" "I") (List.mem_of_getElem? (i := 1) rfl)⟩
  have F244 : FLk s args wsX10_slower RX10 244 RX10 TX10 31 10 24 := ⟨hinX10, rfl, by decide, hts (.fieldLink RX10 244 "SlowPathsModel" "seen" "I") (List.mem_of_getElem? (i := 3) rfl)⟩
  have h := hf
  rw [f_X10_slower] at h
  refine lv_iload_n hx hb dX10_slower_0 rfl (lv_at hl 1 rfl) ?_
  refine lv_i2l hx hb dX10_slower_1 rfl ?_
  refine lv_lconst (v := (0 : Int64)) hx hb dX10_slower_2 (by decide) ?_
  refine lv_lconst (v := (1 : Int64)) hx hb dX10_slower_3 (by decide) ?_
  obtain ⟨r_1, e4_1, h⟩ := obd1_el h
  refine zr_SI (As := [.long (y1.toInt64), .long (0 : Int64), .long (1 : Int64)]) (rest := []) (q0 := 0) (ci := 0) (fs := []) (qc := (RX0, TX0, 4)) S hw (c_X10_in l D cI cJ cZ cS H.size N (y1.toInt64) (0 : Int64) (1 : Int64) r_1 e4_1) (va_cwS 3 hts gX10_slower_X10_in rfl rfl rfl ds_X10_in ⟨Nat.le_of_ble_eq_true rfl, Nat.le_of_ble_eq_true rfl⟩) [] rfl rfl rfl hl.1 rfl (Nat.le_of_ble_eq_true rfl) dX10_slower_4 ⟨Nat.zero_le _, Nat.zero_le _⟩ ?_
  refine lv_if_ne (tgt := 13) hx hb dX10_slower_7 (by decide) (fun hc => ?_) (fun hc => ?_)
  · replace h := if_f hc h
    refine lv_iconst (v := (0 : Int32)) hx hb dX10_slower_13 (by decide) ?_
    refine lv_istore_n (lv' := [(2, .int (0 : Int32)), (0, .ref a_this), (1, .int y1)]) hx hb dX10_slower_14 rfl hl (by decide) rfl (fun ls hl => ?_)
    refine lv_bipush (v := (-9 : Int32)) hx hb dX10_slower_15 (by decide) ?_
    refine lv_istore_n (lv' := [(3, .int (-9 : Int32)), (2, .int (0 : Int32)), (0, .ref a_this), (1, .int y1)]) hx hb dX10_slower_17 rfl hl (by decide) rfl (fun ls hl => ?_)
    refine lv_iconst (v := (0 : Int32)) hx hb dX10_slower_18 (by decide) ?_
    refine lv_istore (lv' := [(4, .int (0 : Int32)), (3, .int (-9 : Int32)), (2, .int (0 : Int32)), (0, .ref a_this), (1, .int y1)]) hx hb dX10_slower_19 hl (by decide) rfl (fun ls hl => ?_)
    obtain ⟨j177_1, ej177_1, h⟩ := bnd_ex h
    have hj177_1 : ∀ (x2_2 : Int32) (x3_3 : Int32) (k_now_4 : (Nat → Int32)) (k_before_5 : (Nat → Int32)) (k_after_6 : (Nat → Int32)) (k_values_7 : (Nat → Int32)) (k_waves_8 : (Nat → Int32)) (H : Heap) (locs : List Loc) (ls : Array Slot), j177_1 x2_2 x3_3 k_now_4 k_before_5 k_after_6 k_values_7 k_waves_8 = some (rr, o_now, o_before, o_after, o_values, o_waves) → Wd D (tyA cI cJ cZ cS) A s [(a_this, .inr (10, [.int i_this_inputs, .int i_this_gates, .ref a_now, .ref a_one, .ref a_other, .ref a_next, .int i_this_readInputs, .int i_this_readGates, .ref a_readOne, .ref a_readOther, .ref a_readNext, .ref a_text, .int i_this_length, .int i_this_paths, .ref a_pathInput, .ref a_pathGates, .ref a_before, .ref a_after, .ref a_values, .ref a_taken, .ref a_waves, .int i_this_acts, .int i_this_turn, .ref a_row, .int i_this_seen, .ref a_seenPair, .ref a_seenTime, .ref a_seenLate, .long i_this_seed, .ref a_isKept, .ref a_kept])), (a_now, .inl (cI, 32, .inl k_now_4)), (a_seenPair, .inl (cI, 6, .inl k_seenPair)), (a_seenTime, .inl (cI, 6, .inl k_seenTime)), (a_other, .inl (cI, 8, .inl k_other)), (a_one, .inl (cI, 8, .inl k_one)), (a_before, .inl (cI, 12, .inl k_before_5)), (a_after, .inl (cI, 12, .inl k_after_6)), (a_values, .inl (cI, 12, .inl k_values_7)), (a_waves, .inl (cI, 1200, .inl k_waves_8)), (a_seenLate, .inl (cI, 6, .inl k_seenLate))] H locs → lv_has ls 8 [(1, .int y1), (2, .int x2_2), (3, .int x3_3)] → W p l e rmX10_slower s m args below meth c H locs 0 0 Q (F0 m 177 ls []) := by
      intro x2_2 x3_3 k_now_4 k_before_5 k_after_6 k_values_7 k_waves_8 H locs ls h hw hl
      replace h := ap7 ej177_1 h
      refine lv_iload_n hx hb dX10_slower_177 rfl (lv_at hl 0 rfl) ?_
      refine lv_if_ne (tgt := 185) hx hb dX10_slower_178 (by decide) (fun hc => ?_) (fun hc => ?_)
      · replace h := if_f hc h
        refine lv_iload_n hx hb dX10_slower_185 rfl (lv_at hl 2 rfl) ?_
        cases h
        exact z_iret S hQ hr hw [0, 1, 2, 3, 4, 5, 6, 7, 8, 9, 10] rfl rfl dX10_slower_186
      · replace h := if_t hc h
        refine lv_iload_n hx hb dX10_slower_181 rfl (lv_at hl 1 rfl) ?_
        refine lv_goto (tgt := 186) hx hb dX10_slower_182 (by decide) ?_
        cases h
        exact z_iret S hQ hr hw [0, 1, 2, 3, 4, 5, 6, 7, 8, 9, 10] rfl rfl dX10_slower_186
    have hL21_1 : ∀ (nf : Nat) (x2_9 : Int32) (x3_10 : Int32) (x4_11 : Int32) (k_now_12 : (Nat → Int32)) (k_before_13 : (Nat → Int32)) (k_after_14 : (Nat → Int32)) (k_values_15 : (Nat → Int32)) (k_waves_16 : (Nat → Int32)) (H : Heap) (locs : List Loc) (ls : Array Slot), f_X10_slower_L21 N i_this_inputs i_this_gates i_this_seen k_seenPair k_seenTime k_other k_one k_seenLate j177_1 nf x2_9 x3_10 x4_11 k_now_12 k_before_13 k_after_14 k_values_15 k_waves_16 = some (rr, o_now, o_before, o_after, o_values, o_waves) → Wd D (tyA cI cJ cZ cS) A s [(a_this, .inr (10, [.int i_this_inputs, .int i_this_gates, .ref a_now, .ref a_one, .ref a_other, .ref a_next, .int i_this_readInputs, .int i_this_readGates, .ref a_readOne, .ref a_readOther, .ref a_readNext, .ref a_text, .int i_this_length, .int i_this_paths, .ref a_pathInput, .ref a_pathGates, .ref a_before, .ref a_after, .ref a_values, .ref a_taken, .ref a_waves, .int i_this_acts, .int i_this_turn, .ref a_row, .int i_this_seen, .ref a_seenPair, .ref a_seenTime, .ref a_seenLate, .long i_this_seed, .ref a_isKept, .ref a_kept])), (a_now, .inl (cI, 32, .inl k_now_12)), (a_seenPair, .inl (cI, 6, .inl k_seenPair)), (a_seenTime, .inl (cI, 6, .inl k_seenTime)), (a_other, .inl (cI, 8, .inl k_other)), (a_one, .inl (cI, 8, .inl k_one)), (a_before, .inl (cI, 12, .inl k_before_13)), (a_after, .inl (cI, 12, .inl k_after_14)), (a_values, .inl (cI, 12, .inl k_values_15)), (a_waves, .inl (cI, 1200, .inl k_waves_16)), (a_seenLate, .inl (cI, 6, .inl k_seenLate))] H locs → lv_has ls 8 [(0, .ref a_this), (1, .int y1), (2, .int x2_9), (3, .int x3_10), (4, .int x4_11)] → W p l e rmX10_slower s m args below meth c H locs 0 0 Q (F0 m 21 ls []) := by
      intro nf
      induction nf with
      | zero =>
        intro x2_9 x3_10 x4_11 k_now_12 k_before_13 k_after_14 k_values_15 k_waves_16 H locs ls h
        rw [f_X10_slower_L21] at h
        cases h
      | succ n_21 ih_21 =>
        intro x2_9 x3_10 x4_11 k_now_12 k_before_13 k_after_14 k_values_15 k_waves_16 H locs ls h hw hl
        rw [f_X10_slower_L21] at h
        refine lv_iload hx hb dX10_slower_21 (lv_at hl 4 rfl) ?_
        refine lv_aload_n hx hb dX10_slower_23 rfl (lv_at hl 0 rfl) ?_
        refine z_get S hw F115 0 rfl rfl dX10_slower_24 ?_
        refine lv_icmp_ge (tgt := 177) hx hb dX10_slower_27 (by decide) (fun hc => ?_) (fun hc => ?_)
        · replace h := if_t hc h
          exact hj177_1 x2_9 x3_10 k_now_12 k_before_13 k_after_14 k_values_15 k_waves_16 H locs ls h hw (lv_sub hl [1, 2, 3] rfl)
        · replace h := if_f hc h
          refine lv_iconst (v := (1 : Int32)) hx hb dX10_slower_30 (by decide) ?_
          refine lv_istore (lv' := [(5, .int (1 : Int32)), (0, .ref a_this), (1, .int y1), (2, .int x2_9), (3, .int x3_10), (4, .int x4_11)]) hx hb dX10_slower_31 hl (by decide) rfl (fun ls hl => ?_)
          obtain ⟨j171_1, ej171_1, h⟩ := bnd_ex h
          have hj171_1 : ∀ (x2_17 : Int32) (x3_18 : Int32) (k_now_19 : (Nat → Int32)) (k_before_20 : (Nat → Int32)) (k_after_21 : (Nat → Int32)) (k_values_22 : (Nat → Int32)) (k_waves_23 : (Nat → Int32)) (H : Heap) (locs : List Loc) (ls : Array Slot), j171_1 x2_17 x3_18 k_now_19 k_before_20 k_after_21 k_values_22 k_waves_23 = some (rr, o_now, o_before, o_after, o_values, o_waves) → Wd D (tyA cI cJ cZ cS) A s [(a_this, .inr (10, [.int i_this_inputs, .int i_this_gates, .ref a_now, .ref a_one, .ref a_other, .ref a_next, .int i_this_readInputs, .int i_this_readGates, .ref a_readOne, .ref a_readOther, .ref a_readNext, .ref a_text, .int i_this_length, .int i_this_paths, .ref a_pathInput, .ref a_pathGates, .ref a_before, .ref a_after, .ref a_values, .ref a_taken, .ref a_waves, .int i_this_acts, .int i_this_turn, .ref a_row, .int i_this_seen, .ref a_seenPair, .ref a_seenTime, .ref a_seenLate, .long i_this_seed, .ref a_isKept, .ref a_kept])), (a_now, .inl (cI, 32, .inl k_now_19)), (a_seenPair, .inl (cI, 6, .inl k_seenPair)), (a_seenTime, .inl (cI, 6, .inl k_seenTime)), (a_other, .inl (cI, 8, .inl k_other)), (a_one, .inl (cI, 8, .inl k_one)), (a_before, .inl (cI, 12, .inl k_before_20)), (a_after, .inl (cI, 12, .inl k_after_21)), (a_values, .inl (cI, 12, .inl k_values_22)), (a_waves, .inl (cI, 1200, .inl k_waves_23)), (a_seenLate, .inl (cI, 6, .inl k_seenLate))] H locs → lv_has ls 8 [(0, .ref a_this), (1, .int y1), (2, .int x2_17), (3, .int x3_18), (4, .int x4_11)] → W p l e rmX10_slower s m args below meth c H locs 0 0 Q (F0 m 171 ls []) := by
            intro x2_17 x3_18 k_now_19 k_before_20 k_after_21 k_values_22 k_waves_23 H locs ls h hw hl
            replace h := ap7 ej171_1 h
            obtain ⟨x4_24, ex4_24, h⟩ := bnd_ex h
            refine lv_iinc (v := x4_24) (lv' := [(4, .int x4_24), (0, .ref a_this), (1, .int y1), (2, .int x2_17), (3, .int x3_18)]) hx hb dX10_slower_171 hl (k := 4) rfl (by rw [ex4_24]; rfl) (by decide) rfl (fun ls hl => ?_)
            refine lv_goto (tgt := 21) hx hb dX10_slower_174 (by decide) ?_
            exact ih_21 x2_17 x3_18 x4_24 k_now_19 k_before_20 k_after_21 k_values_22 k_waves_23 H locs ls h hw (lv_sub hl [1, 2, 3, 4, 0] rfl)
          have hL33_1 : ∀ (nf : Nat) (x2_25 : Int32) (x3_26 : Int32) (x5_27 : Int32) (k_now_28 : (Nat → Int32)) (k_before_29 : (Nat → Int32)) (k_after_30 : (Nat → Int32)) (k_values_31 : (Nat → Int32)) (k_waves_32 : (Nat → Int32)) (H : Heap) (locs : List Loc) (ls : Array Slot), f_X10_slower_L33 N i_this_inputs i_this_gates i_this_seen k_seenPair k_seenTime k_other k_one k_seenLate x4_11 j171_1 nf x2_25 x3_26 x5_27 k_now_28 k_before_29 k_after_30 k_values_31 k_waves_32 = some (rr, o_now, o_before, o_after, o_values, o_waves) → Wd D (tyA cI cJ cZ cS) A s [(a_this, .inr (10, [.int i_this_inputs, .int i_this_gates, .ref a_now, .ref a_one, .ref a_other, .ref a_next, .int i_this_readInputs, .int i_this_readGates, .ref a_readOne, .ref a_readOther, .ref a_readNext, .ref a_text, .int i_this_length, .int i_this_paths, .ref a_pathInput, .ref a_pathGates, .ref a_before, .ref a_after, .ref a_values, .ref a_taken, .ref a_waves, .int i_this_acts, .int i_this_turn, .ref a_row, .int i_this_seen, .ref a_seenPair, .ref a_seenTime, .ref a_seenLate, .long i_this_seed, .ref a_isKept, .ref a_kept])), (a_now, .inl (cI, 32, .inl k_now_28)), (a_seenPair, .inl (cI, 6, .inl k_seenPair)), (a_seenTime, .inl (cI, 6, .inl k_seenTime)), (a_other, .inl (cI, 8, .inl k_other)), (a_one, .inl (cI, 8, .inl k_one)), (a_before, .inl (cI, 12, .inl k_before_29)), (a_after, .inl (cI, 12, .inl k_after_30)), (a_values, .inl (cI, 12, .inl k_values_31)), (a_waves, .inl (cI, 1200, .inl k_waves_32)), (a_seenLate, .inl (cI, 6, .inl k_seenLate))] H locs → lv_has ls 8 [(0, .ref a_this), (1, .int y1), (2, .int x2_25), (3, .int x3_26), (4, .int x4_11), (5, .int x5_27)] → W p l e rmX10_slower s m args below meth c H locs 0 0 Q (F0 m 33 ls []) := by
            intro nf
            induction nf with
            | zero =>
              intro x2_25 x3_26 x5_27 k_now_28 k_before_29 k_after_30 k_values_31 k_waves_32 H locs ls h
              rw [f_X10_slower_L33] at h
              cases h
            | succ n_33 ih_33 =>
              intro x2_25 x3_26 x5_27 k_now_28 k_before_29 k_after_30 k_values_31 k_waves_32 H locs ls h hw hl
              rw [f_X10_slower_L33] at h
              refine lv_iload hx hb dX10_slower_33 (lv_at hl 5 rfl) ?_
              refine lv_bipush (v := (9 : Int32)) hx hb dX10_slower_35 (by decide) ?_
              refine lv_icmp_gt (tgt := 171) hx hb dX10_slower_37 (by decide) (fun hc => ?_) (fun hc => ?_)
              · replace h := if_t hc h
                exact hj171_1 x2_25 x3_26 k_now_28 k_before_29 k_after_30 k_values_31 k_waves_32 H locs ls h hw (lv_sub hl [0, 1, 2, 3, 4] rfl)
              · replace h := if_f hc h
                refine lv_aload_n hx hb dX10_slower_40 rfl (lv_at hl 0 rfl) ?_
                obtain ⟨k_now_33, e41_1, h⟩ := obd1_el h
                refine zc_VV (As := []) (rest := []) (wr := [(a_seenPair, .inl (cI, 6, .inl k_seenPair)), (a_seenTime, .inl (cI, 6, .inl k_seenTime)), (a_other, .inl (cI, 8, .inl k_other)), (a_one, .inl (cI, 8, .inl k_one)), (a_before, .inl (cI, 12, .inl k_before_29)), (a_after, .inl (cI, 12, .inl k_after_30)), (a_values, .inl (cI, 12, .inl k_values_31)), (a_waves, .inl (cI, 1200, .inl k_waves_32)), (a_seenLate, .inl (cI, 6, .inl k_seenLate))]) (q0 := 0) S hw (c_X10_layTrial l D cI cJ cZ cS H.size N a_this a_now a_one a_other a_next a_readOne a_readOther a_readNext a_text a_pathInput a_pathGates a_before a_after a_values a_taken a_waves a_row a_seenPair a_seenTime a_seenLate a_isKept a_kept i_this_inputs i_this_gates i_this_readInputs i_this_readGates i_this_length i_this_paths i_this_acts i_this_turn i_this_seen i_this_seed k_now_28 k_now_33 e41_1) (cwV 0 hts gX10_slower_X10_layTrial rfl rfl rfl dv_X10_layTrial ⟨Nat.le_of_ble_eq_true rfl, Nat.le_of_ble_eq_true rfl⟩) [0, 1] [2, 3, 4, 5, 6, 7, 8, 9, 10] rfl rfl rfl rfl (by decide) rfl rfl rfl rfl hl.1 rfl (Nat.le_of_ble_eq_true rfl) dX10_slower_41 ⟨Nat.zero_le _, Nat.zero_le _⟩ (fun H locs hw => ?_)
                refine lv_aload_n hx hb dX10_slower_44 rfl (lv_at hl 0 rfl) ?_
                refine z_get S hw F7 9 rfl rfl dX10_slower_45 ?_
                refine lv_bipush (v := (24 : Int32)) hx hb dX10_slower_48 (by decide) ?_
                refine lv_iload hx hb dX10_slower_50 (lv_at hl 4 rfl) ?_
                refine lv_iadd hx hb dX10_slower_52 ?_
                refine lv_topi (fun t_34 et_34 => ?_)
                replace h := bnd_at et_34 h
                refine lv_dup2_11 hx hb dX10_slower_53 rfl rfl ?_
                obtain ⟨hg, h⟩ := grd_el h
                refine z_iald S hw 10 0 rfl rfl hg dX10_slower_54 ?_
                refine lv_iload hx hb dX10_slower_55 (lv_at hl 5 rfl) ?_
                refine lv_iadd hx hb dX10_slower_57 ?_
                obtain ⟨hg, h⟩ := grd_el h
                obtain ⟨k_now_35, ek_now_35, h⟩ := bnd_ex h
                refine z_iast S hw ek_now_35 10 0 rfl rfl hg dX10_slower_58 (fun H locs hw => ?_)
                refine lv_iconst (v := (1 : Int32)) hx hb dX10_slower_59 (by decide) ?_
                refine lv_istore (lv' := [(6, .int (1 : Int32)), (0, .ref a_this), (1, .int y1), (2, .int x2_25), (3, .int x3_26), (4, .int x4_11), (5, .int x5_27)]) hx hb dX10_slower_60 hl (by decide) rfl (fun ls hl => ?_)
                refine lv_iconst (v := (0 : Int32)) hx hb dX10_slower_62 (by decide) ?_
                refine lv_istore (lv' := [(7, .int (0 : Int32)), (6, .int (1 : Int32)), (0, .ref a_this), (1, .int y1), (2, .int x2_25), (3, .int x3_26), (4, .int x4_11), (5, .int x5_27)]) hx hb dX10_slower_63 hl (by decide) rfl (fun ls hl => ?_)
                obtain ⟨j130_1, ej130_1, h⟩ := bnd_ex h
                have hj130_1 : ∀ (x6_36 : Int32) (k_before_37 : (Nat → Int32)) (k_after_38 : (Nat → Int32)) (k_values_39 : (Nat → Int32)) (k_waves_40 : (Nat → Int32)) (H : Heap) (locs : List Loc) (ls : Array Slot), j130_1 x6_36 k_before_37 k_after_38 k_values_39 k_waves_40 = some (rr, o_now, o_before, o_after, o_values, o_waves) → Wd D (tyA cI cJ cZ cS) A s [(a_this, .inr (10, [.int i_this_inputs, .int i_this_gates, .ref a_now, .ref a_one, .ref a_other, .ref a_next, .int i_this_readInputs, .int i_this_readGates, .ref a_readOne, .ref a_readOther, .ref a_readNext, .ref a_text, .int i_this_length, .int i_this_paths, .ref a_pathInput, .ref a_pathGates, .ref a_before, .ref a_after, .ref a_values, .ref a_taken, .ref a_waves, .int i_this_acts, .int i_this_turn, .ref a_row, .int i_this_seen, .ref a_seenPair, .ref a_seenTime, .ref a_seenLate, .long i_this_seed, .ref a_isKept, .ref a_kept])), (a_now, .inl (cI, 32, .inl k_now_35)), (a_seenPair, .inl (cI, 6, .inl k_seenPair)), (a_seenTime, .inl (cI, 6, .inl k_seenTime)), (a_other, .inl (cI, 8, .inl k_other)), (a_one, .inl (cI, 8, .inl k_one)), (a_before, .inl (cI, 12, .inl k_before_37)), (a_after, .inl (cI, 12, .inl k_after_38)), (a_values, .inl (cI, 12, .inl k_values_39)), (a_waves, .inl (cI, 1200, .inl k_waves_40)), (a_seenLate, .inl (cI, 6, .inl k_seenLate))] H locs → lv_has ls 8 [(0, .ref a_this), (1, .int y1), (2, .int x2_25), (3, .int x3_26), (4, .int x4_11), (5, .int x5_27), (6, .int x6_36)] → W p l e rmX10_slower s m args below meth c H locs 0 0 Q (F0 m 130 ls []) := by
                  intro x6_36 k_before_37 k_after_38 k_values_39 k_waves_40 H locs ls h hw hl
                  replace h := ap5 ej130_1 h
                  refine lv_iload hx hb dX10_slower_130 (lv_at hl 6 rfl) ?_
                  obtain ⟨j151_1, ej151_1, h⟩ := bnd_ex h
                  have hj151_1 : ∀ (t_41 : Int32) (H : Heap) (locs : List Loc) (ls : Array Slot), j151_1 t_41 = some (rr, o_now, o_before, o_after, o_values, o_waves) → Wd D (tyA cI cJ cZ cS) A s [(a_this, .inr (10, [.int i_this_inputs, .int i_this_gates, .ref a_now, .ref a_one, .ref a_other, .ref a_next, .int i_this_readInputs, .int i_this_readGates, .ref a_readOne, .ref a_readOther, .ref a_readNext, .ref a_text, .int i_this_length, .int i_this_paths, .ref a_pathInput, .ref a_pathGates, .ref a_before, .ref a_after, .ref a_values, .ref a_taken, .ref a_waves, .int i_this_acts, .int i_this_turn, .ref a_row, .int i_this_seen, .ref a_seenPair, .ref a_seenTime, .ref a_seenLate, .long i_this_seed, .ref a_isKept, .ref a_kept])), (a_now, .inl (cI, 32, .inl k_now_35)), (a_seenPair, .inl (cI, 6, .inl k_seenPair)), (a_seenTime, .inl (cI, 6, .inl k_seenTime)), (a_other, .inl (cI, 8, .inl k_other)), (a_one, .inl (cI, 8, .inl k_one)), (a_before, .inl (cI, 12, .inl k_before_37)), (a_after, .inl (cI, 12, .inl k_after_38)), (a_values, .inl (cI, 12, .inl k_values_39)), (a_waves, .inl (cI, 1200, .inl k_waves_40)), (a_seenLate, .inl (cI, 6, .inl k_seenLate))] H locs → lv_has ls 8 [(0, .ref a_this), (1, .int y1), (2, .int x2_25), (4, .int x4_11), (5, .int x5_27), (6, .int x6_36)] → W p l e rmX10_slower s m args below meth c H locs 0 0 Q (F0 m 151 ls [.int t_41]) := by
                    intro t_41 H locs ls h hw hl
                    replace h := ap1 ej151_1 h
                    refine lv_istore_n (lv' := [(3, .int t_41), (0, .ref a_this), (1, .int y1), (2, .int x2_25), (4, .int x4_11), (5, .int x5_27), (6, .int x6_36)]) hx hb dX10_slower_151 rfl hl (by decide) rfl (fun ls hl => ?_)
                    refine lv_iload_n hx hb dX10_slower_152 rfl (lv_at hl 3 rfl) ?_
                    refine lv_iload hx hb dX10_slower_153 (lv_at hl 6 rfl) ?_
                    obtain ⟨j163_1, ej163_1, h⟩ := bnd_ex h
                    have hj163_1 : ∀ (t_42 : Int32) (t_43 : Int32) (H : Heap) (locs : List Loc) (ls : Array Slot), j163_1 t_42 t_43 = some (rr, o_now, o_before, o_after, o_values, o_waves) → Wd D (tyA cI cJ cZ cS) A s [(a_this, .inr (10, [.int i_this_inputs, .int i_this_gates, .ref a_now, .ref a_one, .ref a_other, .ref a_next, .int i_this_readInputs, .int i_this_readGates, .ref a_readOne, .ref a_readOther, .ref a_readNext, .ref a_text, .int i_this_length, .int i_this_paths, .ref a_pathInput, .ref a_pathGates, .ref a_before, .ref a_after, .ref a_values, .ref a_taken, .ref a_waves, .int i_this_acts, .int i_this_turn, .ref a_row, .int i_this_seen, .ref a_seenPair, .ref a_seenTime, .ref a_seenLate, .long i_this_seed, .ref a_isKept, .ref a_kept])), (a_now, .inl (cI, 32, .inl k_now_35)), (a_seenPair, .inl (cI, 6, .inl k_seenPair)), (a_seenTime, .inl (cI, 6, .inl k_seenTime)), (a_other, .inl (cI, 8, .inl k_other)), (a_one, .inl (cI, 8, .inl k_one)), (a_before, .inl (cI, 12, .inl k_before_37)), (a_after, .inl (cI, 12, .inl k_after_38)), (a_values, .inl (cI, 12, .inl k_values_39)), (a_waves, .inl (cI, 1200, .inl k_waves_40)), (a_seenLate, .inl (cI, 6, .inl k_seenLate))] H locs → lv_has ls 8 [(0, .ref a_this), (1, .int y1), (3, .int t_41), (4, .int x4_11), (5, .int x5_27)] → W p l e rmX10_slower s m args below meth c H locs 0 0 Q (F0 m 163 ls [.int t_42, .int t_43]) := by
                      intro t_42 t_43 H locs ls h hw hl
                      replace h := ap2 ej163_1 h
                      refine lv_iadd hx hb dX10_slower_163 ?_
                      refine lv_topi (fun x2_44 ex2_44 => ?_)
                      replace h := bnd_at ex2_44 h
                      refine lv_istore_n (lv' := [(2, .int x2_44), (0, .ref a_this), (1, .int y1), (3, .int t_41), (4, .int x4_11), (5, .int x5_27)]) hx hb dX10_slower_164 rfl hl (by decide) rfl (fun ls hl => ?_)
                      obtain ⟨x5_45, ex5_45, h⟩ := bnd_ex h
                      refine lv_iinc (v := x5_45) (lv' := [(5, .int x5_45), (2, .int x2_44), (0, .ref a_this), (1, .int y1), (3, .int t_41), (4, .int x4_11)]) hx hb dX10_slower_165 hl (k := 5) rfl (by rw [ex5_45]; rfl) (by decide) rfl (fun ls hl => ?_)
                      refine lv_goto (tgt := 33) hx hb dX10_slower_168 (by decide) ?_
                      exact ih_33 x2_44 t_41 x5_45 k_now_35 k_before_37 k_after_38 k_values_39 k_waves_40 H locs ls h hw (lv_sub hl [2, 3, 1, 4, 5, 0] rfl)
                    refine lv_if_eq (tgt := 162) hx hb dX10_slower_155 (by decide) (fun hc => ?_) (fun hc => ?_)
                    · replace h := if_t hc h
                      refine lv_iconst (v := (0 : Int32)) hx hb dX10_slower_162 (by decide) ?_
                      exact hj163_1 ((0 : Int32)) x2_25 H locs ls h hw (lv_sub hl [1, 2, 0, 4, 5] rfl)
                    · replace h := if_f hc h
                      refine lv_iconst (v := (1 : Int32)) hx hb dX10_slower_158 (by decide) ?_
                      refine lv_goto (tgt := 163) hx hb dX10_slower_159 (by decide) ?_
                      exact hj163_1 ((1 : Int32)) x2_25 H locs ls h hw (lv_sub hl [1, 2, 0, 4, 5] rfl)
                  obtain ⟨j150_1, ej150_1, h⟩ := bnd_ex h
                  have hj150_1 : ∀ (H : Heap) (locs : List Loc) (ls : Array Slot), j150_1 = some (rr, o_now, o_before, o_after, o_values, o_waves) → Wd D (tyA cI cJ cZ cS) A s [(a_this, .inr (10, [.int i_this_inputs, .int i_this_gates, .ref a_now, .ref a_one, .ref a_other, .ref a_next, .int i_this_readInputs, .int i_this_readGates, .ref a_readOne, .ref a_readOther, .ref a_readNext, .ref a_text, .int i_this_length, .int i_this_paths, .ref a_pathInput, .ref a_pathGates, .ref a_before, .ref a_after, .ref a_values, .ref a_taken, .ref a_waves, .int i_this_acts, .int i_this_turn, .ref a_row, .int i_this_seen, .ref a_seenPair, .ref a_seenTime, .ref a_seenLate, .long i_this_seed, .ref a_isKept, .ref a_kept])), (a_now, .inl (cI, 32, .inl k_now_35)), (a_seenPair, .inl (cI, 6, .inl k_seenPair)), (a_seenTime, .inl (cI, 6, .inl k_seenTime)), (a_other, .inl (cI, 8, .inl k_other)), (a_one, .inl (cI, 8, .inl k_one)), (a_before, .inl (cI, 12, .inl k_before_37)), (a_after, .inl (cI, 12, .inl k_after_38)), (a_values, .inl (cI, 12, .inl k_values_39)), (a_waves, .inl (cI, 1200, .inl k_waves_40)), (a_seenLate, .inl (cI, 6, .inl k_seenLate))] H locs → lv_has ls 8 [(0, .ref a_this), (1, .int y1), (2, .int x2_25), (3, .int x3_26), (4, .int x4_11), (5, .int x5_27), (6, .int x6_36)] → W p l e rmX10_slower s m args below meth c H locs 0 0 Q (F0 m 150 ls []) := by
                    intro H locs ls h hw hl
                    replace h := ap0 ej150_1 h
                    refine lv_iload_n hx hb dX10_slower_150 rfl (lv_at hl 3 rfl) ?_
                    exact hj151_1 x3_26 H locs ls h hw (lv_sub hl [0, 1, 2, 4, 5, 6] rfl)
                  refine lv_if_eq (tgt := 150) hx hb dX10_slower_132 (by decide) (fun hc => ?_) (fun hc => ?_)
                  · replace h := if_t hc h
                    exact hj150_1  H locs ls h hw hl
                  · replace h := if_f hc h
                    refine lv_iload_n hx hb dX10_slower_135 rfl (lv_at hl 2 rfl) ?_
                    refine lv_if_ne (tgt := 150) hx hb dX10_slower_136 (by decide) (fun hc => ?_) (fun hc => ?_)
                    · replace h := if_f hc h
                      exact hj150_1  H locs ls h hw hl
                    · replace h := if_t hc h
                      refine lv_bipush (v := (10 : Int32)) hx hb dX10_slower_139 (by decide) ?_
                      refine lv_iload hx hb dX10_slower_141 (lv_at hl 4 rfl) ?_
                      refine lv_imul hx hb dX10_slower_143 ?_
                      refine lv_iload hx hb dX10_slower_144 (lv_at hl 5 rfl) ?_
                      refine lv_iadd hx hb dX10_slower_146 ?_
                      refine lv_goto (tgt := 151) hx hb dX10_slower_147 (by decide) ?_
                      exact hj151_1 ((((10 : Int32) * x4_11) + x5_27)) H locs ls h hw (lv_sub hl [0, 1, 2, 4, 5, 6] rfl)
                have hL65_1 : ∀ (nf : Nat) (x6_46 : Int32) (x7_47 : Int32) (k_before_48 : (Nat → Int32)) (k_after_49 : (Nat → Int32)) (k_values_50 : (Nat → Int32)) (k_waves_51 : (Nat → Int32)) (H : Heap) (locs : List Loc) (ls : Array Slot), f_X10_slower_L65 N i_this_inputs i_this_gates i_this_seen k_seenPair k_seenTime k_other k_one k_seenLate k_now_35 j130_1 nf x6_46 x7_47 k_before_48 k_after_49 k_values_50 k_waves_51 = some (rr, o_now, o_before, o_after, o_values, o_waves) → Wd D (tyA cI cJ cZ cS) A s [(a_this, .inr (10, [.int i_this_inputs, .int i_this_gates, .ref a_now, .ref a_one, .ref a_other, .ref a_next, .int i_this_readInputs, .int i_this_readGates, .ref a_readOne, .ref a_readOther, .ref a_readNext, .ref a_text, .int i_this_length, .int i_this_paths, .ref a_pathInput, .ref a_pathGates, .ref a_before, .ref a_after, .ref a_values, .ref a_taken, .ref a_waves, .int i_this_acts, .int i_this_turn, .ref a_row, .int i_this_seen, .ref a_seenPair, .ref a_seenTime, .ref a_seenLate, .long i_this_seed, .ref a_isKept, .ref a_kept])), (a_now, .inl (cI, 32, .inl k_now_35)), (a_seenPair, .inl (cI, 6, .inl k_seenPair)), (a_seenTime, .inl (cI, 6, .inl k_seenTime)), (a_other, .inl (cI, 8, .inl k_other)), (a_one, .inl (cI, 8, .inl k_one)), (a_before, .inl (cI, 12, .inl k_before_48)), (a_after, .inl (cI, 12, .inl k_after_49)), (a_values, .inl (cI, 12, .inl k_values_50)), (a_waves, .inl (cI, 1200, .inl k_waves_51)), (a_seenLate, .inl (cI, 6, .inl k_seenLate))] H locs → lv_has ls 8 [(0, .ref a_this), (1, .int y1), (2, .int x2_25), (3, .int x3_26), (4, .int x4_11), (5, .int x5_27), (6, .int x6_46), (7, .int x7_47)] → W p l e rmX10_slower s m args below meth c H locs 0 0 Q (F0 m 65 ls []) := by
                  intro nf
                  induction nf with
                  | zero =>
                    intro x6_46 x7_47 k_before_48 k_after_49 k_values_50 k_waves_51 H locs ls h
                    rw [f_X10_slower_L65] at h
                    cases h
                  | succ n_65 ih_65 =>
                    intro x6_46 x7_47 k_before_48 k_after_49 k_values_50 k_waves_51 H locs ls h hw hl
                    rw [f_X10_slower_L65] at h
                    refine lv_iload hx hb dX10_slower_65 (lv_at hl 7 rfl) ?_
                    refine lv_aload_n hx hb dX10_slower_67 rfl (lv_at hl 0 rfl) ?_
                    refine z_get S hw F244 0 rfl rfl dX10_slower_68 ?_
                    refine lv_icmp_ge (tgt := 130) hx hb dX10_slower_71 (by decide) (fun hc => ?_) (fun hc => ?_)
                    · replace h := if_t hc h
                      exact hj130_1 x6_46 k_before_48 k_after_49 k_values_50 k_waves_51 H locs ls h hw (lv_sub hl [0, 1, 2, 3, 4, 5, 6] rfl)
                    · replace h := if_f hc h
                      refine lv_iload hx hb dX10_slower_74 (lv_at hl 6 rfl) ?_
                      refine lv_if_eq (tgt := 130) hx hb dX10_slower_76 (by decide) (fun hc => ?_) (fun hc => ?_)
                      · replace h := if_t hc h
                        exact hj130_1 x6_46 k_before_48 k_after_49 k_values_50 k_waves_51 H locs ls h hw (lv_sub hl [0, 1, 2, 3, 4, 5, 6] rfl)
                      · replace h := if_f hc h
                        refine lv_aload_n hx hb dX10_slower_79 rfl (lv_at hl 0 rfl) ?_
                        refine lv_iconst (v := (1 : Int32)) hx hb dX10_slower_80 (by decide) ?_
                        refine lv_aload_n hx hb dX10_slower_81 rfl (lv_at hl 0 rfl) ?_
                        refine z_get S hw F58 0 rfl rfl dX10_slower_82 ?_
                        refine lv_iload hx hb dX10_slower_85 (lv_at hl 7 rfl) ?_
                        obtain ⟨hg, h⟩ := grd_el h
                        refine z_iald S hw 2 0 rfl rfl hg dX10_slower_87 ?_
                        refine lv_aload_n hx hb dX10_slower_88 rfl (lv_at hl 0 rfl) ?_
                        refine z_get S hw F61 0 rfl rfl dX10_slower_89 ?_
                        refine lv_iload hx hb dX10_slower_92 (lv_at hl 7 rfl) ?_
                        obtain ⟨hg, h⟩ := grd_el h
                        refine z_iald S hw 3 0 rfl rfl hg dX10_slower_94 ?_
                        obtain ⟨r_52, k_before_53, k_after_54, k_values_55, k_waves_56, e95_1, h⟩ := obd5_el h
                        refine zc_VI (As := [.int (1 : Int32), .int (k_seenPair x7_47.toNatClampNeg), .int (k_seenTime x7_47.toNatClampNeg)]) (rest := []) (wr := [(a_seenPair, .inl (cI, 6, .inl k_seenPair)), (a_seenTime, .inl (cI, 6, .inl k_seenTime)), (a_seenLate, .inl (cI, 6, .inl k_seenLate))]) (q0 := 0) S hw (c_X10_isLate l D cI cJ cZ cS H.size N a_this a_now a_other a_one a_before a_after a_values a_waves a_next a_readOne a_readOther a_readNext a_text a_pathInput a_pathGates a_taken a_row a_seenPair a_seenTime a_seenLate a_isKept a_kept i_this_inputs i_this_gates i_this_readInputs i_this_readGates i_this_length i_this_paths i_this_acts i_this_turn i_this_seen i_this_seed k_now_35 k_other k_one k_before_48 k_after_49 k_values_50 k_waves_51 (1 : Int32) (k_seenPair x7_47.toNatClampNeg) (k_seenTime x7_47.toNatClampNeg) r_52 k_before_53 k_after_54 k_values_55 k_waves_56 e95_1) (cwV 3 hts gX10_slower_X10_isLate rfl rfl rfl dv_X10_isLate ⟨Nat.le_of_ble_eq_true rfl, Nat.le_of_ble_eq_true rfl⟩) [0, 1, 4, 5, 6, 7, 8, 9] [2, 3, 10] rfl rfl rfl rfl (by decide) rfl rfl rfl rfl hl.1 rfl (Nat.le_of_ble_eq_true rfl) dX10_slower_95 ⟨Nat.zero_le _, Nat.zero_le _⟩ (fun H locs hw => ?_)
                        refine lv_aload_n hx hb dX10_slower_98 rfl (lv_at hl 0 rfl) ?_
                        refine z_get S hw F64 3 rfl rfl dX10_slower_99 ?_
                        refine lv_iload hx hb dX10_slower_102 (lv_at hl 7 rfl) ?_
                        obtain ⟨hg, h⟩ := grd_el h
                        refine z_iald S hw 2 0 rfl rfl hg dX10_slower_104 ?_
                        refine lv_iconst (v := (1 : Int32)) hx hb dX10_slower_105 (by decide) ?_
                        obtain ⟨j114_1, ej114_1, h⟩ := bnd_ex h
                        have hj114_1 : ∀ (t_57 : Int32) (t_58 : Int32) (H : Heap) (locs : List Loc) (ls : Array Slot), j114_1 t_57 t_58 = some (rr, o_now, o_before, o_after, o_values, o_waves) → Wd D (tyA cI cJ cZ cS) A s [(a_this, .inr (10, [.int i_this_inputs, .int i_this_gates, .ref a_now, .ref a_one, .ref a_other, .ref a_next, .int i_this_readInputs, .int i_this_readGates, .ref a_readOne, .ref a_readOther, .ref a_readNext, .ref a_text, .int i_this_length, .int i_this_paths, .ref a_pathInput, .ref a_pathGates, .ref a_before, .ref a_after, .ref a_values, .ref a_taken, .ref a_waves, .int i_this_acts, .int i_this_turn, .ref a_row, .int i_this_seen, .ref a_seenPair, .ref a_seenTime, .ref a_seenLate, .long i_this_seed, .ref a_isKept, .ref a_kept])), (a_now, .inl (cI, 32, .inl k_now_35)), (a_seenPair, .inl (cI, 6, .inl k_seenPair)), (a_seenTime, .inl (cI, 6, .inl k_seenTime)), (a_other, .inl (cI, 8, .inl k_other)), (a_one, .inl (cI, 8, .inl k_one)), (a_before, .inl (cI, 12, .inl k_before_53)), (a_after, .inl (cI, 12, .inl k_after_54)), (a_values, .inl (cI, 12, .inl k_values_55)), (a_waves, .inl (cI, 1200, .inl k_waves_56)), (a_seenLate, .inl (cI, 6, .inl k_seenLate))] H locs → lv_has ls 8 [(0, .ref a_this), (1, .int y1), (2, .int x2_25), (3, .int x3_26), (4, .int x4_11), (5, .int x5_27), (7, .int x7_47)] → W p l e rmX10_slower s m args below meth c H locs 0 0 Q (F0 m 114 ls [.int t_57, .int t_58]) := by
                          intro t_57 t_58 H locs ls h hw hl
                          replace h := ap2 ej114_1 h
                          obtain ⟨j122_1, ej122_1, h⟩ := bnd_ex h
                          have hj122_1 : ∀ (t_59 : Int32) (H : Heap) (locs : List Loc) (ls : Array Slot), j122_1 t_59 = some (rr, o_now, o_before, o_after, o_values, o_waves) → Wd D (tyA cI cJ cZ cS) A s [(a_this, .inr (10, [.int i_this_inputs, .int i_this_gates, .ref a_now, .ref a_one, .ref a_other, .ref a_next, .int i_this_readInputs, .int i_this_readGates, .ref a_readOne, .ref a_readOther, .ref a_readNext, .ref a_text, .int i_this_length, .int i_this_paths, .ref a_pathInput, .ref a_pathGates, .ref a_before, .ref a_after, .ref a_values, .ref a_taken, .ref a_waves, .int i_this_acts, .int i_this_turn, .ref a_row, .int i_this_seen, .ref a_seenPair, .ref a_seenTime, .ref a_seenLate, .long i_this_seed, .ref a_isKept, .ref a_kept])), (a_now, .inl (cI, 32, .inl k_now_35)), (a_seenPair, .inl (cI, 6, .inl k_seenPair)), (a_seenTime, .inl (cI, 6, .inl k_seenTime)), (a_other, .inl (cI, 8, .inl k_other)), (a_one, .inl (cI, 8, .inl k_one)), (a_before, .inl (cI, 12, .inl k_before_53)), (a_after, .inl (cI, 12, .inl k_after_54)), (a_values, .inl (cI, 12, .inl k_values_55)), (a_waves, .inl (cI, 1200, .inl k_waves_56)), (a_seenLate, .inl (cI, 6, .inl k_seenLate))] H locs → lv_has ls 8 [(0, .ref a_this), (1, .int y1), (2, .int x2_25), (3, .int x3_26), (4, .int x4_11), (5, .int x5_27), (7, .int x7_47)] → W p l e rmX10_slower s m args below meth c H locs 0 0 Q (F0 m 122 ls [.int t_59]) := by
                            intro t_59 H locs ls h hw hl
                            replace h := ap1 ej122_1 h
                            refine lv_istore (lv' := [(6, .int t_59), (0, .ref a_this), (1, .int y1), (2, .int x2_25), (3, .int x3_26), (4, .int x4_11), (5, .int x5_27), (7, .int x7_47)]) hx hb dX10_slower_122 hl (by decide) rfl (fun ls hl => ?_)
                            obtain ⟨x7_60, ex7_60, h⟩ := bnd_ex h
                            refine lv_iinc (v := x7_60) (lv' := [(7, .int x7_60), (6, .int t_59), (0, .ref a_this), (1, .int y1), (2, .int x2_25), (3, .int x3_26), (4, .int x4_11), (5, .int x5_27)]) hx hb dX10_slower_124 hl (k := 7) rfl (by rw [ex7_60]; rfl) (by decide) rfl (fun ls hl => ?_)
                            refine lv_goto (tgt := 65) hx hb dX10_slower_127 (by decide) ?_
                            exact ih_65 t_59 x7_60 k_before_53 k_after_54 k_values_55 k_waves_56 H locs ls h hw (lv_sub hl [2, 3, 4, 5, 6, 7, 1, 0] rfl)
                          refine lv_icmp_ne (tgt := 121) hx hb dX10_slower_114 (by decide) (fun hc => ?_) (fun hc => ?_)
                          · replace h := if_f hc h
                            refine lv_iconst (v := (0 : Int32)) hx hb dX10_slower_121 (by decide) ?_
                            exact hj122_1 ((0 : Int32)) H locs ls h hw hl
                          · replace h := if_t hc h
                            refine lv_iconst (v := (1 : Int32)) hx hb dX10_slower_117 (by decide) ?_
                            refine lv_goto (tgt := 122) hx hb dX10_slower_118 (by decide) ?_
                            exact hj122_1 ((1 : Int32)) H locs ls h hw hl
                        refine lv_icmp_ne (tgt := 113) hx hb dX10_slower_106 (by decide) (fun hc => ?_) (fun hc => ?_)
                        · replace h := if_f hc h
                          refine lv_iconst (v := (0 : Int32)) hx hb dX10_slower_113 (by decide) ?_
                          exact hj114_1 ((0 : Int32)) r_52 H locs ls h (hw.sub [3, 4, 0, 1, 5, 6, 7, 8, 9, 10, 2] rfl rfl) (lv_sub hl [0, 1, 2, 3, 4, 5, 7] rfl)
                        · replace h := if_t hc h
                          refine lv_iconst (v := (1 : Int32)) hx hb dX10_slower_109 (by decide) ?_
                          refine lv_goto (tgt := 114) hx hb dX10_slower_110 (by decide) ?_
                          exact hj114_1 ((1 : Int32)) r_52 H locs ls h (hw.sub [3, 4, 0, 1, 5, 6, 7, 8, 9, 10, 2] rfl rfl) (lv_sub hl [0, 1, 2, 3, 4, 5, 7] rfl)
                exact hL65_1 N ((1 : Int32)) ((0 : Int32)) k_before_29 k_after_30 k_values_31 k_waves_32 H locs ls h (hw.sub [9, 10, 0, 1, 2, 3, 4, 5, 6, 7, 8] rfl rfl) (lv_sub hl [2, 3, 4, 5, 6, 7, 1, 0] rfl)
          exact hL33_1 N x2_9 x3_10 ((1 : Int32)) k_now_12 k_before_13 k_after_14 k_values_15 k_waves_16 H locs ls h hw (lv_sub hl [1, 2, 3, 4, 5, 0] rfl)
    exact hL21_1 N ((0 : Int32)) ((-9 : Int32)) ((0 : Int32)) k_now k_before k_after k_values k_waves H locs ls h hw (lv_sub hl [3, 4, 2, 1, 0] rfl)
  · replace h := if_t hc h
    refine lv_bipush (v := (-2 : Int32)) hx hb dX10_slower_10 (by decide) ?_
    cases h
    exact z_iret S hQ hr hw [0, 1, 2, 3, 4, 5, 6, 7, 8, 9, 10] rfl rfl dX10_slower_12
abbrev rmX10_factorial : Room := { frames := 0, cells := 0, slots := 0, locals := 0 }
theorem ds_X10_factorial : yX10_factorial.cls ≠ "java/lang/invoke/MethodHandle" ∧ yX10_factorial.cls ≠ "java/lang/invoke/VarHandle" ∧ (parseMethodDescriptor yX10_factorial.desc).map (fun d => d.parameters.length) = some 1 := by decide +kernel
noncomputable def f_X10_factorial_L4 (N : Nat) (y0 : Int32) (j19_1 : Int32 → Option (Int32)) : Nat → Int32 → Int32 → Option (Int32)
  | 0, _, _ => none
  | n_4 + 1, x1_2, x2_3 =>
    (if y0 < x2_3 then (j19_1 x1_2) else (bnd ((x1_2 * x2_3)) fun (x1_4 : Int32) => bnd (x2_3 + (1 : Int32)) fun (x2_5 : Int32) => f_X10_factorial_L4 N y0 j19_1 n_4 x1_4 x2_5))
noncomputable def f_X10_factorial (N : Nat) (y0 : Int32)  : Option (Int32) :=
  bnd (fun (x1_1 : Int32) => (some (x1_1))) fun (j19_1 : Int32 → Option (Int32)) => f_X10_factorial_L4 N y0 j19_1 N ((1 : Int32)) ((2 : Int32))
set_option maxHeartbeats 4000000 in
set_option maxRecDepth 100000 in
theorem c_X10_factorial (l : Launch) (D : va_G) (cI cJ cZ cS : ClassId) (sz N : Nat)   (y0 : Int32) (rr : Int32) (hf : f_X10_factorial N y0 = some (rr)) : MetIr l yX10_factorial wsX10_factorial rmX10_factorial D (tyA cI cJ cZ cS) [] sz [.int y0] rr := by
  refine entIr (cc := cX10_factorial) (maxL := 3) (own := RX10) (by decide) rfl rfl (Nat.le_of_ble_eq_true rfl) ?_
  intro p e s m args below meth c A ls Q S hr hw hl hQ
  have hx := S.1.1
  have hb := S.1.2.1
  have hts := S.1.2.2.2.2
  have hl : lv_has ls 3 [(0, .int y0)] := hl
  have h := hf
  rw [f_X10_factorial] at h
  refine lv_iconst (v := (1 : Int32)) hx hb dX10_factorial_0 (by decide) ?_
  refine lv_istore_n (lv' := [(1, .int (1 : Int32)), (0, .int y0)]) hx hb dX10_factorial_1 rfl hl (by decide) rfl (fun ls hl => ?_)
  refine lv_iconst (v := (2 : Int32)) hx hb dX10_factorial_2 (by decide) ?_
  refine lv_istore_n (lv' := [(2, .int (2 : Int32)), (1, .int (1 : Int32)), (0, .int y0)]) hx hb dX10_factorial_3 rfl hl (by decide) rfl (fun ls hl => ?_)
  obtain ⟨j19_1, ej19_1, h⟩ := bnd_ex h
  have hj19_1 : ∀ (x1_1 : Int32) (ls : Array Slot), j19_1 x1_1 = some (rr) → lv_has ls 3 [(1, .int x1_1)] → W p l e rmX10_factorial s m args below meth c s.heap [] 0 0 Q (F0 m 19 ls []) := by
    intro x1_1 ls h hl
    replace h := ap1 ej19_1 h
    refine lv_iload_n hx hb dX10_factorial_19 rfl (lv_at hl 0 rfl) ?_
    cases h
    exact z_iretr S hQ hr dX10_factorial_20
  have hL4_1 : ∀ (nf : Nat) (x1_2 : Int32) (x2_3 : Int32) (ls : Array Slot), f_X10_factorial_L4 N y0 j19_1 nf x1_2 x2_3 = some (rr) → lv_has ls 3 [(0, .int y0), (1, .int x1_2), (2, .int x2_3)] → W p l e rmX10_factorial s m args below meth c s.heap [] 0 0 Q (F0 m 4 ls []) := by
    intro nf
    induction nf with
    | zero =>
      intro x1_2 x2_3 ls h
      rw [f_X10_factorial_L4] at h
      cases h
    | succ n_4 ih_4 =>
      intro x1_2 x2_3 ls h hl
      rw [f_X10_factorial_L4] at h
      refine lv_iload_n hx hb dX10_factorial_4 rfl (lv_at hl 2 rfl) ?_
      refine lv_iload_n hx hb dX10_factorial_5 rfl (lv_at hl 0 rfl) ?_
      refine lv_icmp_gt (tgt := 19) hx hb dX10_factorial_6 (by decide) (fun hc => ?_) (fun hc => ?_)
      · replace h := if_t hc h
        exact hj19_1 x1_2 ls h (lv_sub hl [1] rfl)
      · replace h := if_f hc h
        refine lv_iload_n hx hb dX10_factorial_9 rfl (lv_at hl 1 rfl) ?_
        refine lv_iload_n hx hb dX10_factorial_10 rfl (lv_at hl 2 rfl) ?_
        refine lv_imul hx hb dX10_factorial_11 ?_
        refine lv_topi (fun x1_4 ex1_4 => ?_)
        replace h := bnd_at ex1_4 h
        refine lv_istore_n (lv' := [(1, .int x1_4), (0, .int y0), (2, .int x2_3)]) hx hb dX10_factorial_12 rfl hl (by decide) rfl (fun ls hl => ?_)
        obtain ⟨x2_5, ex2_5, h⟩ := bnd_ex h
        refine lv_iinc (v := x2_5) (lv' := [(2, .int x2_5), (1, .int x1_4), (0, .int y0)]) hx hb dX10_factorial_13 hl (k := 2) rfl (by rw [ex2_5]; rfl) (by decide) rfl (fun ls hl => ?_)
        refine lv_goto (tgt := 4) hx hb dX10_factorial_16 (by decide) ?_
        exact ih_4 x1_4 x2_5 ls h (lv_sub hl [2, 1, 0] rfl)
  exact hL4_1 N ((1 : Int32)) ((2 : Int32)) ls h (lv_sub hl [2, 1, 0] rfl)
abbrev rmX10_common : Room := { frames := 0, cells := 0, slots := 0, locals := 0 }
theorem ds_X10_common : yX10_common.cls ≠ "java/lang/invoke/MethodHandle" ∧ yX10_common.cls ≠ "java/lang/invoke/VarHandle" ∧ (parseMethodDescriptor yX10_common.desc).map (fun d => d.parameters.length) = some 2 := by decide +kernel
noncomputable def f_X10_common_L13 (N : Nat) (j30_1 : Int32 → Option (Int32)) : Nat → Int32 → Int32 → Option (Int32)
  | 0, _, _ => none
  | n_13 + 1, x2_3, x3_4 =>
    (if x3_4 = (0 : Int32) then (j30_1 x2_3) else (grd (nzI x3_4) <| bnd ((x2_3 - x2_3 / x3_4 * x3_4)) fun (x4_5 : Int32) => f_X10_common_L13 N j30_1 n_13 x3_4 x4_5))
noncomputable def f_X10_common (N : Nat) (y0 : Int32) (y1 : Int32)  : Option (Int32) :=
  bnd (fun (t_1 : Int32) => (bnd (fun (x2_2 : Int32) => (some (x2_2))) fun (j30_1 : Int32 → Option (Int32)) => f_X10_common_L13 N j30_1 N t_1 y1)) fun (j10_1 : Int32 → Option (Int32)) => (if (0 : Int32) ≤ y0 then (j10_1 y0) else (j10_1 (-y0)))
set_option maxHeartbeats 4000000 in
set_option maxRecDepth 100000 in
theorem c_X10_common (l : Launch) (D : va_G) (cI cJ cZ cS : ClassId) (sz N : Nat)   (y0 : Int32) (y1 : Int32) (rr : Int32) (hf : f_X10_common N y0 y1 = some (rr)) : MetIr l yX10_common wsX10_common rmX10_common D (tyA cI cJ cZ cS) [] sz [.int y0, .int y1] rr := by
  refine entIr (cc := cX10_common) (maxL := 5) (own := RX10) (by decide) rfl rfl (Nat.le_of_ble_eq_true rfl) ?_
  intro p e s m args below meth c A ls Q S hr hw hl hQ
  have hx := S.1.1
  have hb := S.1.2.1
  have hts := S.1.2.2.2.2
  have hl : lv_has ls 5 [(0, .int y0), (1, .int y1)] := hl
  have h := hf
  rw [f_X10_common] at h
  refine lv_iload_n hx hb dX10_common_0 rfl (lv_at hl 0 rfl) ?_
  obtain ⟨j10_1, ej10_1, h⟩ := bnd_ex h
  have hj10_1 : ∀ (t_1 : Int32) (ls : Array Slot), j10_1 t_1 = some (rr) → lv_has ls 5 [(1, .int y1)] → W p l e rmX10_common s m args below meth c s.heap [] 0 0 Q (F0 m 10 ls [.int t_1]) := by
    intro t_1 ls h hl
    replace h := ap1 ej10_1 h
    refine lv_istore_n (lv' := [(2, .int t_1), (1, .int y1)]) hx hb dX10_common_10 rfl hl (by decide) rfl (fun ls hl => ?_)
    refine lv_iload_n hx hb dX10_common_11 rfl (lv_at hl 1 rfl) ?_
    refine lv_istore_n (lv' := [(3, .int y1), (2, .int t_1), (1, .int y1)]) hx hb dX10_common_12 rfl hl (by decide) rfl (fun ls hl => ?_)
    obtain ⟨j30_1, ej30_1, h⟩ := bnd_ex h
    have hj30_1 : ∀ (x2_2 : Int32) (ls : Array Slot), j30_1 x2_2 = some (rr) → lv_has ls 5 [(2, .int x2_2)] → W p l e rmX10_common s m args below meth c s.heap [] 0 0 Q (F0 m 30 ls []) := by
      intro x2_2 ls h hl
      replace h := ap1 ej30_1 h
      refine lv_iload_n hx hb dX10_common_30 rfl (lv_at hl 0 rfl) ?_
      cases h
      exact z_iretr S hQ hr dX10_common_31
    have hL13_1 : ∀ (nf : Nat) (x2_3 : Int32) (x3_4 : Int32) (ls : Array Slot), f_X10_common_L13 N j30_1 nf x2_3 x3_4 = some (rr) → lv_has ls 5 [(2, .int x2_3), (3, .int x3_4)] → W p l e rmX10_common s m args below meth c s.heap [] 0 0 Q (F0 m 13 ls []) := by
      intro nf
      induction nf with
      | zero =>
        intro x2_3 x3_4 ls h
        rw [f_X10_common_L13] at h
        cases h
      | succ n_13 ih_13 =>
        intro x2_3 x3_4 ls h hl
        rw [f_X10_common_L13] at h
        refine lv_iload_n hx hb dX10_common_13 rfl (lv_at hl 1 rfl) ?_
        refine lv_if_eq (tgt := 30) hx hb dX10_common_14 (by decide) (fun hc => ?_) (fun hc => ?_)
        · replace h := if_t hc h
          exact hj30_1 x2_3 ls h (lv_sub hl [0] rfl)
        · replace h := if_f hc h
          refine lv_iload_n hx hb dX10_common_17 rfl (lv_at hl 0 rfl) ?_
          refine lv_iload_n hx hb dX10_common_18 rfl (lv_at hl 1 rfl) ?_
          obtain ⟨hg, h⟩ := grd_el h
          refine lv_irem hx hb dX10_common_19 (nzI_ne hg) ?_
          refine lv_topi (fun x4_5 ex4_5 => ?_)
          replace h := bnd_at ex4_5 h
          refine lv_istore (lv' := [(4, .int x4_5), (2, .int x2_3), (3, .int x3_4)]) hx hb dX10_common_20 hl (by decide) rfl (fun ls hl => ?_)
          refine lv_iload_n hx hb dX10_common_22 rfl (lv_at hl 2 rfl) ?_
          refine lv_istore_n (lv' := [(2, .int x3_4), (4, .int x4_5), (3, .int x3_4)]) hx hb dX10_common_23 rfl hl (by decide) rfl (fun ls hl => ?_)
          refine lv_iload hx hb dX10_common_24 (lv_at hl 1 rfl) ?_
          refine lv_istore_n (lv' := [(3, .int x4_5), (2, .int x3_4), (4, .int x4_5)]) hx hb dX10_common_26 rfl hl (by decide) rfl (fun ls hl => ?_)
          refine lv_goto (tgt := 13) hx hb dX10_common_27 (by decide) ?_
          exact ih_13 x3_4 x4_5 ls h (lv_sub hl [1, 0] rfl)
    exact hL13_1 N t_1 y1 ls h (lv_sub hl [1, 0] rfl)
  refine lv_if_ge (tgt := 9) hx hb dX10_common_1 (by decide) (fun hc => ?_) (fun hc => ?_)
  · replace h := if_t hc h
    refine lv_iload_n hx hb dX10_common_9 rfl (lv_at hl 0 rfl) ?_
    exact hj10_1 y0 ls h (lv_sub hl [1] rfl)
  · replace h := if_f hc h
    refine lv_iload_n hx hb dX10_common_4 rfl (lv_at hl 0 rfl) ?_
    refine lv_ineg hx hb dX10_common_5 ?_
    refine lv_goto (tgt := 10) hx hb dX10_common_6 (by decide) ?_
    exact hj10_1 (-y0) ls h (lv_sub hl [1] rfl)
abbrev rmX10_greatestBy : Room := { frames := 3, cells := 0, slots := 0, locals := 68 }
theorem dv_X10_greatestBy : yX10_greatestBy.cls = RX10 ∧ yX10_greatestBy.cls ≠ "java/lang/invoke/MethodHandle" ∧ yX10_greatestBy.cls ≠ "java/lang/invoke/VarHandle" ∧ (parseMethodDescriptor yX10_greatestBy.desc).map (fun d => d.parameters.length) = some 1 := by decide +kernel
noncomputable def f_X10_greatestBy_L6 (N : Nat) (y1 : Int32) (i_this_gates : Int32) (j50_1 : (Nat → Int32) → Option (Int32 × (Nat → Int32))) : Nat → Int32 → (Nat → Int32) → Option (Int32 × (Nat → Int32))
  | 0, _, _ => none
  | n_6 + 1, x2_4, k_now_5 =>
    (if i_this_gates ≤ x2_4 then (j50_1 k_now_5) else (obd1 (f_X10_has N y1 x2_4) fun (r_6 : Int32) => bnd (fun (t_7 : Int32) (t_8 : Int32) => (grd (inb t_8 32) <| bnd (upd k_now_5 t_8.toNatClampNeg t_7) fun (k_now_9 : (Nat → Int32)) => bnd (x2_4 + (1 : Int32)) fun (x2_10 : Int32) => f_X10_greatestBy_L6 N y1 i_this_gates j50_1 n_6 x2_10 k_now_9)) fun (j43_1 : Int32 → Int32 → Option (Int32 × (Nat → Int32))) => (if r_6 = (0 : Int32) then (j43_1 ((0 : Int32)) (((24 : Int32) + x2_4))) else (grd (inb ((8 : Int32) + x2_4) 32) <| j43_1 ((k_now_5 ((8 : Int32) + x2_4).toNatClampNeg)) (((24 : Int32) + x2_4))))))
noncomputable def f_X10_greatestBy (N : Nat) (y1 : Int32) (i_this_gates : Int32) (i_this_paths : Int32) (k_now : (Nat → Int32)) (k_pathGates : (Nat → Int32)) : Option (Int32 × (Nat → Int32)) :=
  obd1 (f_X10_layTrial N k_now) fun (k_now_1 : (Nat → Int32)) => bnd (fun (k_now_2 : (Nat → Int32)) => (obd1 (f_X10_greatest N (1 : Int32) i_this_gates i_this_paths k_pathGates k_now_2) fun (r_3 : Int32) => some (r_3, k_now_2))) fun (j50_1 : (Nat → Int32) → Option (Int32 × (Nat → Int32))) => f_X10_greatestBy_L6 N y1 i_this_gates j50_1 N ((0 : Int32)) k_now_1
set_option maxHeartbeats 4000000 in
set_option maxRecDepth 100000 in
theorem c_X10_greatestBy (l : Launch) (D : va_G) (cI cJ cZ cS : ClassId) (sz N : Nat) (a_this a_now a_pathGates a_one a_other a_next a_readOne a_readOther a_readNext a_text a_pathInput a_before a_after a_values a_taken a_waves a_row a_seenPair a_seenTime a_seenLate a_isKept a_kept : Nat) (i_this_inputs : Int32) (i_this_gates : Int32) (i_this_readInputs : Int32) (i_this_readGates : Int32) (i_this_length : Int32) (i_this_paths : Int32) (i_this_acts : Int32) (i_this_turn : Int32) (i_this_seen : Int32) (i_this_seed : Int64) (k_now : (Nat → Int32)) (k_pathGates : (Nat → Int32)) (y1 : Int32) (rr : Int32) (o_now : (Nat → Int32)) (hf : f_X10_greatestBy N y1 i_this_gates i_this_paths k_now k_pathGates = some (rr, o_now)) : MetI l yX10_greatestBy wsX10_greatestBy rmX10_greatestBy D (tyA cI cJ cZ cS) [(a_this, .inr (10, [.int i_this_inputs, .int i_this_gates, .ref a_now, .ref a_one, .ref a_other, .ref a_next, .int i_this_readInputs, .int i_this_readGates, .ref a_readOne, .ref a_readOther, .ref a_readNext, .ref a_text, .int i_this_length, .int i_this_paths, .ref a_pathInput, .ref a_pathGates, .ref a_before, .ref a_after, .ref a_values, .ref a_taken, .ref a_waves, .int i_this_acts, .int i_this_turn, .ref a_row, .int i_this_seen, .ref a_seenPair, .ref a_seenTime, .ref a_seenLate, .long i_this_seed, .ref a_isKept, .ref a_kept])), (a_now, .inl (cI, 32, .inl k_now)), (a_pathGates, .inl (cI, 64, .inl k_pathGates))] sz [.ref a_this, .int y1] rr [(a_this, .inr (10, [.int i_this_inputs, .int i_this_gates, .ref a_now, .ref a_one, .ref a_other, .ref a_next, .int i_this_readInputs, .int i_this_readGates, .ref a_readOne, .ref a_readOther, .ref a_readNext, .ref a_text, .int i_this_length, .int i_this_paths, .ref a_pathInput, .ref a_pathGates, .ref a_before, .ref a_after, .ref a_values, .ref a_taken, .ref a_waves, .int i_this_acts, .int i_this_turn, .ref a_row, .int i_this_seen, .ref a_seenPair, .ref a_seenTime, .ref a_seenLate, .long i_this_seed, .ref a_isKept, .ref a_kept])), (a_now, .inl (cI, 32, .inl o_now)), (a_pathGates, .inl (cI, 64, .inl k_pathGates))] := by
  refine entI (cc := cX10_greatestBy) (maxL := 3) (own := RX10) (by decide) rfl rfl (Nat.le_of_ble_eq_true rfl) ?_
  intro p e s m args below meth c A ls Q H locs S hr hw hl hQ
  have hx := S.1.1
  have hb := S.1.2.1
  have hts := S.1.2.2.2.2
  have hl : lv_has ls 3 [(0, .ref a_this), (1, .int y1)] := hl
  have hinX10 : ∀ w ∈ u_ws RX10 TX10 31, w ∈ wsX10_greatestBy := (fun _ h => List.mem_cons_of_mem _ (List.mem_append_right _ h))
  have F7 : FLk s args wsX10_greatestBy RX10 7 RX10 TX10 31 10 2 := ⟨hinX10, rfl, by decide, hts (.fieldLink RX10 7 "SlowPathsModel" "now" "[I") (List.mem_of_getElem? (i := 2) rfl)⟩
  have F115 : FLk s args wsX10_greatestBy RX10 115 RX10 TX10 31 10 1 := ⟨hinX10, rfl, by decide, hts (.fieldLink RX10 115 "SlowPathsModel" "gates" "I") (List.mem_of_getElem? (i := 1) rfl)⟩
  have h := hf
  rw [f_X10_greatestBy] at h
  refine lv_aload_n hx hb dX10_greatestBy_0 rfl (lv_at hl 0 rfl) ?_
  obtain ⟨k_now_1, e1_1, h⟩ := obd1_el h
  refine zc_VV (As := []) (rest := []) (wr := [(a_pathGates, .inl (cI, 64, .inl k_pathGates))]) (q0 := 0) S hw (c_X10_layTrial l D cI cJ cZ cS H.size N a_this a_now a_one a_other a_next a_readOne a_readOther a_readNext a_text a_pathInput a_pathGates a_before a_after a_values a_taken a_waves a_row a_seenPair a_seenTime a_seenLate a_isKept a_kept i_this_inputs i_this_gates i_this_readInputs i_this_readGates i_this_length i_this_paths i_this_acts i_this_turn i_this_seen i_this_seed k_now k_now_1 e1_1) (cwV 0 hts gX10_greatestBy_X10_layTrial rfl rfl rfl dv_X10_layTrial ⟨Nat.le_of_ble_eq_true rfl, Nat.le_of_ble_eq_true rfl⟩) [0, 1] [2] rfl rfl rfl rfl (by decide) rfl rfl rfl rfl hl.1 rfl (Nat.le_of_ble_eq_true rfl) dX10_greatestBy_1 ⟨Nat.zero_le _, Nat.zero_le _⟩ (fun H locs hw => ?_)
  refine lv_iconst (v := (0 : Int32)) hx hb dX10_greatestBy_4 (by decide) ?_
  refine lv_istore_n (lv' := [(2, .int (0 : Int32)), (0, .ref a_this), (1, .int y1)]) hx hb dX10_greatestBy_5 rfl hl (by decide) rfl (fun ls hl => ?_)
  obtain ⟨j50_1, ej50_1, h⟩ := bnd_ex h
  have hj50_1 : ∀ (k_now_2 : (Nat → Int32)) (H : Heap) (locs : List Loc) (ls : Array Slot), j50_1 k_now_2 = some (rr, o_now) → Wd D (tyA cI cJ cZ cS) A s [(a_this, .inr (10, [.int i_this_inputs, .int i_this_gates, .ref a_now, .ref a_one, .ref a_other, .ref a_next, .int i_this_readInputs, .int i_this_readGates, .ref a_readOne, .ref a_readOther, .ref a_readNext, .ref a_text, .int i_this_length, .int i_this_paths, .ref a_pathInput, .ref a_pathGates, .ref a_before, .ref a_after, .ref a_values, .ref a_taken, .ref a_waves, .int i_this_acts, .int i_this_turn, .ref a_row, .int i_this_seen, .ref a_seenPair, .ref a_seenTime, .ref a_seenLate, .long i_this_seed, .ref a_isKept, .ref a_kept])), (a_now, .inl (cI, 32, .inl k_now_2)), (a_pathGates, .inl (cI, 64, .inl k_pathGates))] H locs → lv_has ls 3 [(0, .ref a_this)] → W p l e rmX10_greatestBy s m args below meth c H locs 0 0 Q (F0 m 50 ls []) := by
    intro k_now_2 H locs ls h hw hl
    replace h := ap1 ej50_1 h
    refine lv_aload_n hx hb dX10_greatestBy_50 rfl (lv_at hl 0 rfl) ?_
    refine lv_iconst (v := (1 : Int32)) hx hb dX10_greatestBy_51 (by decide) ?_
    obtain ⟨r_3, e52_1, h⟩ := obd1_el h
    refine zr_VI (As := [.int (1 : Int32)]) (rest := []) (q0 := 0) S hw (c_X10_greatest l D cI cJ cZ cS H.size N a_this a_pathGates a_now a_one a_other a_next a_readOne a_readOther a_readNext a_text a_pathInput a_before a_after a_values a_taken a_waves a_row a_seenPair a_seenTime a_seenLate a_isKept a_kept i_this_inputs i_this_gates i_this_readInputs i_this_readGates i_this_length i_this_paths i_this_acts i_this_turn i_this_seen i_this_seed k_pathGates k_now_2 (1 : Int32) r_3 e52_1) (cwV 1 hts gX10_greatestBy_X10_greatest rfl rfl rfl dv_X10_greatest ⟨Nat.le_of_ble_eq_true rfl, Nat.le_of_ble_eq_true rfl⟩) [0, 2, 1] rfl rfl rfl rfl rfl rfl hl.1 rfl (Nat.le_of_ble_eq_true rfl) dX10_greatestBy_52 ⟨Nat.zero_le _, Nat.zero_le _⟩ ?_
    cases h
    exact z_iret S hQ hr hw [0, 1, 2] rfl rfl dX10_greatestBy_55
  have hL6_1 : ∀ (nf : Nat) (x2_4 : Int32) (k_now_5 : (Nat → Int32)) (H : Heap) (locs : List Loc) (ls : Array Slot), f_X10_greatestBy_L6 N y1 i_this_gates j50_1 nf x2_4 k_now_5 = some (rr, o_now) → Wd D (tyA cI cJ cZ cS) A s [(a_this, .inr (10, [.int i_this_inputs, .int i_this_gates, .ref a_now, .ref a_one, .ref a_other, .ref a_next, .int i_this_readInputs, .int i_this_readGates, .ref a_readOne, .ref a_readOther, .ref a_readNext, .ref a_text, .int i_this_length, .int i_this_paths, .ref a_pathInput, .ref a_pathGates, .ref a_before, .ref a_after, .ref a_values, .ref a_taken, .ref a_waves, .int i_this_acts, .int i_this_turn, .ref a_row, .int i_this_seen, .ref a_seenPair, .ref a_seenTime, .ref a_seenLate, .long i_this_seed, .ref a_isKept, .ref a_kept])), (a_now, .inl (cI, 32, .inl k_now_5)), (a_pathGates, .inl (cI, 64, .inl k_pathGates))] H locs → lv_has ls 3 [(0, .ref a_this), (1, .int y1), (2, .int x2_4)] → W p l e rmX10_greatestBy s m args below meth c H locs 0 0 Q (F0 m 6 ls []) := by
    intro nf
    induction nf with
    | zero =>
      intro x2_4 k_now_5 H locs ls h
      rw [f_X10_greatestBy_L6] at h
      cases h
    | succ n_6 ih_6 =>
      intro x2_4 k_now_5 H locs ls h hw hl
      rw [f_X10_greatestBy_L6] at h
      refine lv_iload_n hx hb dX10_greatestBy_6 rfl (lv_at hl 2 rfl) ?_
      refine lv_aload_n hx hb dX10_greatestBy_7 rfl (lv_at hl 0 rfl) ?_
      refine z_get S hw F115 0 rfl rfl dX10_greatestBy_8 ?_
      refine lv_icmp_ge (tgt := 50) hx hb dX10_greatestBy_11 (by decide) (fun hc => ?_) (fun hc => ?_)
      · replace h := if_t hc h
        exact hj50_1 k_now_5 H locs ls h hw (lv_sub hl [0] rfl)
      · replace h := if_f hc h
        refine lv_aload_n hx hb dX10_greatestBy_14 rfl (lv_at hl 0 rfl) ?_
        refine z_get S hw F7 0 rfl rfl dX10_greatestBy_15 ?_
        refine lv_bipush (v := (24 : Int32)) hx hb dX10_greatestBy_18 (by decide) ?_
        refine lv_iload_n hx hb dX10_greatestBy_20 rfl (lv_at hl 2 rfl) ?_
        refine lv_iadd hx hb dX10_greatestBy_21 ?_
        refine lv_iload_n hx hb dX10_greatestBy_22 rfl (lv_at hl 1 rfl) ?_
        refine lv_iload_n hx hb dX10_greatestBy_23 rfl (lv_at hl 2 rfl) ?_
        obtain ⟨r_6, e24_1, h⟩ := obd1_el h
        refine zr_SI (As := [.int y1, .int x2_4]) (rest := [.int ((24 : Int32) + x2_4), .ref a_now]) (q0 := 0) (ci := 0) (fs := []) (qc := (RX0, TX0, 4)) S hw (c_X10_has l D cI cJ cZ cS H.size N y1 x2_4 r_6 e24_1) (va_cwS 2 hts gX10_greatestBy_X10_has rfl rfl rfl ds_X10_has ⟨Nat.le_of_ble_eq_true rfl, Nat.le_of_ble_eq_true rfl⟩) [] rfl rfl rfl hl.1 rfl (Nat.le_of_ble_eq_true rfl) dX10_greatestBy_24 ⟨Nat.zero_le _, Nat.zero_le _⟩ ?_
        obtain ⟨j43_1, ej43_1, h⟩ := bnd_ex h
        have hj43_1 : ∀ (t_7 : Int32) (t_8 : Int32) (H : Heap) (locs : List Loc) (ls : Array Slot), j43_1 t_7 t_8 = some (rr, o_now) → Wd D (tyA cI cJ cZ cS) A s [(a_this, .inr (10, [.int i_this_inputs, .int i_this_gates, .ref a_now, .ref a_one, .ref a_other, .ref a_next, .int i_this_readInputs, .int i_this_readGates, .ref a_readOne, .ref a_readOther, .ref a_readNext, .ref a_text, .int i_this_length, .int i_this_paths, .ref a_pathInput, .ref a_pathGates, .ref a_before, .ref a_after, .ref a_values, .ref a_taken, .ref a_waves, .int i_this_acts, .int i_this_turn, .ref a_row, .int i_this_seen, .ref a_seenPair, .ref a_seenTime, .ref a_seenLate, .long i_this_seed, .ref a_isKept, .ref a_kept])), (a_now, .inl (cI, 32, .inl k_now_5)), (a_pathGates, .inl (cI, 64, .inl k_pathGates))] H locs → lv_has ls 3 [(0, .ref a_this), (1, .int y1), (2, .int x2_4)] → W p l e rmX10_greatestBy s m args below meth c H locs 0 0 Q (F0 m 43 ls [.int t_7, .int t_8, .ref a_now]) := by
          intro t_7 t_8 H locs ls h hw hl
          replace h := ap2 ej43_1 h
          obtain ⟨hg, h⟩ := grd_el h
          obtain ⟨k_now_9, ek_now_9, h⟩ := bnd_ex h
          refine z_iast S hw ek_now_9 1 0 rfl rfl hg dX10_greatestBy_43 (fun H locs hw => ?_)
          obtain ⟨x2_10, ex2_10, h⟩ := bnd_ex h
          refine lv_iinc (v := x2_10) (lv' := [(2, .int x2_10), (0, .ref a_this), (1, .int y1)]) hx hb dX10_greatestBy_44 hl (k := 2) rfl (by rw [ex2_10]; rfl) (by decide) rfl (fun ls hl => ?_)
          refine lv_goto (tgt := 6) hx hb dX10_greatestBy_47 (by decide) ?_
          exact ih_6 x2_10 k_now_9 H locs ls h hw (lv_sub hl [1, 2, 0] rfl)
        refine lv_if_eq (tgt := 42) hx hb dX10_greatestBy_27 (by decide) (fun hc => ?_) (fun hc => ?_)
        · replace h := if_t hc h
          refine lv_iconst (v := (0 : Int32)) hx hb dX10_greatestBy_42 (by decide) ?_
          exact hj43_1 ((0 : Int32)) (((24 : Int32) + x2_4)) H locs ls h hw hl
        · replace h := if_f hc h
          refine lv_aload_n hx hb dX10_greatestBy_30 rfl (lv_at hl 0 rfl) ?_
          refine z_get S hw F7 0 rfl rfl dX10_greatestBy_31 ?_
          refine lv_bipush (v := (8 : Int32)) hx hb dX10_greatestBy_34 (by decide) ?_
          refine lv_iload_n hx hb dX10_greatestBy_36 rfl (lv_at hl 2 rfl) ?_
          refine lv_iadd hx hb dX10_greatestBy_37 ?_
          obtain ⟨hg, h⟩ := grd_el h
          refine z_iald S hw 1 0 rfl rfl hg dX10_greatestBy_38 ?_
          refine lv_goto (tgt := 43) hx hb dX10_greatestBy_39 (by decide) ?_
          exact hj43_1 ((k_now_5 ((8 : Int32) + x2_4).toNatClampNeg)) (((24 : Int32) + x2_4)) H locs ls h hw hl
  exact hL6_1 N ((0 : Int32)) k_now_1 H locs ls h (hw.sub [1, 2, 0] rfl rfl) (lv_sub hl [1, 2, 0] rfl)
abbrev rmX10_share : Room := { frames := 4, cells := 0, slots := 0, locals := 90 }
theorem dv_X10_share : yX10_share.cls = RX10 ∧ yX10_share.cls ≠ "java/lang/invoke/MethodHandle" ∧ yX10_share.cls ≠ "java/lang/invoke/VarHandle" ∧ (parseMethodDescriptor yX10_share.desc).map (fun d => d.parameters.length) = some 2 := by decide +kernel
noncomputable def f_X10_share_L15 (N : Nat) (y1 : Int32) (i_this_gates : Int32) (i_this_paths : Int32) (k_pathGates : (Nat → Int32)) (j90_1 : Int32 → (Nat → Int32) → Option (Int32 × (Nat → Int32))) : Nat → Int32 → Int32 → (Nat → Int32) → Option (Int32 × (Nat → Int32))
  | 0, _, _, _ => none
  | n_15 + 1, x3_7, x4_8, k_now_9 =>
    (if ((1 : Int32) <<< (i_this_gates &&& 31)) ≤ x4_8 then (j90_1 x3_7 k_now_9) else (obd1 (f_X10_has N x4_8 y1) fun (r_10 : Int32) => bnd (fun (x3_11 : Int32) (k_now_12 : (Nat → Int32)) => (bnd (x4_8 + (1 : Int32)) fun (x4_13 : Int32) => f_X10_share_L15 N y1 i_this_gates i_this_paths k_pathGates j90_1 n_15 x3_11 x4_13 k_now_12)) fun (j84_1 : Int32 → (Nat → Int32) → Option (Int32 × (Nat → Int32))) => (if r_10 = (0 : Int32) then (obd1 (f_X10_ones N x4_8) fun (r_14 : Int32) => obd1 (f_X10_factorial N r_14) fun (r_15 : Int32) => obd1 (f_X10_ones N x4_8) fun (r_16 : Int32) => obd1 (f_X10_factorial N ((i_this_gates - (1 : Int32)) - r_16)) fun (r_17 : Int32) => bnd ((r_15 * r_17)) fun (x5_18 : Int32) => obd2 (f_X10_greatestBy N (x4_8 ||| ((1 : Int32) <<< (y1 &&& 31))) i_this_gates i_this_paths k_now_9 k_pathGates) fun (r_19 : Int32) (k_now_20 : (Nat → Int32)) => obd2 (f_X10_greatestBy N x4_8 i_this_gates i_this_paths k_now_20 k_pathGates) fun (r_21 : Int32) (k_now_22 : (Nat → Int32)) => bnd ((x3_7 + (x5_18 * (r_19 - r_21)))) fun (x3_23 : Int32) => j84_1 x3_23 k_now_22) else (j84_1 x3_7 k_now_9))))
noncomputable def f_X10_share (N : Nat) (y1 : Int32) (y2 : Int32) (i_this_gates : Int32) (i_this_paths : Int32) (k_now : (Nat → Int32)) (k_pathGates : (Nat → Int32)) : Option (Int32 × (Nat → Int32)) :=
  obd1 (f_X10_isGate N y1 i_this_gates) fun (r_1 : Int32) => (if r_1 = (0 : Int32) then (some ((-1 : Int32), k_now)) else (bnd (fun (x3_2 : Int32) (k_now_3 : (Nat → Int32)) => (obd1 (f_X10_factorial N i_this_gates) fun (r_4 : Int32) => obd1 (f_X10_common N x3_2 r_4) fun (r_5 : Int32) => (if y2 = (0 : Int32) then (obd1 (f_X10_factorial N i_this_gates) fun (r_6 : Int32) => grd (nzI r_5) <| some ((r_6 / r_5), k_now_3)) else (grd (nzI r_5) <| some ((x3_2 / r_5), k_now_3))))) fun (j90_1 : Int32 → (Nat → Int32) → Option (Int32 × (Nat → Int32))) => f_X10_share_L15 N y1 i_this_gates i_this_paths k_pathGates j90_1 N ((0 : Int32)) ((0 : Int32)) k_now))
set_option maxHeartbeats 4000000 in
set_option maxRecDepth 100000 in
theorem c_X10_share (l : Launch) (D : va_G) (cI cJ cZ cS : ClassId) (sz N : Nat) (a_this a_now a_pathGates a_one a_other a_next a_readOne a_readOther a_readNext a_text a_pathInput a_before a_after a_values a_taken a_waves a_row a_seenPair a_seenTime a_seenLate a_isKept a_kept : Nat) (i_this_inputs : Int32) (i_this_gates : Int32) (i_this_readInputs : Int32) (i_this_readGates : Int32) (i_this_length : Int32) (i_this_paths : Int32) (i_this_acts : Int32) (i_this_turn : Int32) (i_this_seen : Int32) (i_this_seed : Int64) (k_now : (Nat → Int32)) (k_pathGates : (Nat → Int32)) (y1 : Int32) (y2 : Int32) (rr : Int32) (o_now : (Nat → Int32)) (hf : f_X10_share N y1 y2 i_this_gates i_this_paths k_now k_pathGates = some (rr, o_now)) : MetI l yX10_share wsX10_share rmX10_share D (tyA cI cJ cZ cS) [(a_this, .inr (10, [.int i_this_inputs, .int i_this_gates, .ref a_now, .ref a_one, .ref a_other, .ref a_next, .int i_this_readInputs, .int i_this_readGates, .ref a_readOne, .ref a_readOther, .ref a_readNext, .ref a_text, .int i_this_length, .int i_this_paths, .ref a_pathInput, .ref a_pathGates, .ref a_before, .ref a_after, .ref a_values, .ref a_taken, .ref a_waves, .int i_this_acts, .int i_this_turn, .ref a_row, .int i_this_seen, .ref a_seenPair, .ref a_seenTime, .ref a_seenLate, .long i_this_seed, .ref a_isKept, .ref a_kept])), (a_now, .inl (cI, 32, .inl k_now)), (a_pathGates, .inl (cI, 64, .inl k_pathGates))] sz [.ref a_this, .int y1, .int y2] rr [(a_this, .inr (10, [.int i_this_inputs, .int i_this_gates, .ref a_now, .ref a_one, .ref a_other, .ref a_next, .int i_this_readInputs, .int i_this_readGates, .ref a_readOne, .ref a_readOther, .ref a_readNext, .ref a_text, .int i_this_length, .int i_this_paths, .ref a_pathInput, .ref a_pathGates, .ref a_before, .ref a_after, .ref a_values, .ref a_taken, .ref a_waves, .int i_this_acts, .int i_this_turn, .ref a_row, .int i_this_seen, .ref a_seenPair, .ref a_seenTime, .ref a_seenLate, .long i_this_seed, .ref a_isKept, .ref a_kept])), (a_now, .inl (cI, 32, .inl o_now)), (a_pathGates, .inl (cI, 64, .inl k_pathGates))] := by
  refine entI (cc := cX10_share) (maxL := 6) (own := RX10) (by decide) rfl rfl (Nat.le_of_ble_eq_true rfl) ?_
  intro p e s m args below meth c A ls Q H locs S hr hw hl hQ
  have hx := S.1.1
  have hb := S.1.2.1
  have hts := S.1.2.2.2.2
  have hl : lv_has ls 6 [(0, .ref a_this), (1, .int y1), (2, .int y2)] := hl
  have hinX10 : ∀ w ∈ u_ws RX10 TX10 31, w ∈ wsX10_share := (fun _ h => List.mem_cons_of_mem _ (List.mem_append_right _ h))
  have F115 : FLk s args wsX10_share RX10 115 RX10 TX10 31 10 1 := ⟨hinX10, rfl, by decide, hts (.fieldLink RX10 115 "SlowPathsModel" "gates" "I") (List.mem_of_getElem? (i := 1) rfl)⟩
  have h := hf
  rw [f_X10_share] at h
  refine lv_aload_n hx hb dX10_share_0 rfl (lv_at hl 0 rfl) ?_
  refine lv_iload_n hx hb dX10_share_1 rfl (lv_at hl 1 rfl) ?_
  obtain ⟨r_1, e2_1, h⟩ := obd1_el h
  refine zr_VI (As := [.int y1]) (rest := []) (q0 := 0) S hw (c_X10_isGate l D cI cJ cZ cS H.size N a_this a_now a_one a_other a_next a_readOne a_readOther a_readNext a_text a_pathInput a_pathGates a_before a_after a_values a_taken a_waves a_row a_seenPair a_seenTime a_seenLate a_isKept a_kept i_this_inputs i_this_gates i_this_readInputs i_this_readGates i_this_length i_this_paths i_this_acts i_this_turn i_this_seen i_this_seed y1 r_1 e2_1) (cwV 1 hts gX10_share_X10_isGate rfl rfl rfl dv_X10_isGate ⟨Nat.le_of_ble_eq_true rfl, Nat.le_of_ble_eq_true rfl⟩) [0] rfl rfl rfl rfl rfl rfl hl.1 rfl (Nat.le_of_ble_eq_true rfl) dX10_share_2 ⟨Nat.zero_le _, Nat.zero_le _⟩ ?_
  refine lv_if_ne (tgt := 10) hx hb dX10_share_5 (by decide) (fun hc => ?_) (fun hc => ?_)
  · replace h := if_f hc h
    refine lv_iconst (v := (0 : Int32)) hx hb dX10_share_10 (by decide) ?_
    refine lv_istore_n (lv' := [(3, .int (0 : Int32)), (0, .ref a_this), (1, .int y1), (2, .int y2)]) hx hb dX10_share_11 rfl hl (by decide) rfl (fun ls hl => ?_)
    refine lv_iconst (v := (0 : Int32)) hx hb dX10_share_12 (by decide) ?_
    refine lv_istore (lv' := [(4, .int (0 : Int32)), (3, .int (0 : Int32)), (0, .ref a_this), (1, .int y1), (2, .int y2)]) hx hb dX10_share_13 hl (by decide) rfl (fun ls hl => ?_)
    obtain ⟨j90_1, ej90_1, h⟩ := bnd_ex h
    have hj90_1 : ∀ (x3_2 : Int32) (k_now_3 : (Nat → Int32)) (H : Heap) (locs : List Loc) (ls : Array Slot), j90_1 x3_2 k_now_3 = some (rr, o_now) → Wd D (tyA cI cJ cZ cS) A s [(a_this, .inr (10, [.int i_this_inputs, .int i_this_gates, .ref a_now, .ref a_one, .ref a_other, .ref a_next, .int i_this_readInputs, .int i_this_readGates, .ref a_readOne, .ref a_readOther, .ref a_readNext, .ref a_text, .int i_this_length, .int i_this_paths, .ref a_pathInput, .ref a_pathGates, .ref a_before, .ref a_after, .ref a_values, .ref a_taken, .ref a_waves, .int i_this_acts, .int i_this_turn, .ref a_row, .int i_this_seen, .ref a_seenPair, .ref a_seenTime, .ref a_seenLate, .long i_this_seed, .ref a_isKept, .ref a_kept])), (a_now, .inl (cI, 32, .inl k_now_3)), (a_pathGates, .inl (cI, 64, .inl k_pathGates))] H locs → lv_has ls 6 [(0, .ref a_this), (2, .int y2), (3, .int x3_2)] → W p l e rmX10_share s m args below meth c H locs 0 0 Q (F0 m 90 ls []) := by
      intro x3_2 k_now_3 H locs ls h hw hl
      replace h := ap2 ej90_1 h
      refine lv_iload_n hx hb dX10_share_90 rfl (lv_at hl 2 rfl) ?_
      refine lv_aload_n hx hb dX10_share_91 rfl (lv_at hl 0 rfl) ?_
      refine z_get S hw F115 0 rfl rfl dX10_share_92 ?_
      obtain ⟨r_4, e95_1, h⟩ := obd1_el h
      refine zr_SI (As := [.int i_this_gates]) (rest := [.int x3_2]) (q0 := 0) (ci := 0) (fs := []) (qc := (RX0, TX0, 4)) S hw (c_X10_factorial l D cI cJ cZ cS H.size N i_this_gates r_4 e95_1) (va_cwS 1 hts gX10_share_X10_factorial rfl rfl rfl ds_X10_factorial ⟨Nat.le_of_ble_eq_true rfl, Nat.le_of_ble_eq_true rfl⟩) [] rfl rfl rfl hl.1 rfl (Nat.le_of_ble_eq_true rfl) dX10_share_95 ⟨Nat.zero_le _, Nat.zero_le _⟩ ?_
      obtain ⟨r_5, e98_1, h⟩ := obd1_el h
      refine zr_SI (As := [.int x3_2, .int r_4]) (rest := []) (q0 := 0) (ci := 0) (fs := []) (qc := (RX0, TX0, 4)) S hw (c_X10_common l D cI cJ cZ cS H.size N x3_2 r_4 r_5 e98_1) (va_cwS 2 hts gX10_share_X10_common rfl rfl rfl ds_X10_common ⟨Nat.le_of_ble_eq_true rfl, Nat.le_of_ble_eq_true rfl⟩) [] rfl rfl rfl hl.1 rfl (Nat.le_of_ble_eq_true rfl) dX10_share_98 ⟨Nat.zero_le _, Nat.zero_le _⟩ ?_
      refine lv_istore (lv' := [(4, .int r_5), (0, .ref a_this), (2, .int y2), (3, .int x3_2)]) hx hb dX10_share_101 hl (by decide) rfl (fun ls hl => ?_)
      refine lv_iload_n hx hb dX10_share_103 rfl (lv_at hl 2 rfl) ?_
      refine lv_if_eq (tgt := 114) hx hb dX10_share_104 (by decide) (fun hc => ?_) (fun hc => ?_)
      · replace h := if_t hc h
        refine lv_aload_n hx hb dX10_share_114 rfl (lv_at hl 1 rfl) ?_
        refine z_get S hw F115 0 rfl rfl dX10_share_115 ?_
        obtain ⟨r_6, e118_1, h⟩ := obd1_el h
        refine zr_SI (As := [.int i_this_gates]) (rest := []) (q0 := 0) (ci := 0) (fs := []) (qc := (RX0, TX0, 4)) S hw (c_X10_factorial l D cI cJ cZ cS H.size N i_this_gates r_6 e118_1) (va_cwS 1 hts gX10_share_X10_factorial rfl rfl rfl ds_X10_factorial ⟨Nat.le_of_ble_eq_true rfl, Nat.le_of_ble_eq_true rfl⟩) [] rfl rfl rfl hl.1 rfl (Nat.le_of_ble_eq_true rfl) dX10_share_118 ⟨Nat.zero_le _, Nat.zero_le _⟩ ?_
        refine lv_iload hx hb dX10_share_121 (lv_at hl 0 rfl) ?_
        obtain ⟨hg, h⟩ := grd_el h
        refine lv_idiv hx hb dX10_share_123 (nzI_ne hg) ?_
        cases h
        exact z_iret S hQ hr hw [0, 1, 2] rfl rfl dX10_share_124
      · replace h := if_f hc h
        refine lv_iload_n hx hb dX10_share_107 rfl (lv_at hl 3 rfl) ?_
        refine lv_iload hx hb dX10_share_108 (lv_at hl 0 rfl) ?_
        obtain ⟨hg, h⟩ := grd_el h
        refine lv_idiv hx hb dX10_share_110 (nzI_ne hg) ?_
        refine lv_goto (tgt := 124) hx hb dX10_share_111 (by decide) ?_
        cases h
        exact z_iret S hQ hr hw [0, 1, 2] rfl rfl dX10_share_124
    have hL15_1 : ∀ (nf : Nat) (x3_7 : Int32) (x4_8 : Int32) (k_now_9 : (Nat → Int32)) (H : Heap) (locs : List Loc) (ls : Array Slot), f_X10_share_L15 N y1 i_this_gates i_this_paths k_pathGates j90_1 nf x3_7 x4_8 k_now_9 = some (rr, o_now) → Wd D (tyA cI cJ cZ cS) A s [(a_this, .inr (10, [.int i_this_inputs, .int i_this_gates, .ref a_now, .ref a_one, .ref a_other, .ref a_next, .int i_this_readInputs, .int i_this_readGates, .ref a_readOne, .ref a_readOther, .ref a_readNext, .ref a_text, .int i_this_length, .int i_this_paths, .ref a_pathInput, .ref a_pathGates, .ref a_before, .ref a_after, .ref a_values, .ref a_taken, .ref a_waves, .int i_this_acts, .int i_this_turn, .ref a_row, .int i_this_seen, .ref a_seenPair, .ref a_seenTime, .ref a_seenLate, .long i_this_seed, .ref a_isKept, .ref a_kept])), (a_now, .inl (cI, 32, .inl k_now_9)), (a_pathGates, .inl (cI, 64, .inl k_pathGates))] H locs → lv_has ls 6 [(0, .ref a_this), (1, .int y1), (2, .int y2), (3, .int x3_7), (4, .int x4_8)] → W p l e rmX10_share s m args below meth c H locs 0 0 Q (F0 m 15 ls []) := by
      intro nf
      induction nf with
      | zero =>
        intro x3_7 x4_8 k_now_9 H locs ls h
        rw [f_X10_share_L15] at h
        cases h
      | succ n_15 ih_15 =>
        intro x3_7 x4_8 k_now_9 H locs ls h hw hl
        rw [f_X10_share_L15] at h
        refine lv_iload hx hb dX10_share_15 (lv_at hl 4 rfl) ?_
        refine lv_iconst (v := (1 : Int32)) hx hb dX10_share_17 (by decide) ?_
        refine lv_aload_n hx hb dX10_share_18 rfl (lv_at hl 0 rfl) ?_
        refine z_get S hw F115 0 rfl rfl dX10_share_19 ?_
        refine lv_ishl hx hb dX10_share_22 ?_
        refine lv_icmp_ge (tgt := 90) hx hb dX10_share_23 (by decide) (fun hc => ?_) (fun hc => ?_)
        · replace h := if_t hc h
          exact hj90_1 x3_7 k_now_9 H locs ls h hw (lv_sub hl [0, 2, 3] rfl)
        · replace h := if_f hc h
          refine lv_iload hx hb dX10_share_26 (lv_at hl 4 rfl) ?_
          refine lv_iload_n hx hb dX10_share_28 rfl (lv_at hl 1 rfl) ?_
          obtain ⟨r_10, e29_1, h⟩ := obd1_el h
          refine zr_SI (As := [.int x4_8, .int y1]) (rest := []) (q0 := 0) (ci := 0) (fs := []) (qc := (RX0, TX0, 4)) S hw (c_X10_has l D cI cJ cZ cS H.size N x4_8 y1 r_10 e29_1) (va_cwS 2 hts gX10_share_X10_has rfl rfl rfl ds_X10_has ⟨Nat.le_of_ble_eq_true rfl, Nat.le_of_ble_eq_true rfl⟩) [] rfl rfl rfl hl.1 rfl (Nat.le_of_ble_eq_true rfl) dX10_share_29 ⟨Nat.zero_le _, Nat.zero_le _⟩ ?_
          obtain ⟨j84_1, ej84_1, h⟩ := bnd_ex h
          have hj84_1 : ∀ (x3_11 : Int32) (k_now_12 : (Nat → Int32)) (H : Heap) (locs : List Loc) (ls : Array Slot), j84_1 x3_11 k_now_12 = some (rr, o_now) → Wd D (tyA cI cJ cZ cS) A s [(a_this, .inr (10, [.int i_this_inputs, .int i_this_gates, .ref a_now, .ref a_one, .ref a_other, .ref a_next, .int i_this_readInputs, .int i_this_readGates, .ref a_readOne, .ref a_readOther, .ref a_readNext, .ref a_text, .int i_this_length, .int i_this_paths, .ref a_pathInput, .ref a_pathGates, .ref a_before, .ref a_after, .ref a_values, .ref a_taken, .ref a_waves, .int i_this_acts, .int i_this_turn, .ref a_row, .int i_this_seen, .ref a_seenPair, .ref a_seenTime, .ref a_seenLate, .long i_this_seed, .ref a_isKept, .ref a_kept])), (a_now, .inl (cI, 32, .inl k_now_12)), (a_pathGates, .inl (cI, 64, .inl k_pathGates))] H locs → lv_has ls 6 [(0, .ref a_this), (1, .int y1), (2, .int y2), (3, .int x3_11), (4, .int x4_8)] → W p l e rmX10_share s m args below meth c H locs 0 0 Q (F0 m 84 ls []) := by
            intro x3_11 k_now_12 H locs ls h hw hl
            replace h := ap2 ej84_1 h
            obtain ⟨x4_13, ex4_13, h⟩ := bnd_ex h
            refine lv_iinc (v := x4_13) (lv' := [(4, .int x4_13), (0, .ref a_this), (1, .int y1), (2, .int y2), (3, .int x3_11)]) hx hb dX10_share_84 hl (k := 4) rfl (by rw [ex4_13]; rfl) (by decide) rfl (fun ls hl => ?_)
            refine lv_goto (tgt := 15) hx hb dX10_share_87 (by decide) ?_
            exact ih_15 x3_11 x4_13 k_now_12 H locs ls h hw (lv_sub hl [1, 2, 3, 4, 0] rfl)
          refine lv_if_ne (tgt := 84) hx hb dX10_share_32 (by decide) (fun hc => ?_) (fun hc => ?_)
          · replace h := if_f hc h
            exact hj84_1 x3_7 k_now_9 H locs ls h hw hl
          · replace h := if_t hc h
            refine lv_iload hx hb dX10_share_35 (lv_at hl 4 rfl) ?_
            obtain ⟨r_14, e37_1, h⟩ := obd1_el h
            refine zr_SI (As := [.int x4_8]) (rest := []) (q0 := 0) (ci := 0) (fs := []) (qc := (RX0, TX0, 4)) S hw (c_X10_ones l D cI cJ cZ cS H.size N x4_8 r_14 e37_1) (va_cwS 1 hts gX10_share_X10_ones rfl rfl rfl ds_X10_ones ⟨Nat.le_of_ble_eq_true rfl, Nat.le_of_ble_eq_true rfl⟩) [] rfl rfl rfl hl.1 rfl (Nat.le_of_ble_eq_true rfl) dX10_share_37 ⟨Nat.zero_le _, Nat.zero_le _⟩ ?_
            obtain ⟨r_15, e40_1, h⟩ := obd1_el h
            refine zr_SI (As := [.int r_14]) (rest := []) (q0 := 0) (ci := 0) (fs := []) (qc := (RX0, TX0, 4)) S hw (c_X10_factorial l D cI cJ cZ cS H.size N r_14 r_15 e40_1) (va_cwS 1 hts gX10_share_X10_factorial rfl rfl rfl ds_X10_factorial ⟨Nat.le_of_ble_eq_true rfl, Nat.le_of_ble_eq_true rfl⟩) [] rfl rfl rfl hl.1 rfl (Nat.le_of_ble_eq_true rfl) dX10_share_40 ⟨Nat.zero_le _, Nat.zero_le _⟩ ?_
            refine lv_aload_n hx hb dX10_share_43 rfl (lv_at hl 0 rfl) ?_
            refine z_get S hw F115 0 rfl rfl dX10_share_44 ?_
            refine lv_iconst (v := (1 : Int32)) hx hb dX10_share_47 (by decide) ?_
            refine lv_isub hx hb dX10_share_48 ?_
            refine lv_iload hx hb dX10_share_49 (lv_at hl 4 rfl) ?_
            obtain ⟨r_16, e51_1, h⟩ := obd1_el h
            refine zr_SI (As := [.int x4_8]) (rest := [.int (i_this_gates - (1 : Int32)), .int r_15]) (q0 := 0) (ci := 0) (fs := []) (qc := (RX0, TX0, 4)) S hw (c_X10_ones l D cI cJ cZ cS H.size N x4_8 r_16 e51_1) (va_cwS 1 hts gX10_share_X10_ones rfl rfl rfl ds_X10_ones ⟨Nat.le_of_ble_eq_true rfl, Nat.le_of_ble_eq_true rfl⟩) [] rfl rfl rfl hl.1 rfl (Nat.le_of_ble_eq_true rfl) dX10_share_51 ⟨Nat.zero_le _, Nat.zero_le _⟩ ?_
            refine lv_isub hx hb dX10_share_54 ?_
            obtain ⟨r_17, e55_1, h⟩ := obd1_el h
            refine zr_SI (As := [.int ((i_this_gates - (1 : Int32)) - r_16)]) (rest := [.int r_15]) (q0 := 0) (ci := 0) (fs := []) (qc := (RX0, TX0, 4)) S hw (c_X10_factorial l D cI cJ cZ cS H.size N ((i_this_gates - (1 : Int32)) - r_16) r_17 e55_1) (va_cwS 1 hts gX10_share_X10_factorial rfl rfl rfl ds_X10_factorial ⟨Nat.le_of_ble_eq_true rfl, Nat.le_of_ble_eq_true rfl⟩) [] rfl rfl rfl hl.1 rfl (Nat.le_of_ble_eq_true rfl) dX10_share_55 ⟨Nat.zero_le _, Nat.zero_le _⟩ ?_
            refine lv_imul hx hb dX10_share_58 ?_
            refine lv_topi (fun x5_18 ex5_18 => ?_)
            replace h := bnd_at ex5_18 h
            refine lv_istore (lv' := [(5, .int x5_18), (0, .ref a_this), (1, .int y1), (2, .int y2), (3, .int x3_7), (4, .int x4_8)]) hx hb dX10_share_59 hl (by decide) rfl (fun ls hl => ?_)
            refine lv_iload_n hx hb dX10_share_61 rfl (lv_at hl 4 rfl) ?_
            refine lv_iload hx hb dX10_share_62 (lv_at hl 0 rfl) ?_
            refine lv_aload_n hx hb dX10_share_64 rfl (lv_at hl 1 rfl) ?_
            refine lv_iload hx hb dX10_share_65 (lv_at hl 5 rfl) ?_
            refine lv_iconst (v := (1 : Int32)) hx hb dX10_share_67 (by decide) ?_
            refine lv_iload_n hx hb dX10_share_68 rfl (lv_at hl 2 rfl) ?_
            refine lv_ishl hx hb dX10_share_69 ?_
            refine lv_ior hx hb dX10_share_70 ?_
            obtain ⟨r_19, k_now_20, e71_1, h⟩ := obd2_el h
            refine zc_VI (As := [.int (x4_8 ||| ((1 : Int32) <<< (y1 &&& 31)))]) (rest := [.int x5_18, .int x3_7]) (wr := []) (q0 := 0) S hw (c_X10_greatestBy l D cI cJ cZ cS H.size N a_this a_now a_pathGates a_one a_other a_next a_readOne a_readOther a_readNext a_text a_pathInput a_before a_after a_values a_taken a_waves a_row a_seenPair a_seenTime a_seenLate a_isKept a_kept i_this_inputs i_this_gates i_this_readInputs i_this_readGates i_this_length i_this_paths i_this_acts i_this_turn i_this_seen i_this_seed k_now_9 k_pathGates (x4_8 ||| ((1 : Int32) <<< (y1 &&& 31))) r_19 k_now_20 e71_1) (cwV 1 hts gX10_share_X10_greatestBy rfl rfl rfl dv_X10_greatestBy ⟨Nat.le_of_ble_eq_true rfl, Nat.le_of_ble_eq_true rfl⟩) [0, 1, 2] [] rfl rfl rfl rfl (by decide) rfl rfl rfl rfl hl.1 rfl (Nat.le_of_ble_eq_true rfl) dX10_share_71 ⟨Nat.zero_le _, Nat.zero_le _⟩ (fun H locs hw => ?_)
            refine lv_aload_n hx hb dX10_share_74 rfl (lv_at hl 1 rfl) ?_
            refine lv_iload hx hb dX10_share_75 (lv_at hl 5 rfl) ?_
            obtain ⟨r_21, k_now_22, e77_1, h⟩ := obd2_el h
            refine zc_VI (As := [.int x4_8]) (rest := [.int r_19, .int x5_18, .int x3_7]) (wr := []) (q0 := 0) S hw (c_X10_greatestBy l D cI cJ cZ cS H.size N a_this a_now a_pathGates a_one a_other a_next a_readOne a_readOther a_readNext a_text a_pathInput a_before a_after a_values a_taken a_waves a_row a_seenPair a_seenTime a_seenLate a_isKept a_kept i_this_inputs i_this_gates i_this_readInputs i_this_readGates i_this_length i_this_paths i_this_acts i_this_turn i_this_seen i_this_seed k_now_20 k_pathGates x4_8 r_21 k_now_22 e77_1) (cwV 1 hts gX10_share_X10_greatestBy rfl rfl rfl dv_X10_greatestBy ⟨Nat.le_of_ble_eq_true rfl, Nat.le_of_ble_eq_true rfl⟩) [0, 1, 2] [] rfl rfl rfl rfl (by decide) rfl rfl rfl rfl hl.1 rfl (Nat.le_of_ble_eq_true rfl) dX10_share_77 ⟨Nat.zero_le _, Nat.zero_le _⟩ (fun H locs hw => ?_)
            refine lv_isub hx hb dX10_share_80 ?_
            refine lv_imul hx hb dX10_share_81 ?_
            refine lv_iadd hx hb dX10_share_82 ?_
            refine lv_topi (fun x3_23 ex3_23 => ?_)
            replace h := bnd_at ex3_23 h
            refine lv_istore_n (lv' := [(3, .int x3_23), (5, .int x5_18), (0, .ref a_this), (1, .int y1), (2, .int y2), (4, .int x4_8)]) hx hb dX10_share_83 rfl hl (by decide) rfl (fun ls hl => ?_)
            exact hj84_1 x3_23 k_now_22 H locs ls h hw (lv_sub hl [2, 3, 4, 0, 5] rfl)
    exact hL15_1 N ((0 : Int32)) ((0 : Int32)) k_now H locs ls h hw (lv_sub hl [2, 3, 4, 1, 0] rfl)
  · replace h := if_t hc h
    refine lv_iconst (v := (-1 : Int32)) hx hb dX10_share_8 (by decide) ?_
    cases h
    exact z_iret S hQ hr hw [0, 1, 2] rfl rfl dX10_share_9
abbrev rmX10_slows : Room := { frames := 5, cells := 0, slots := 0, locals := 118 }
theorem dv_X10_slows : yX10_slows.cls = RX10 ∧ yX10_slows.cls ≠ "java/lang/invoke/MethodHandle" ∧ yX10_slows.cls ≠ "java/lang/invoke/VarHandle" ∧ (parseMethodDescriptor yX10_slows.desc).map (fun d => d.parameters.length) = some 4 := by decide +kernel
noncomputable def f_X10_slows_L75 (N : Nat) (y3 : Int32) (i_this_gates : Int32) (x7_14 : Int32) (j141_1 : Int32 → (Nat → Int32) → Option (Int32 × (Nat → Int32) × (Nat → Int32) × (Nat → Int32) × (Nat → Int32) × (Nat → Int32))) : Nat → Int32 → Int32 → (Nat → Int32) → Option (Int32 × (Nat → Int32) × (Nat → Int32) × (Nat → Int32) × (Nat → Int32) × (Nat → Int32))
  | 0, _, _, _ => none
  | n_75 + 1, x8_42, x9_43, k_now_44 =>
    (if i_this_gates ≤ x9_43 then (j141_1 x8_42 k_now_44) else (obd1 (f_X10_has N x7_14 x9_43) fun (r_45 : Int32) => bnd (fun (t_46 : Int32) (t_47 : Int32) => (bnd ((t_47 * t_46)) fun (x8_48 : Int32) => bnd (((24 : Int32) + x9_43)) fun (t_49 : Int32) => grd (inb t_49 32) <| obd1 (f_X10_has N x7_14 x9_43) fun (r_50 : Int32) => bnd (fun (t_51 : Int32) (t_52 : Int32) (t_53 : Int32) => (grd (inb t_53 32) <| bnd (upd k_now_44 t_53.toNatClampNeg (t_52 + t_51)) fun (k_now_54 : (Nat → Int32)) => bnd (x9_43 + (1 : Int32)) fun (x9_55 : Int32) => f_X10_slows_L75 N y3 i_this_gates x7_14 j141_1 n_75 x8_48 x9_55 k_now_54)) fun (j133_1 : Int32 → Int32 → Int32 → Option (Int32 × (Nat → Int32) × (Nat → Int32) × (Nat → Int32) × (Nat → Int32) × (Nat → Int32))) => (if r_50 = (0 : Int32) then (j133_1 ((0 : Int32)) ((k_now_44 t_49.toNatClampNeg)) t_49) else (j133_1 ((3 : Int32)) ((k_now_44 t_49.toNatClampNeg)) t_49)))) fun (j104_1 : Int32 → Int32 → Option (Int32 × (Nat → Int32) × (Nat → Int32) × (Nat → Int32) × (Nat → Int32) × (Nat → Int32))) => (if r_45 = (0 : Int32) then (j104_1 (((10 : Int32) - y3)) x8_42) else (j104_1 y3 x8_42))))
noncomputable def f_X10_slows_L54 (N : Nat) (y1 : Int32) (y2 : Int32) (y3 : Int32) (i_this_inputs : Int32) (i_this_gates : Int32) (k_other : (Nat → Int32)) (k_one : (Nat → Int32)) (j180_1 : Int32 → Int32 → (Nat → Int32) → (Nat → Int32) → (Nat → Int32) → (Nat → Int32) → (Nat → Int32) → Option (Int32 × (Nat → Int32) × (Nat → Int32) × (Nat → Int32) × (Nat → Int32) × (Nat → Int32))) : Nat → Int32 → Int32 → Int32 → (Nat → Int32) → (Nat → Int32) → (Nat → Int32) → (Nat → Int32) → (Nat → Int32) → Option (Int32 × (Nat → Int32) × (Nat → Int32) × (Nat → Int32) × (Nat → Int32) × (Nat → Int32))
  | 0, _, _, _, _, _, _, _, _ => none
  | n_54 + 1, x5_12, x6_13, x7_14, k_now_15, k_before_16, k_after_17, k_values_18, k_waves_19 =>
    (if ((1 : Int32) <<< (i_this_gates &&& 31)) ≤ x7_14 then (j180_1 x5_12 x6_13 k_now_15 k_before_16 k_after_17 k_values_18 k_waves_19) else (obd1 (f_X10_layTrial N k_now_15) fun (k_now_20 : (Nat → Int32)) => bnd (fun (x8_21 : Int32) (k_now_22 : (Nat → Int32)) => (bnd ((x6_13 + x8_21)) fun (x6_23 : Int32) => bnd (fun (t_24 : Int32) (t_25 : Int32) (k_before_26 : (Nat → Int32)) (k_after_27 : (Nat → Int32)) (k_values_28 : (Nat → Int32)) (k_waves_29 : (Nat → Int32)) => (bnd ((t_25 + t_24)) fun (x5_30 : Int32) => bnd (x7_14 + (1 : Int32)) fun (x7_31 : Int32) => f_X10_slows_L54 N y1 y2 y3 i_this_inputs i_this_gates k_other k_one j180_1 n_54 x5_30 x6_23 x7_31 k_now_22 k_before_26 k_after_27 k_values_28 k_waves_29)) fun (j171_1 : Int32 → Int32 → (Nat → Int32) → (Nat → Int32) → (Nat → Int32) → (Nat → Int32) → Option (Int32 × (Nat → Int32) × (Nat → Int32) × (Nat → Int32) × (Nat → Int32) × (Nat → Int32))) => bnd (fun (t_32 : Int32) (k_before_33 : (Nat → Int32)) (k_after_34 : (Nat → Int32)) (k_values_35 : (Nat → Int32)) (k_waves_36 : (Nat → Int32)) => (j171_1 ((0 : Int32)) t_32 k_before_33 k_after_34 k_values_35 k_waves_36)) fun (j170_1 : Int32 → (Nat → Int32) → (Nat → Int32) → (Nat → Int32) → (Nat → Int32) → Option (Int32 × (Nat → Int32) × (Nat → Int32) × (Nat → Int32) × (Nat → Int32) × (Nat → Int32))) => (if x8_21 ≤ (0 : Int32) then (j170_1 x5_12 k_before_16 k_after_17 k_values_18 k_waves_19) else (obd5 (f_X10_isLate N (1 : Int32) y1 y2 i_this_inputs i_this_gates k_now_22 k_other k_one k_before_16 k_after_17 k_values_18 k_waves_19) fun (r_37 : Int32) (k_before_38 : (Nat → Int32)) (k_after_39 : (Nat → Int32)) (k_values_40 : (Nat → Int32)) (k_waves_41 : (Nat → Int32)) => (if r_37 = (0 : Int32) then (j170_1 x5_12 k_before_38 k_after_39 k_values_40 k_waves_41) else (j171_1 x8_21 x5_12 k_before_38 k_after_39 k_values_40 k_waves_41)))))) fun (j141_1 : Int32 → (Nat → Int32) → Option (Int32 × (Nat → Int32) × (Nat → Int32) × (Nat → Int32) × (Nat → Int32) × (Nat → Int32))) => f_X10_slows_L75 N y3 i_this_gates x7_14 j141_1 N ((1 : Int32)) ((0 : Int32)) k_now_20))
noncomputable def f_X10_slows (N : Nat) (y1 : Int32) (y2 : Int32) (y3 : Int32) (y4 : Int32) (i_this_inputs : Int32) (i_this_gates : Int32) (k_now : (Nat → Int32)) (k_other : (Nat → Int32)) (k_one : (Nat → Int32)) (k_before : (Nat → Int32)) (k_after : (Nat → Int32)) (k_values : (Nat → Int32)) (k_waves : (Nat → Int32)) : Option (Int32 × (Nat → Int32) × (Nat → Int32) × (Nat → Int32) × (Nat → Int32) × (Nat → Int32)) :=
  obd1 (f_X10_isPair N y1 i_this_inputs) fun (r_1 : Int32) => (if r_1 = (0 : Int32) then (some ((-2 : Int32), k_now, k_before, k_after, k_values, k_waves)) else (obd1 (f_X10_in N (y2.toInt64) (0 : Int64) (99 : Int64)) fun (r_2 : Int32) => (if r_2 = (0 : Int32) then (some ((-2 : Int32), k_now, k_before, k_after, k_values, k_waves)) else (obd1 (f_X10_in N (y3.toInt64) (0 : Int64) (10 : Int64)) fun (r_3 : Int32) => (if r_3 = (0 : Int32) then (some ((-2 : Int32), k_now, k_before, k_after, k_values, k_waves)) else ((if i_this_gates = (0 : Int32) then (some ((-3 : Int32), k_now, k_before, k_after, k_values, k_waves)) else (bnd (fun (x5_4 : Int32) (x6_5 : Int32) (k_now_6 : (Nat → Int32)) (k_before_7 : (Nat → Int32)) (k_after_8 : (Nat → Int32)) (k_values_9 : (Nat → Int32)) (k_waves_10 : (Nat → Int32)) => (obd1 (f_X10_common N x5_4 x6_5) fun (r_11 : Int32) => (if y4 = (0 : Int32) then (grd (nzI r_11) <| some ((x6_5 / r_11), k_now_6, k_before_7, k_after_8, k_values_9, k_waves_10)) else (grd (nzI r_11) <| some ((x5_4 / r_11), k_now_6, k_before_7, k_after_8, k_values_9, k_waves_10))))) fun (j180_1 : Int32 → Int32 → (Nat → Int32) → (Nat → Int32) → (Nat → Int32) → (Nat → Int32) → (Nat → Int32) → Option (Int32 × (Nat → Int32) × (Nat → Int32) × (Nat → Int32) × (Nat → Int32) × (Nat → Int32))) => f_X10_slows_L54 N y1 y2 y3 i_this_inputs i_this_gates k_other k_one j180_1 N ((0 : Int32)) ((0 : Int32)) ((0 : Int32)) k_now k_before k_after k_values k_waves))))))))
set_option maxHeartbeats 4000000 in
set_option maxRecDepth 100000 in
theorem c_X10_slows (l : Launch) (D : va_G) (cI cJ cZ cS : ClassId) (sz N : Nat) (a_this a_now a_other a_one a_before a_after a_values a_waves a_next a_readOne a_readOther a_readNext a_text a_pathInput a_pathGates a_taken a_row a_seenPair a_seenTime a_seenLate a_isKept a_kept : Nat) (i_this_inputs : Int32) (i_this_gates : Int32) (i_this_readInputs : Int32) (i_this_readGates : Int32) (i_this_length : Int32) (i_this_paths : Int32) (i_this_acts : Int32) (i_this_turn : Int32) (i_this_seen : Int32) (i_this_seed : Int64) (k_now : (Nat → Int32)) (k_other : (Nat → Int32)) (k_one : (Nat → Int32)) (k_before : (Nat → Int32)) (k_after : (Nat → Int32)) (k_values : (Nat → Int32)) (k_waves : (Nat → Int32)) (y1 : Int32) (y2 : Int32) (y3 : Int32) (y4 : Int32) (rr : Int32) (o_now : (Nat → Int32)) (o_before : (Nat → Int32)) (o_after : (Nat → Int32)) (o_values : (Nat → Int32)) (o_waves : (Nat → Int32)) (hf : f_X10_slows N y1 y2 y3 y4 i_this_inputs i_this_gates k_now k_other k_one k_before k_after k_values k_waves = some (rr, o_now, o_before, o_after, o_values, o_waves)) : MetI l yX10_slows wsX10_slows rmX10_slows D (tyA cI cJ cZ cS) [(a_this, .inr (10, [.int i_this_inputs, .int i_this_gates, .ref a_now, .ref a_one, .ref a_other, .ref a_next, .int i_this_readInputs, .int i_this_readGates, .ref a_readOne, .ref a_readOther, .ref a_readNext, .ref a_text, .int i_this_length, .int i_this_paths, .ref a_pathInput, .ref a_pathGates, .ref a_before, .ref a_after, .ref a_values, .ref a_taken, .ref a_waves, .int i_this_acts, .int i_this_turn, .ref a_row, .int i_this_seen, .ref a_seenPair, .ref a_seenTime, .ref a_seenLate, .long i_this_seed, .ref a_isKept, .ref a_kept])), (a_now, .inl (cI, 32, .inl k_now)), (a_other, .inl (cI, 8, .inl k_other)), (a_one, .inl (cI, 8, .inl k_one)), (a_before, .inl (cI, 12, .inl k_before)), (a_after, .inl (cI, 12, .inl k_after)), (a_values, .inl (cI, 12, .inl k_values)), (a_waves, .inl (cI, 1200, .inl k_waves))] sz [.ref a_this, .int y1, .int y2, .int y3, .int y4] rr [(a_this, .inr (10, [.int i_this_inputs, .int i_this_gates, .ref a_now, .ref a_one, .ref a_other, .ref a_next, .int i_this_readInputs, .int i_this_readGates, .ref a_readOne, .ref a_readOther, .ref a_readNext, .ref a_text, .int i_this_length, .int i_this_paths, .ref a_pathInput, .ref a_pathGates, .ref a_before, .ref a_after, .ref a_values, .ref a_taken, .ref a_waves, .int i_this_acts, .int i_this_turn, .ref a_row, .int i_this_seen, .ref a_seenPair, .ref a_seenTime, .ref a_seenLate, .long i_this_seed, .ref a_isKept, .ref a_kept])), (a_now, .inl (cI, 32, .inl o_now)), (a_other, .inl (cI, 8, .inl k_other)), (a_one, .inl (cI, 8, .inl k_one)), (a_before, .inl (cI, 12, .inl o_before)), (a_after, .inl (cI, 12, .inl o_after)), (a_values, .inl (cI, 12, .inl o_values)), (a_waves, .inl (cI, 1200, .inl o_waves))] := by
  refine entI (cc := cX10_slows) (maxL := 10) (own := RX10) (by decide) rfl rfl (Nat.le_of_ble_eq_true rfl) ?_
  intro p e s m args below meth c A ls Q H locs S hr hw hl hQ
  have hx := S.1.1
  have hb := S.1.2.1
  have hts := S.1.2.2.2.2
  have hl : lv_has ls 10 [(0, .ref a_this), (1, .int y1), (2, .int y2), (3, .int y3), (4, .int y4)] := hl
  have hinX10 : ∀ w ∈ u_ws RX10 TX10 31, w ∈ wsX10_slows := (fun _ h => List.mem_cons_of_mem _ (List.mem_append_right _ h))
  have F7 : FLk s args wsX10_slows RX10 7 RX10 TX10 31 10 2 := ⟨hinX10, rfl, by decide, hts (.fieldLink RX10 7 "SlowPathsModel" "now" "[I") (List.mem_of_getElem? (i := 4) rfl)⟩
  have F115 : FLk s args wsX10_slows RX10 115 RX10 TX10 31 10 1 := ⟨hinX10, rfl, by decide, hts (.fieldLink RX10 115 "SlowPathsModel" "gates" "I") (List.mem_of_getElem? (i := 3) rfl)⟩
  have h := hf
  rw [f_X10_slows] at h
  refine lv_aload_n hx hb dX10_slows_0 rfl (lv_at hl 0 rfl) ?_
  refine lv_iload_n hx hb dX10_slows_1 rfl (lv_at hl 1 rfl) ?_
  obtain ⟨r_1, e2_1, h⟩ := obd1_el h
  refine zr_VI (As := [.int y1]) (rest := []) (q0 := 0) S hw (c_X10_isPair l D cI cJ cZ cS H.size N a_this a_now a_one a_other a_next a_readOne a_readOther a_readNext a_text a_pathInput a_pathGates a_before a_after a_values a_taken a_waves a_row a_seenPair a_seenTime a_seenLate a_isKept a_kept i_this_inputs i_this_gates i_this_readInputs i_this_readGates i_this_length i_this_paths i_this_acts i_this_turn i_this_seen i_this_seed y1 r_1 e2_1) (cwV 1 hts gX10_slows_X10_isPair rfl rfl rfl dv_X10_isPair ⟨Nat.le_of_ble_eq_true rfl, Nat.le_of_ble_eq_true rfl⟩) [0] rfl rfl rfl rfl rfl rfl hl.1 rfl (Nat.le_of_ble_eq_true rfl) dX10_slows_2 ⟨Nat.zero_le _, Nat.zero_le _⟩ ?_
  refine lv_if_eq (tgt := 32) hx hb dX10_slows_5 (by decide) (fun hc => ?_) (fun hc => ?_)
  · replace h := if_t hc h
    refine lv_bipush (v := (-2 : Int32)) hx hb dX10_slows_32 (by decide) ?_
    cases h
    exact z_iret S hQ hr hw [0, 1, 2, 3, 4, 5, 6, 7] rfl rfl dX10_slows_34
  · replace h := if_f hc h
    refine lv_iload_n hx hb dX10_slows_8 rfl (lv_at hl 2 rfl) ?_
    refine lv_i2l hx hb dX10_slows_9 rfl ?_
    refine lv_lconst (v := (0 : Int64)) hx hb dX10_slows_10 (by decide) ?_
    refine lv_ldc2 (v := (99 : Int64)) hx hb S.1.2.2.2.1 (hts (.constantLong RX10 208 (99)) (List.mem_of_getElem? (i := 1) rfl)) dX10_slows_11 ?_
    obtain ⟨r_2, e14_1, h⟩ := obd1_el h
    refine zr_SI (As := [.long (y2.toInt64), .long (0 : Int64), .long (99 : Int64)]) (rest := []) (q0 := 0) (ci := 0) (fs := []) (qc := (RX0, TX0, 4)) S hw (c_X10_in l D cI cJ cZ cS H.size N (y2.toInt64) (0 : Int64) (99 : Int64) r_2 e14_1) (va_cwS 3 hts gX10_slows_X10_in rfl rfl rfl ds_X10_in ⟨Nat.le_of_ble_eq_true rfl, Nat.le_of_ble_eq_true rfl⟩) [] rfl rfl rfl hl.1 rfl (Nat.le_of_ble_eq_true rfl) dX10_slows_14 ⟨Nat.zero_le _, Nat.zero_le _⟩ ?_
    refine lv_if_eq (tgt := 32) hx hb dX10_slows_17 (by decide) (fun hc => ?_) (fun hc => ?_)
    · replace h := if_t hc h
      refine lv_bipush (v := (-2 : Int32)) hx hb dX10_slows_32 (by decide) ?_
      cases h
      exact z_iret S hQ hr hw [0, 1, 2, 3, 4, 5, 6, 7] rfl rfl dX10_slows_34
    · replace h := if_f hc h
      refine lv_iload_n hx hb dX10_slows_20 rfl (lv_at hl 3 rfl) ?_
      refine lv_i2l hx hb dX10_slows_21 rfl ?_
      refine lv_lconst (v := (0 : Int64)) hx hb dX10_slows_22 (by decide) ?_
      refine lv_ldc2 (v := (10 : Int64)) hx hb S.1.2.2.2.1 (hts (.constantLong RX10 256 (10)) (List.mem_of_getElem? (i := 2) rfl)) dX10_slows_23 ?_
      obtain ⟨r_3, e26_1, h⟩ := obd1_el h
      refine zr_SI (As := [.long (y3.toInt64), .long (0 : Int64), .long (10 : Int64)]) (rest := []) (q0 := 0) (ci := 0) (fs := []) (qc := (RX0, TX0, 4)) S hw (c_X10_in l D cI cJ cZ cS H.size N (y3.toInt64) (0 : Int64) (10 : Int64) r_3 e26_1) (va_cwS 3 hts gX10_slows_X10_in rfl rfl rfl ds_X10_in ⟨Nat.le_of_ble_eq_true rfl, Nat.le_of_ble_eq_true rfl⟩) [] rfl rfl rfl hl.1 rfl (Nat.le_of_ble_eq_true rfl) dX10_slows_26 ⟨Nat.zero_le _, Nat.zero_le _⟩ ?_
      refine lv_if_ne (tgt := 35) hx hb dX10_slows_29 (by decide) (fun hc => ?_) (fun hc => ?_)
      · replace h := if_f hc h
        refine lv_aload_n hx hb dX10_slows_35 rfl (lv_at hl 0 rfl) ?_
        refine z_get S hw F115 0 rfl rfl dX10_slows_36 ?_
        refine lv_if_ne (tgt := 45) hx hb dX10_slows_39 (by decide) (fun hc => ?_) (fun hc => ?_)
        · replace h := if_f hc h
          refine lv_iconst (v := (0 : Int32)) hx hb dX10_slows_45 (by decide) ?_
          refine lv_istore (lv' := [(5, .int (0 : Int32)), (0, .ref a_this), (1, .int y1), (2, .int y2), (3, .int y3), (4, .int y4)]) hx hb dX10_slows_46 hl (by decide) rfl (fun ls hl => ?_)
          refine lv_iconst (v := (0 : Int32)) hx hb dX10_slows_48 (by decide) ?_
          refine lv_istore (lv' := [(6, .int (0 : Int32)), (5, .int (0 : Int32)), (0, .ref a_this), (1, .int y1), (2, .int y2), (3, .int y3), (4, .int y4)]) hx hb dX10_slows_49 hl (by decide) rfl (fun ls hl => ?_)
          refine lv_iconst (v := (0 : Int32)) hx hb dX10_slows_51 (by decide) ?_
          refine lv_istore (lv' := [(7, .int (0 : Int32)), (6, .int (0 : Int32)), (5, .int (0 : Int32)), (0, .ref a_this), (1, .int y1), (2, .int y2), (3, .int y3), (4, .int y4)]) hx hb dX10_slows_52 hl (by decide) rfl (fun ls hl => ?_)
          obtain ⟨j180_1, ej180_1, h⟩ := bnd_ex h
          have hj180_1 : ∀ (x5_4 : Int32) (x6_5 : Int32) (k_now_6 : (Nat → Int32)) (k_before_7 : (Nat → Int32)) (k_after_8 : (Nat → Int32)) (k_values_9 : (Nat → Int32)) (k_waves_10 : (Nat → Int32)) (H : Heap) (locs : List Loc) (ls : Array Slot), j180_1 x5_4 x6_5 k_now_6 k_before_7 k_after_8 k_values_9 k_waves_10 = some (rr, o_now, o_before, o_after, o_values, o_waves) → Wd D (tyA cI cJ cZ cS) A s [(a_this, .inr (10, [.int i_this_inputs, .int i_this_gates, .ref a_now, .ref a_one, .ref a_other, .ref a_next, .int i_this_readInputs, .int i_this_readGates, .ref a_readOne, .ref a_readOther, .ref a_readNext, .ref a_text, .int i_this_length, .int i_this_paths, .ref a_pathInput, .ref a_pathGates, .ref a_before, .ref a_after, .ref a_values, .ref a_taken, .ref a_waves, .int i_this_acts, .int i_this_turn, .ref a_row, .int i_this_seen, .ref a_seenPair, .ref a_seenTime, .ref a_seenLate, .long i_this_seed, .ref a_isKept, .ref a_kept])), (a_now, .inl (cI, 32, .inl k_now_6)), (a_other, .inl (cI, 8, .inl k_other)), (a_one, .inl (cI, 8, .inl k_one)), (a_before, .inl (cI, 12, .inl k_before_7)), (a_after, .inl (cI, 12, .inl k_after_8)), (a_values, .inl (cI, 12, .inl k_values_9)), (a_waves, .inl (cI, 1200, .inl k_waves_10))] H locs → lv_has ls 10 [(4, .int y4), (5, .int x5_4), (6, .int x6_5)] → W p l e rmX10_slows s m args below meth c H locs 0 0 Q (F0 m 180 ls []) := by
            intro x5_4 x6_5 k_now_6 k_before_7 k_after_8 k_values_9 k_waves_10 H locs ls h hw hl
            replace h := ap7 ej180_1 h
            refine lv_iload hx hb dX10_slows_180 (lv_at hl 1 rfl) ?_
            refine lv_iload hx hb dX10_slows_182 (lv_at hl 2 rfl) ?_
            obtain ⟨r_11, e184_1, h⟩ := obd1_el h
            refine zr_SI (As := [.int x5_4, .int x6_5]) (rest := []) (q0 := 0) (ci := 0) (fs := []) (qc := (RX0, TX0, 4)) S hw (c_X10_common l D cI cJ cZ cS H.size N x5_4 x6_5 r_11 e184_1) (va_cwS 2 hts gX10_slows_X10_common rfl rfl rfl ds_X10_common ⟨Nat.le_of_ble_eq_true rfl, Nat.le_of_ble_eq_true rfl⟩) [] rfl rfl rfl hl.1 rfl (Nat.le_of_ble_eq_true rfl) dX10_slows_184 ⟨Nat.zero_le _, Nat.zero_le _⟩ ?_
            refine lv_istore (lv' := [(7, .int r_11), (4, .int y4), (5, .int x5_4), (6, .int x6_5)]) hx hb dX10_slows_187 hl (by decide) rfl (fun ls hl => ?_)
            refine lv_iload hx hb dX10_slows_189 (lv_at hl 1 rfl) ?_
            refine lv_if_eq (tgt := 202) hx hb dX10_slows_191 (by decide) (fun hc => ?_) (fun hc => ?_)
            · replace h := if_t hc h
              refine lv_iload hx hb dX10_slows_202 (lv_at hl 3 rfl) ?_
              refine lv_iload hx hb dX10_slows_204 (lv_at hl 0 rfl) ?_
              obtain ⟨hg, h⟩ := grd_el h
              refine lv_idiv hx hb dX10_slows_206 (nzI_ne hg) ?_
              cases h
              exact z_iret S hQ hr hw [0, 1, 2, 3, 4, 5, 6, 7] rfl rfl dX10_slows_207
            · replace h := if_f hc h
              refine lv_iload hx hb dX10_slows_194 (lv_at hl 2 rfl) ?_
              refine lv_iload hx hb dX10_slows_196 (lv_at hl 0 rfl) ?_
              obtain ⟨hg, h⟩ := grd_el h
              refine lv_idiv hx hb dX10_slows_198 (nzI_ne hg) ?_
              refine lv_goto (tgt := 207) hx hb dX10_slows_199 (by decide) ?_
              cases h
              exact z_iret S hQ hr hw [0, 1, 2, 3, 4, 5, 6, 7] rfl rfl dX10_slows_207
          have hL54_1 : ∀ (nf : Nat) (x5_12 : Int32) (x6_13 : Int32) (x7_14 : Int32) (k_now_15 : (Nat → Int32)) (k_before_16 : (Nat → Int32)) (k_after_17 : (Nat → Int32)) (k_values_18 : (Nat → Int32)) (k_waves_19 : (Nat → Int32)) (H : Heap) (locs : List Loc) (ls : Array Slot), f_X10_slows_L54 N y1 y2 y3 i_this_inputs i_this_gates k_other k_one j180_1 nf x5_12 x6_13 x7_14 k_now_15 k_before_16 k_after_17 k_values_18 k_waves_19 = some (rr, o_now, o_before, o_after, o_values, o_waves) → Wd D (tyA cI cJ cZ cS) A s [(a_this, .inr (10, [.int i_this_inputs, .int i_this_gates, .ref a_now, .ref a_one, .ref a_other, .ref a_next, .int i_this_readInputs, .int i_this_readGates, .ref a_readOne, .ref a_readOther, .ref a_readNext, .ref a_text, .int i_this_length, .int i_this_paths, .ref a_pathInput, .ref a_pathGates, .ref a_before, .ref a_after, .ref a_values, .ref a_taken, .ref a_waves, .int i_this_acts, .int i_this_turn, .ref a_row, .int i_this_seen, .ref a_seenPair, .ref a_seenTime, .ref a_seenLate, .long i_this_seed, .ref a_isKept, .ref a_kept])), (a_now, .inl (cI, 32, .inl k_now_15)), (a_other, .inl (cI, 8, .inl k_other)), (a_one, .inl (cI, 8, .inl k_one)), (a_before, .inl (cI, 12, .inl k_before_16)), (a_after, .inl (cI, 12, .inl k_after_17)), (a_values, .inl (cI, 12, .inl k_values_18)), (a_waves, .inl (cI, 1200, .inl k_waves_19))] H locs → lv_has ls 10 [(0, .ref a_this), (1, .int y1), (2, .int y2), (3, .int y3), (4, .int y4), (5, .int x5_12), (6, .int x6_13), (7, .int x7_14)] → W p l e rmX10_slows s m args below meth c H locs 0 0 Q (F0 m 54 ls []) := by
            intro nf
            induction nf with
            | zero =>
              intro x5_12 x6_13 x7_14 k_now_15 k_before_16 k_after_17 k_values_18 k_waves_19 H locs ls h
              rw [f_X10_slows_L54] at h
              cases h
            | succ n_54 ih_54 =>
              intro x5_12 x6_13 x7_14 k_now_15 k_before_16 k_after_17 k_values_18 k_waves_19 H locs ls h hw hl
              rw [f_X10_slows_L54] at h
              refine lv_iload hx hb dX10_slows_54 (lv_at hl 7 rfl) ?_
              refine lv_iconst (v := (1 : Int32)) hx hb dX10_slows_56 (by decide) ?_
              refine lv_aload_n hx hb dX10_slows_57 rfl (lv_at hl 0 rfl) ?_
              refine z_get S hw F115 0 rfl rfl dX10_slows_58 ?_
              refine lv_ishl hx hb dX10_slows_61 ?_
              refine lv_icmp_ge (tgt := 180) hx hb dX10_slows_62 (by decide) (fun hc => ?_) (fun hc => ?_)
              · replace h := if_t hc h
                exact hj180_1 x5_12 x6_13 k_now_15 k_before_16 k_after_17 k_values_18 k_waves_19 H locs ls h hw (lv_sub hl [4, 5, 6] rfl)
              · replace h := if_f hc h
                refine lv_aload_n hx hb dX10_slows_65 rfl (lv_at hl 0 rfl) ?_
                obtain ⟨k_now_20, e66_1, h⟩ := obd1_el h
                refine zc_VV (As := []) (rest := []) (wr := [(a_other, .inl (cI, 8, .inl k_other)), (a_one, .inl (cI, 8, .inl k_one)), (a_before, .inl (cI, 12, .inl k_before_16)), (a_after, .inl (cI, 12, .inl k_after_17)), (a_values, .inl (cI, 12, .inl k_values_18)), (a_waves, .inl (cI, 1200, .inl k_waves_19))]) (q0 := 0) S hw (c_X10_layTrial l D cI cJ cZ cS H.size N a_this a_now a_one a_other a_next a_readOne a_readOther a_readNext a_text a_pathInput a_pathGates a_before a_after a_values a_taken a_waves a_row a_seenPair a_seenTime a_seenLate a_isKept a_kept i_this_inputs i_this_gates i_this_readInputs i_this_readGates i_this_length i_this_paths i_this_acts i_this_turn i_this_seen i_this_seed k_now_15 k_now_20 e66_1) (cwV 0 hts gX10_slows_X10_layTrial rfl rfl rfl dv_X10_layTrial ⟨Nat.le_of_ble_eq_true rfl, Nat.le_of_ble_eq_true rfl⟩) [0, 1] [2, 3, 4, 5, 6, 7] rfl rfl rfl rfl (by decide) rfl rfl rfl rfl hl.1 rfl (Nat.le_of_ble_eq_true rfl) dX10_slows_66 ⟨Nat.zero_le _, Nat.zero_le _⟩ (fun H locs hw => ?_)
                refine lv_iconst (v := (1 : Int32)) hx hb dX10_slows_69 (by decide) ?_
                refine lv_istore (lv' := [(8, .int (1 : Int32)), (0, .ref a_this), (1, .int y1), (2, .int y2), (3, .int y3), (4, .int y4), (5, .int x5_12), (6, .int x6_13), (7, .int x7_14)]) hx hb dX10_slows_70 hl (by decide) rfl (fun ls hl => ?_)
                refine lv_iconst (v := (0 : Int32)) hx hb dX10_slows_72 (by decide) ?_
                refine lv_istore (lv' := [(9, .int (0 : Int32)), (8, .int (1 : Int32)), (0, .ref a_this), (1, .int y1), (2, .int y2), (3, .int y3), (4, .int y4), (5, .int x5_12), (6, .int x6_13), (7, .int x7_14)]) hx hb dX10_slows_73 hl (by decide) rfl (fun ls hl => ?_)
                obtain ⟨j141_1, ej141_1, h⟩ := bnd_ex h
                have hj141_1 : ∀ (x8_21 : Int32) (k_now_22 : (Nat → Int32)) (H : Heap) (locs : List Loc) (ls : Array Slot), j141_1 x8_21 k_now_22 = some (rr, o_now, o_before, o_after, o_values, o_waves) → Wd D (tyA cI cJ cZ cS) A s [(a_this, .inr (10, [.int i_this_inputs, .int i_this_gates, .ref a_now, .ref a_one, .ref a_other, .ref a_next, .int i_this_readInputs, .int i_this_readGates, .ref a_readOne, .ref a_readOther, .ref a_readNext, .ref a_text, .int i_this_length, .int i_this_paths, .ref a_pathInput, .ref a_pathGates, .ref a_before, .ref a_after, .ref a_values, .ref a_taken, .ref a_waves, .int i_this_acts, .int i_this_turn, .ref a_row, .int i_this_seen, .ref a_seenPair, .ref a_seenTime, .ref a_seenLate, .long i_this_seed, .ref a_isKept, .ref a_kept])), (a_now, .inl (cI, 32, .inl k_now_22)), (a_other, .inl (cI, 8, .inl k_other)), (a_one, .inl (cI, 8, .inl k_one)), (a_before, .inl (cI, 12, .inl k_before_16)), (a_after, .inl (cI, 12, .inl k_after_17)), (a_values, .inl (cI, 12, .inl k_values_18)), (a_waves, .inl (cI, 1200, .inl k_waves_19))] H locs → lv_has ls 10 [(0, .ref a_this), (1, .int y1), (2, .int y2), (3, .int y3), (4, .int y4), (5, .int x5_12), (6, .int x6_13), (7, .int x7_14), (8, .int x8_21)] → W p l e rmX10_slows s m args below meth c H locs 0 0 Q (F0 m 141 ls []) := by
                  intro x8_21 k_now_22 H locs ls h hw hl
                  replace h := ap2 ej141_1 h
                  refine lv_iload hx hb dX10_slows_141 (lv_at hl 6 rfl) ?_
                  refine lv_iload hx hb dX10_slows_143 (lv_at hl 8 rfl) ?_
                  refine lv_iadd hx hb dX10_slows_145 ?_
                  refine lv_topi (fun x6_23 ex6_23 => ?_)
                  replace h := bnd_at ex6_23 h
                  refine lv_istore (lv' := [(6, .int x6_23), (0, .ref a_this), (1, .int y1), (2, .int y2), (3, .int y3), (4, .int y4), (5, .int x5_12), (7, .int x7_14), (8, .int x8_21)]) hx hb dX10_slows_146 hl (by decide) rfl (fun ls hl => ?_)
                  refine lv_iload hx hb dX10_slows_148 (lv_at hl 6 rfl) ?_
                  refine lv_iload hx hb dX10_slows_150 (lv_at hl 8 rfl) ?_
                  obtain ⟨j171_1, ej171_1, h⟩ := bnd_ex h
                  have hj171_1 : ∀ (t_24 : Int32) (t_25 : Int32) (k_before_26 : (Nat → Int32)) (k_after_27 : (Nat → Int32)) (k_values_28 : (Nat → Int32)) (k_waves_29 : (Nat → Int32)) (H : Heap) (locs : List Loc) (ls : Array Slot), j171_1 t_24 t_25 k_before_26 k_after_27 k_values_28 k_waves_29 = some (rr, o_now, o_before, o_after, o_values, o_waves) → Wd D (tyA cI cJ cZ cS) A s [(a_this, .inr (10, [.int i_this_inputs, .int i_this_gates, .ref a_now, .ref a_one, .ref a_other, .ref a_next, .int i_this_readInputs, .int i_this_readGates, .ref a_readOne, .ref a_readOther, .ref a_readNext, .ref a_text, .int i_this_length, .int i_this_paths, .ref a_pathInput, .ref a_pathGates, .ref a_before, .ref a_after, .ref a_values, .ref a_taken, .ref a_waves, .int i_this_acts, .int i_this_turn, .ref a_row, .int i_this_seen, .ref a_seenPair, .ref a_seenTime, .ref a_seenLate, .long i_this_seed, .ref a_isKept, .ref a_kept])), (a_now, .inl (cI, 32, .inl k_now_22)), (a_other, .inl (cI, 8, .inl k_other)), (a_one, .inl (cI, 8, .inl k_one)), (a_before, .inl (cI, 12, .inl k_before_26)), (a_after, .inl (cI, 12, .inl k_after_27)), (a_values, .inl (cI, 12, .inl k_values_28)), (a_waves, .inl (cI, 1200, .inl k_waves_29))] H locs → lv_has ls 10 [(0, .ref a_this), (1, .int y1), (2, .int y2), (3, .int y3), (4, .int y4), (6, .int x6_23), (7, .int x7_14)] → W p l e rmX10_slows s m args below meth c H locs 0 0 Q (F0 m 171 ls [.int t_24, .int t_25]) := by
                    intro t_24 t_25 k_before_26 k_after_27 k_values_28 k_waves_29 H locs ls h hw hl
                    replace h := ap6 ej171_1 h
                    refine lv_iadd hx hb dX10_slows_171 ?_
                    refine lv_topi (fun x5_30 ex5_30 => ?_)
                    replace h := bnd_at ex5_30 h
                    refine lv_istore (lv' := [(5, .int x5_30), (0, .ref a_this), (1, .int y1), (2, .int y2), (3, .int y3), (4, .int y4), (6, .int x6_23), (7, .int x7_14)]) hx hb dX10_slows_172 hl (by decide) rfl (fun ls hl => ?_)
                    obtain ⟨x7_31, ex7_31, h⟩ := bnd_ex h
                    refine lv_iinc (v := x7_31) (lv' := [(7, .int x7_31), (5, .int x5_30), (0, .ref a_this), (1, .int y1), (2, .int y2), (3, .int y3), (4, .int y4), (6, .int x6_23)]) hx hb dX10_slows_174 hl (k := 7) rfl (by rw [ex7_31]; rfl) (by decide) rfl (fun ls hl => ?_)
                    refine lv_goto (tgt := 54) hx hb dX10_slows_177 (by decide) ?_
                    exact ih_54 x5_30 x6_23 x7_31 k_now_22 k_before_26 k_after_27 k_values_28 k_waves_29 H locs ls h hw (lv_sub hl [2, 3, 4, 5, 6, 1, 7, 0] rfl)
                  obtain ⟨j170_1, ej170_1, h⟩ := bnd_ex h
                  have hj170_1 : ∀ (t_32 : Int32) (k_before_33 : (Nat → Int32)) (k_after_34 : (Nat → Int32)) (k_values_35 : (Nat → Int32)) (k_waves_36 : (Nat → Int32)) (H : Heap) (locs : List Loc) (ls : Array Slot), j170_1 t_32 k_before_33 k_after_34 k_values_35 k_waves_36 = some (rr, o_now, o_before, o_after, o_values, o_waves) → Wd D (tyA cI cJ cZ cS) A s [(a_this, .inr (10, [.int i_this_inputs, .int i_this_gates, .ref a_now, .ref a_one, .ref a_other, .ref a_next, .int i_this_readInputs, .int i_this_readGates, .ref a_readOne, .ref a_readOther, .ref a_readNext, .ref a_text, .int i_this_length, .int i_this_paths, .ref a_pathInput, .ref a_pathGates, .ref a_before, .ref a_after, .ref a_values, .ref a_taken, .ref a_waves, .int i_this_acts, .int i_this_turn, .ref a_row, .int i_this_seen, .ref a_seenPair, .ref a_seenTime, .ref a_seenLate, .long i_this_seed, .ref a_isKept, .ref a_kept])), (a_now, .inl (cI, 32, .inl k_now_22)), (a_other, .inl (cI, 8, .inl k_other)), (a_one, .inl (cI, 8, .inl k_one)), (a_before, .inl (cI, 12, .inl k_before_33)), (a_after, .inl (cI, 12, .inl k_after_34)), (a_values, .inl (cI, 12, .inl k_values_35)), (a_waves, .inl (cI, 1200, .inl k_waves_36))] H locs → lv_has ls 10 [(0, .ref a_this), (1, .int y1), (2, .int y2), (3, .int y3), (4, .int y4), (6, .int x6_23), (7, .int x7_14)] → W p l e rmX10_slows s m args below meth c H locs 0 0 Q (F0 m 170 ls [.int t_32]) := by
                    intro t_32 k_before_33 k_after_34 k_values_35 k_waves_36 H locs ls h hw hl
                    replace h := ap5 ej170_1 h
                    refine lv_iconst (v := (0 : Int32)) hx hb dX10_slows_170 (by decide) ?_
                    exact hj171_1 ((0 : Int32)) t_32 k_before_33 k_after_34 k_values_35 k_waves_36 H locs ls h hw hl
                  refine lv_if_le (tgt := 170) hx hb dX10_slows_152 (by decide) (fun hc => ?_) (fun hc => ?_)
                  · replace h := if_t hc h
                    exact hj170_1 x5_12 k_before_16 k_after_17 k_values_18 k_waves_19 H locs ls h hw (lv_sub hl [1, 2, 3, 4, 5, 0, 7] rfl)
                  · replace h := if_f hc h
                    refine lv_aload_n hx hb dX10_slows_155 rfl (lv_at hl 1 rfl) ?_
                    refine lv_iconst (v := (1 : Int32)) hx hb dX10_slows_156 (by decide) ?_
                    refine lv_iload_n hx hb dX10_slows_157 rfl (lv_at hl 2 rfl) ?_
                    refine lv_iload_n hx hb dX10_slows_158 rfl (lv_at hl 3 rfl) ?_
                    obtain ⟨r_37, k_before_38, k_after_39, k_values_40, k_waves_41, e159_1, h⟩ := obd5_el h
                    refine zc_VI (As := [.int (1 : Int32), .int y1, .int y2]) (rest := [.int x5_12]) (wr := []) (q0 := 0) S hw (c_X10_isLate l D cI cJ cZ cS H.size N a_this a_now a_other a_one a_before a_after a_values a_waves a_next a_readOne a_readOther a_readNext a_text a_pathInput a_pathGates a_taken a_row a_seenPair a_seenTime a_seenLate a_isKept a_kept i_this_inputs i_this_gates i_this_readInputs i_this_readGates i_this_length i_this_paths i_this_acts i_this_turn i_this_seen i_this_seed k_now_22 k_other k_one k_before_16 k_after_17 k_values_18 k_waves_19 (1 : Int32) y1 y2 r_37 k_before_38 k_after_39 k_values_40 k_waves_41 e159_1) (cwV 3 hts gX10_slows_X10_isLate rfl rfl rfl dv_X10_isLate ⟨Nat.le_of_ble_eq_true rfl, Nat.le_of_ble_eq_true rfl⟩) [0, 1, 2, 3, 4, 5, 6, 7] [] rfl rfl rfl rfl (by decide) rfl rfl rfl rfl hl.1 rfl (Nat.le_of_ble_eq_true rfl) dX10_slows_159 ⟨Nat.zero_le _, Nat.zero_le _⟩ (fun H locs hw => ?_)
                    refine lv_if_eq (tgt := 170) hx hb dX10_slows_162 (by decide) (fun hc => ?_) (fun hc => ?_)
                    · replace h := if_t hc h
                      exact hj170_1 x5_12 k_before_38 k_after_39 k_values_40 k_waves_41 H locs ls h hw (lv_sub hl [1, 2, 3, 4, 5, 0, 7] rfl)
                    · replace h := if_f hc h
                      refine lv_iload hx hb dX10_slows_165 (lv_at hl 8 rfl) ?_
                      refine lv_goto (tgt := 171) hx hb dX10_slows_167 (by decide) ?_
                      exact hj171_1 x8_21 x5_12 k_before_38 k_after_39 k_values_40 k_waves_41 H locs ls h hw (lv_sub hl [1, 2, 3, 4, 5, 0, 7] rfl)
                have hL75_1 : ∀ (nf : Nat) (x8_42 : Int32) (x9_43 : Int32) (k_now_44 : (Nat → Int32)) (H : Heap) (locs : List Loc) (ls : Array Slot), f_X10_slows_L75 N y3 i_this_gates x7_14 j141_1 nf x8_42 x9_43 k_now_44 = some (rr, o_now, o_before, o_after, o_values, o_waves) → Wd D (tyA cI cJ cZ cS) A s [(a_this, .inr (10, [.int i_this_inputs, .int i_this_gates, .ref a_now, .ref a_one, .ref a_other, .ref a_next, .int i_this_readInputs, .int i_this_readGates, .ref a_readOne, .ref a_readOther, .ref a_readNext, .ref a_text, .int i_this_length, .int i_this_paths, .ref a_pathInput, .ref a_pathGates, .ref a_before, .ref a_after, .ref a_values, .ref a_taken, .ref a_waves, .int i_this_acts, .int i_this_turn, .ref a_row, .int i_this_seen, .ref a_seenPair, .ref a_seenTime, .ref a_seenLate, .long i_this_seed, .ref a_isKept, .ref a_kept])), (a_now, .inl (cI, 32, .inl k_now_44)), (a_other, .inl (cI, 8, .inl k_other)), (a_one, .inl (cI, 8, .inl k_one)), (a_before, .inl (cI, 12, .inl k_before_16)), (a_after, .inl (cI, 12, .inl k_after_17)), (a_values, .inl (cI, 12, .inl k_values_18)), (a_waves, .inl (cI, 1200, .inl k_waves_19))] H locs → lv_has ls 10 [(0, .ref a_this), (1, .int y1), (2, .int y2), (3, .int y3), (4, .int y4), (5, .int x5_12), (6, .int x6_13), (7, .int x7_14), (8, .int x8_42), (9, .int x9_43)] → W p l e rmX10_slows s m args below meth c H locs 0 0 Q (F0 m 75 ls []) := by
                  intro nf
                  induction nf with
                  | zero =>
                    intro x8_42 x9_43 k_now_44 H locs ls h
                    rw [f_X10_slows_L75] at h
                    cases h
                  | succ n_75 ih_75 =>
                    intro x8_42 x9_43 k_now_44 H locs ls h hw hl
                    rw [f_X10_slows_L75] at h
                    refine lv_iload hx hb dX10_slows_75 (lv_at hl 9 rfl) ?_
                    refine lv_aload_n hx hb dX10_slows_77 rfl (lv_at hl 0 rfl) ?_
                    refine z_get S hw F115 0 rfl rfl dX10_slows_78 ?_
                    refine lv_icmp_ge (tgt := 141) hx hb dX10_slows_81 (by decide) (fun hc => ?_) (fun hc => ?_)
                    · replace h := if_t hc h
                      exact hj141_1 x8_42 k_now_44 H locs ls h hw (lv_sub hl [0, 1, 2, 3, 4, 5, 6, 7, 8] rfl)
                    · replace h := if_f hc h
                      refine lv_iload hx hb dX10_slows_84 (lv_at hl 8 rfl) ?_
                      refine lv_iload hx hb dX10_slows_86 (lv_at hl 7 rfl) ?_
                      refine lv_iload hx hb dX10_slows_88 (lv_at hl 9 rfl) ?_
                      obtain ⟨r_45, e90_1, h⟩ := obd1_el h
                      refine zr_SI (As := [.int x7_14, .int x9_43]) (rest := [.int x8_42]) (q0 := 0) (ci := 0) (fs := []) (qc := (RX0, TX0, 4)) S hw (c_X10_has l D cI cJ cZ cS H.size N x7_14 x9_43 r_45 e90_1) (va_cwS 2 hts gX10_slows_X10_has rfl rfl rfl ds_X10_has ⟨Nat.le_of_ble_eq_true rfl, Nat.le_of_ble_eq_true rfl⟩) [] rfl rfl rfl hl.1 rfl (Nat.le_of_ble_eq_true rfl) dX10_slows_90 ⟨Nat.zero_le _, Nat.zero_le _⟩ ?_
                      obtain ⟨j104_1, ej104_1, h⟩ := bnd_ex h
                      have hj104_1 : ∀ (t_46 : Int32) (t_47 : Int32) (H : Heap) (locs : List Loc) (ls : Array Slot), j104_1 t_46 t_47 = some (rr, o_now, o_before, o_after, o_values, o_waves) → Wd D (tyA cI cJ cZ cS) A s [(a_this, .inr (10, [.int i_this_inputs, .int i_this_gates, .ref a_now, .ref a_one, .ref a_other, .ref a_next, .int i_this_readInputs, .int i_this_readGates, .ref a_readOne, .ref a_readOther, .ref a_readNext, .ref a_text, .int i_this_length, .int i_this_paths, .ref a_pathInput, .ref a_pathGates, .ref a_before, .ref a_after, .ref a_values, .ref a_taken, .ref a_waves, .int i_this_acts, .int i_this_turn, .ref a_row, .int i_this_seen, .ref a_seenPair, .ref a_seenTime, .ref a_seenLate, .long i_this_seed, .ref a_isKept, .ref a_kept])), (a_now, .inl (cI, 32, .inl k_now_44)), (a_other, .inl (cI, 8, .inl k_other)), (a_one, .inl (cI, 8, .inl k_one)), (a_before, .inl (cI, 12, .inl k_before_16)), (a_after, .inl (cI, 12, .inl k_after_17)), (a_values, .inl (cI, 12, .inl k_values_18)), (a_waves, .inl (cI, 1200, .inl k_waves_19))] H locs → lv_has ls 10 [(0, .ref a_this), (1, .int y1), (2, .int y2), (3, .int y3), (4, .int y4), (5, .int x5_12), (6, .int x6_13), (7, .int x7_14), (9, .int x9_43)] → W p l e rmX10_slows s m args below meth c H locs 0 0 Q (F0 m 104 ls [.int t_46, .int t_47]) := by
                        intro t_46 t_47 H locs ls h hw hl
                        replace h := ap2 ej104_1 h
                        refine lv_imul hx hb dX10_slows_104 ?_
                        refine lv_topi (fun x8_48 ex8_48 => ?_)
                        replace h := bnd_at ex8_48 h
                        refine lv_istore (lv' := [(8, .int x8_48), (0, .ref a_this), (1, .int y1), (2, .int y2), (3, .int y3), (4, .int y4), (5, .int x5_12), (6, .int x6_13), (7, .int x7_14), (9, .int x9_43)]) hx hb dX10_slows_105 hl (by decide) rfl (fun ls hl => ?_)
                        refine lv_aload_n hx hb dX10_slows_107 rfl (lv_at hl 1 rfl) ?_
                        refine z_get S hw F7 0 rfl rfl dX10_slows_108 ?_
                        refine lv_bipush (v := (24 : Int32)) hx hb dX10_slows_111 (by decide) ?_
                        refine lv_iload hx hb dX10_slows_113 (lv_at hl 9 rfl) ?_
                        refine lv_iadd hx hb dX10_slows_115 ?_
                        refine lv_topi (fun t_49 et_49 => ?_)
                        replace h := bnd_at et_49 h
                        refine lv_dup2_11 hx hb dX10_slows_116 rfl rfl ?_
                        obtain ⟨hg, h⟩ := grd_el h
                        refine z_iald S hw 1 0 rfl rfl hg dX10_slows_117 ?_
                        refine lv_iload hx hb dX10_slows_118 (lv_at hl 8 rfl) ?_
                        refine lv_iload hx hb dX10_slows_120 (lv_at hl 9 rfl) ?_
                        obtain ⟨r_50, e122_1, h⟩ := obd1_el h
                        refine zr_SI (As := [.int x7_14, .int x9_43]) (rest := [.int (k_now_44 t_49.toNatClampNeg), .int t_49, .ref a_now]) (q0 := 0) (ci := 0) (fs := []) (qc := (RX0, TX0, 4)) S hw (c_X10_has l D cI cJ cZ cS H.size N x7_14 x9_43 r_50 e122_1) (va_cwS 2 hts gX10_slows_X10_has rfl rfl rfl ds_X10_has ⟨Nat.le_of_ble_eq_true rfl, Nat.le_of_ble_eq_true rfl⟩) [] rfl rfl rfl hl.1 rfl (Nat.le_of_ble_eq_true rfl) dX10_slows_122 ⟨Nat.zero_le _, Nat.zero_le _⟩ ?_
                        obtain ⟨j133_1, ej133_1, h⟩ := bnd_ex h
                        have hj133_1 : ∀ (t_51 : Int32) (t_52 : Int32) (t_53 : Int32) (H : Heap) (locs : List Loc) (ls : Array Slot), j133_1 t_51 t_52 t_53 = some (rr, o_now, o_before, o_after, o_values, o_waves) → Wd D (tyA cI cJ cZ cS) A s [(a_this, .inr (10, [.int i_this_inputs, .int i_this_gates, .ref a_now, .ref a_one, .ref a_other, .ref a_next, .int i_this_readInputs, .int i_this_readGates, .ref a_readOne, .ref a_readOther, .ref a_readNext, .ref a_text, .int i_this_length, .int i_this_paths, .ref a_pathInput, .ref a_pathGates, .ref a_before, .ref a_after, .ref a_values, .ref a_taken, .ref a_waves, .int i_this_acts, .int i_this_turn, .ref a_row, .int i_this_seen, .ref a_seenPair, .ref a_seenTime, .ref a_seenLate, .long i_this_seed, .ref a_isKept, .ref a_kept])), (a_now, .inl (cI, 32, .inl k_now_44)), (a_other, .inl (cI, 8, .inl k_other)), (a_one, .inl (cI, 8, .inl k_one)), (a_before, .inl (cI, 12, .inl k_before_16)), (a_after, .inl (cI, 12, .inl k_after_17)), (a_values, .inl (cI, 12, .inl k_values_18)), (a_waves, .inl (cI, 1200, .inl k_waves_19))] H locs → lv_has ls 10 [(0, .ref a_this), (1, .int y1), (2, .int y2), (3, .int y3), (4, .int y4), (5, .int x5_12), (6, .int x6_13), (7, .int x7_14), (8, .int x8_48), (9, .int x9_43)] → W p l e rmX10_slows s m args below meth c H locs 0 0 Q (F0 m 133 ls [.int t_51, .int t_52, .int t_53, .ref a_now]) := by
                          intro t_51 t_52 t_53 H locs ls h hw hl
                          replace h := ap3 ej133_1 h
                          refine lv_iadd hx hb dX10_slows_133 ?_
                          obtain ⟨hg, h⟩ := grd_el h
                          obtain ⟨k_now_54, ek_now_54, h⟩ := bnd_ex h
                          refine z_iast S hw ek_now_54 1 0 rfl rfl hg dX10_slows_134 (fun H locs hw => ?_)
                          obtain ⟨x9_55, ex9_55, h⟩ := bnd_ex h
                          refine lv_iinc (v := x9_55) (lv' := [(9, .int x9_55), (0, .ref a_this), (1, .int y1), (2, .int y2), (3, .int y3), (4, .int y4), (5, .int x5_12), (6, .int x6_13), (7, .int x7_14), (8, .int x8_48)]) hx hb dX10_slows_135 hl (k := 9) rfl (by rw [ex9_55]; rfl) (by decide) rfl (fun ls hl => ?_)
                          refine lv_goto (tgt := 75) hx hb dX10_slows_138 (by decide) ?_
                          exact ih_75 x8_48 x9_55 k_now_54 H locs ls h hw (lv_sub hl [1, 2, 3, 4, 5, 6, 7, 8, 9, 0] rfl)
                        refine lv_if_eq (tgt := 132) hx hb dX10_slows_125 (by decide) (fun hc => ?_) (fun hc => ?_)
                        · replace h := if_t hc h
                          refine lv_iconst (v := (0 : Int32)) hx hb dX10_slows_132 (by decide) ?_
                          exact hj133_1 ((0 : Int32)) ((k_now_44 t_49.toNatClampNeg)) t_49 H locs ls h hw (lv_sub hl [1, 2, 3, 4, 5, 6, 7, 8, 0, 9] rfl)
                        · replace h := if_f hc h
                          refine lv_iconst (v := (3 : Int32)) hx hb dX10_slows_128 (by decide) ?_
                          refine lv_goto (tgt := 133) hx hb dX10_slows_129 (by decide) ?_
                          exact hj133_1 ((3 : Int32)) ((k_now_44 t_49.toNatClampNeg)) t_49 H locs ls h hw (lv_sub hl [1, 2, 3, 4, 5, 6, 7, 8, 0, 9] rfl)
                      refine lv_if_eq (tgt := 100) hx hb dX10_slows_93 (by decide) (fun hc => ?_) (fun hc => ?_)
                      · replace h := if_t hc h
                        refine lv_bipush (v := (10 : Int32)) hx hb dX10_slows_100 (by decide) ?_
                        refine lv_iload_n hx hb dX10_slows_102 rfl (lv_at hl 3 rfl) ?_
                        refine lv_isub hx hb dX10_slows_103 ?_
                        exact hj104_1 (((10 : Int32) - y3)) x8_42 H locs ls h hw (lv_sub hl [0, 1, 2, 3, 4, 5, 6, 7, 9] rfl)
                      · replace h := if_f hc h
                        refine lv_iload_n hx hb dX10_slows_96 rfl (lv_at hl 3 rfl) ?_
                        refine lv_goto (tgt := 104) hx hb dX10_slows_97 (by decide) ?_
                        exact hj104_1 y3 x8_42 H locs ls h hw (lv_sub hl [0, 1, 2, 3, 4, 5, 6, 7, 9] rfl)
                exact hL75_1 N ((1 : Int32)) ((0 : Int32)) k_now_20 H locs ls h (hw.sub [6, 7, 0, 1, 2, 3, 4, 5] rfl rfl) (lv_sub hl [2, 3, 4, 5, 6, 7, 8, 9, 1, 0] rfl)
          exact hL54_1 N ((0 : Int32)) ((0 : Int32)) ((0 : Int32)) k_now k_before k_after k_values k_waves H locs ls h hw (lv_sub hl [3, 4, 5, 6, 7, 2, 1, 0] rfl)
        · replace h := if_t hc h
          refine lv_bipush (v := (-3 : Int32)) hx hb dX10_slows_42 (by decide) ?_
          cases h
          exact z_iret S hQ hr hw [0, 1, 2, 3, 4, 5, 6, 7] rfl rfl dX10_slows_44
      · replace h := if_t hc h
        refine lv_bipush (v := (-2 : Int32)) hx hb dX10_slows_32 (by decide) ?_
        cases h
        exact z_iret S hQ hr hw [0, 1, 2, 3, 4, 5, 6, 7] rfl rfl dX10_slows_34
