abbrev rmX10_seed : Room := { frames := 0, cells := 0, slots := 0, locals := 0 }
theorem dv_X10_seed : yX10_seed.cls = RX10 ∧ yX10_seed.cls ≠ "java/lang/invoke/MethodHandle" ∧ yX10_seed.cls ≠ "java/lang/invoke/VarHandle" ∧ (parseMethodDescriptor yX10_seed.desc).map (fun d => d.parameters.length) = some 1 := by decide +kernel
noncomputable def f_X10_seed (N : Nat) (y1 : Int64) (i_this_seed : Int64) : Option (Int64 × Int64) :=
  some (i_this_seed, y1)
set_option maxHeartbeats 4000000 in
set_option maxRecDepth 100000 in
theorem c_X10_seed (l : Launch) (D : va_G) (cI cJ cZ cS : ClassId) (sz N : Nat) (a_this a_now a_one a_other a_next a_readOne a_readOther a_readNext a_text a_pathInput a_pathGates a_before a_after a_values a_taken a_waves a_row a_seenPair a_seenTime a_seenLate a_isKept a_kept : Nat) (i_this_inputs : Int32) (i_this_gates : Int32) (i_this_readInputs : Int32) (i_this_readGates : Int32) (i_this_length : Int32) (i_this_paths : Int32) (i_this_acts : Int32) (i_this_turn : Int32) (i_this_seen : Int32) (i_this_seed : Int64) (y1 : Int64) (rr : Int64) (o_this_seed : Int64) (hf : f_X10_seed N y1 i_this_seed = some (rr, o_this_seed)) : MetL l yX10_seed wsX10_seed rmX10_seed D (tyA cI cJ cZ cS) [(a_this, .inr (10, [.int i_this_inputs, .int i_this_gates, .ref a_now, .ref a_one, .ref a_other, .ref a_next, .int i_this_readInputs, .int i_this_readGates, .ref a_readOne, .ref a_readOther, .ref a_readNext, .ref a_text, .int i_this_length, .int i_this_paths, .ref a_pathInput, .ref a_pathGates, .ref a_before, .ref a_after, .ref a_values, .ref a_taken, .ref a_waves, .int i_this_acts, .int i_this_turn, .ref a_row, .int i_this_seen, .ref a_seenPair, .ref a_seenTime, .ref a_seenLate, .long i_this_seed, .ref a_isKept, .ref a_kept]))] sz [.ref a_this, .long y1] rr [(a_this, .inr (10, [.int i_this_inputs, .int i_this_gates, .ref a_now, .ref a_one, .ref a_other, .ref a_next, .int i_this_readInputs, .int i_this_readGates, .ref a_readOne, .ref a_readOther, .ref a_readNext, .ref a_text, .int i_this_length, .int i_this_paths, .ref a_pathInput, .ref a_pathGates, .ref a_before, .ref a_after, .ref a_values, .ref a_taken, .ref a_waves, .int i_this_acts, .int i_this_turn, .ref a_row, .int i_this_seen, .ref a_seenPair, .ref a_seenTime, .ref a_seenLate, .long o_this_seed, .ref a_isKept, .ref a_kept]))] := by
  refine entL (cc := cX10_seed) (maxL := 5) (own := RX10) (by decide) rfl rfl (Nat.le_of_ble_eq_true rfl) ?_
  intro p e s m args below meth c A ls Q H locs S hr hw hl hQ
  have hx := S.1.1
  have hb := S.1.2.1
  have hts := S.1.2.2.2.2
  have hl : lv_has ls 5 [(0, .ref a_this), (1, .long y1)] := hl
  have hinX10 : ∀ w ∈ u_ws RX10 TX10 31, w ∈ wsX10_seed := (fun _ h => List.mem_cons_of_mem _ (List.mem_append_right _ h))
  have F258 : FLk s args wsX10_seed RX10 258 RX10 TX10 31 10 28 := ⟨hinX10, rfl, by decide, hts (.fieldLink RX10 258 "SlowPathsModel" "seed" "J") (List.mem_of_getElem? (i := 1) rfl)⟩
  have P258 : PLk TX10 31 28 tyX10 false .long := ⟨tyX10_ok, nmX10, rfl, rfl⟩
  have h := hf
  rw [f_X10_seed] at h
  refine lv_aload_n hx hb dX10_seed_0 rfl (lv_at hl 0 rfl) ?_
  refine z_get S hw F258 0 rfl rfl dX10_seed_1 ?_
  refine lv_lstore_n (lv' := [(3, .long i_this_seed), (0, .ref a_this), (1, .long y1)]) hx hb dX10_seed_4 rfl hl (by decide) rfl (fun ls hl => ?_)
  refine lv_aload_n hx hb dX10_seed_5 rfl (lv_at hl 1 rfl) ?_
  refine lv_lload_n hx hb dX10_seed_6 rfl (lv_at hl 2 rfl) ?_
  refine z_put S hw F258 P258 rfl rfl 0 rfl (Nat.le_of_ble_eq_true rfl) dX10_seed_7 (fun H locs hw => ?_)
  refine lv_lload_n hx hb dX10_seed_10 rfl (lv_at hl 0 rfl) ?_
  cases h
  exact z_lret S hQ hr hw [0] rfl rfl dX10_seed_11
abbrev rmX10_drawn : Room := { frames := 3, cells := 0, slots := 0, locals := 68 }
theorem dv_X10_drawn : yX10_drawn.cls = RX10 ∧ yX10_drawn.cls ≠ "java/lang/invoke/MethodHandle" ∧ yX10_drawn.cls ≠ "java/lang/invoke/VarHandle" ∧ (parseMethodDescriptor yX10_drawn.desc).map (fun d => d.parameters.length) = some 1 := by decide +kernel
noncomputable def f_X10_drawn_L90 (N : Nat) (i_this_gates : Int32) (i_this_paths : Int32) (k_now : (Nat → Int32)) (k_other : (Nat → Int32)) (k_one : (Nat → Int32)) (k_pathInput : (Nat → Int32)) (k_pathGates : (Nat → Int32)) (k_before_16 : (Nat → Int32)) (k_after_17 : (Nat → Int32)) (k_values_18 : (Nat → Int32)) (j127_1 : Int32 → Option (Int32 × Int64 × (Nat → Int32) × (Nat → Int32) × (Nat → Int32))) : Nat → Int32 → Int32 → Option (Int32 × Int64 × (Nat → Int32) × (Nat → Int32) × (Nat → Int32))
  | 0, _, _ => none
  | n_90 + 1, x3_21, x6_22 =>
    (if i_this_paths ≤ x6_22 then (j127_1 x3_21) else (grd (inb x6_22 64) <| grd (inb x6_22 64) <| obd1 (f_X10_testsOf N (0 : Int32) (k_pathInput x6_22.toNatClampNeg) (k_pathGates x6_22.toNatClampNeg) i_this_gates k_before_16 k_after_17 k_now k_one k_values_18 k_other) fun (r_23 : Int32) => bnd ((x3_21 + r_23)) fun (x3_24 : Int32) => bnd (x6_22 + (1 : Int32)) fun (x6_25 : Int32) => f_X10_drawn_L90 N i_this_gates i_this_paths k_now k_other k_one k_pathInput k_pathGates k_before_16 k_after_17 k_values_18 j127_1 n_90 x3_24 x6_25))
noncomputable def f_X10_drawn_L29 (N : Nat) (y1 : Int32) (i_this_inputs : Int32) (i_this_gates : Int32) (i_this_paths : Int32) (k_now : (Nat → Int32)) (k_other : (Nat → Int32)) (k_one : (Nat → Int32)) (k_pathInput : (Nat → Int32)) (k_pathGates : (Nat → Int32)) (x2_2 : Int32) (j133_1 : Int32 → Int64 → (Nat → Int32) → (Nat → Int32) → (Nat → Int32) → Option (Int32 × Int64 × (Nat → Int32) × (Nat → Int32) × (Nat → Int32))) : Nat → Int32 → Int32 → Int64 → (Nat → Int32) → (Nat → Int32) → (Nat → Int32) → Option (Int32 × Int64 × (Nat → Int32) × (Nat → Int32) × (Nat → Int32))
  | 0, _, _, _, _, _, _ => none
  | n_29 + 1, x3_8, x4_9, i_this_seed_10, k_before_11, k_after_12, k_values_13 =>
    (if y1 ≤ x4_9 then (j133_1 x3_8 i_this_seed_10 k_before_11 k_after_12 k_values_13) else (bnd (((i_this_seed_10 * (6364136223846793005 : Int64)) + (1442695040888963407 : Int64))) fun (i_seed_14 : Int64) => bnd ((((i_seed_14.toUInt64 >>> ((33 : Int32).toInt64.toUInt64 &&& Int64.toUInt64 63)).toInt64).toInt32)) fun (x5_15 : Int32) => obd3 (f_X10_findPair N (0 : Int32) (((16 : Int32) * ((x5_15 - x5_15 / (16 : Int32) * (16 : Int32)) &&& x2_2)) + (((x5_15 / (16 : Int32)) - (x5_15 / (16 : Int32)) / (16 : Int32) * (16 : Int32)) &&& x2_2)) i_this_inputs i_this_gates k_now k_other k_one k_before_11 k_after_12 k_values_13) fun (k_before_16 : (Nat → Int32)) (k_after_17 : (Nat → Int32)) (k_values_18 : (Nat → Int32)) => bnd (fun (x3_19 : Int32) => (bnd (x4_9 + (1 : Int32)) fun (x4_20 : Int32) => f_X10_drawn_L29 N y1 i_this_inputs i_this_gates i_this_paths k_now k_other k_one k_pathInput k_pathGates x2_2 j133_1 n_29 x3_19 x4_20 i_seed_14 k_before_16 k_after_17 k_values_18)) fun (j127_1 : Int32 → Option (Int32 × Int64 × (Nat → Int32) × (Nat → Int32) × (Nat → Int32))) => f_X10_drawn_L90 N i_this_gates i_this_paths k_now k_other k_one k_pathInput k_pathGates k_before_16 k_after_17 k_values_18 j127_1 N x3_8 ((0 : Int32))))
noncomputable def f_X10_drawn (N : Nat) (y1 : Int32) (i_this_inputs : Int32) (i_this_gates : Int32) (i_this_paths : Int32) (i_this_seed : Int64) (k_now : (Nat → Int32)) (k_other : (Nat → Int32)) (k_one : (Nat → Int32)) (k_before : (Nat → Int32)) (k_after : (Nat → Int32)) (k_values : (Nat → Int32)) (k_pathInput : (Nat → Int32)) (k_pathGates : (Nat → Int32)) : Option (Int32 × Int64 × (Nat → Int32) × (Nat → Int32) × (Nat → Int32)) :=
  obd1 (f_X10_in N (y1.toInt64) (1 : Int64) (20 : Int64)) fun (r_1 : Int32) => (if r_1 = (0 : Int32) then (some ((-2 : Int32), i_this_seed, k_before, k_after, k_values)) else (bnd ((((1 : Int32) <<< (i_this_inputs &&& 31)) - (1 : Int32))) fun (x2_2 : Int32) => bnd (fun (x3_3 : Int32) (i_this_seed_4 : Int64) (k_before_5 : (Nat → Int32)) (k_after_6 : (Nat → Int32)) (k_values_7 : (Nat → Int32)) => (some (x3_3, i_this_seed_4, k_before_5, k_after_6, k_values_7))) fun (j133_1 : Int32 → Int64 → (Nat → Int32) → (Nat → Int32) → (Nat → Int32) → Option (Int32 × Int64 × (Nat → Int32) × (Nat → Int32) × (Nat → Int32))) => f_X10_drawn_L29 N y1 i_this_inputs i_this_gates i_this_paths k_now k_other k_one k_pathInput k_pathGates x2_2 j133_1 N ((0 : Int32)) ((0 : Int32)) i_this_seed k_before k_after k_values))
set_option maxHeartbeats 4000000 in
set_option maxRecDepth 100000 in
theorem c_X10_drawn (l : Launch) (D : va_G) (cI cJ cZ cS : ClassId) (sz N : Nat) (a_this a_now a_other a_one a_before a_after a_values a_pathInput a_pathGates a_next a_readOne a_readOther a_readNext a_text a_taken a_waves a_row a_seenPair a_seenTime a_seenLate a_isKept a_kept : Nat) (i_this_inputs : Int32) (i_this_gates : Int32) (i_this_readInputs : Int32) (i_this_readGates : Int32) (i_this_length : Int32) (i_this_paths : Int32) (i_this_acts : Int32) (i_this_turn : Int32) (i_this_seen : Int32) (i_this_seed : Int64) (k_now : (Nat → Int32)) (k_other : (Nat → Int32)) (k_one : (Nat → Int32)) (k_before : (Nat → Int32)) (k_after : (Nat → Int32)) (k_values : (Nat → Int32)) (k_pathInput : (Nat → Int32)) (k_pathGates : (Nat → Int32)) (y1 : Int32) (rr : Int32) (o_this_seed : Int64) (o_before : (Nat → Int32)) (o_after : (Nat → Int32)) (o_values : (Nat → Int32)) (hf : f_X10_drawn N y1 i_this_inputs i_this_gates i_this_paths i_this_seed k_now k_other k_one k_before k_after k_values k_pathInput k_pathGates = some (rr, o_this_seed, o_before, o_after, o_values)) : MetI l yX10_drawn wsX10_drawn rmX10_drawn D (tyA cI cJ cZ cS) [(a_this, .inr (10, [.int i_this_inputs, .int i_this_gates, .ref a_now, .ref a_one, .ref a_other, .ref a_next, .int i_this_readInputs, .int i_this_readGates, .ref a_readOne, .ref a_readOther, .ref a_readNext, .ref a_text, .int i_this_length, .int i_this_paths, .ref a_pathInput, .ref a_pathGates, .ref a_before, .ref a_after, .ref a_values, .ref a_taken, .ref a_waves, .int i_this_acts, .int i_this_turn, .ref a_row, .int i_this_seen, .ref a_seenPair, .ref a_seenTime, .ref a_seenLate, .long i_this_seed, .ref a_isKept, .ref a_kept])), (a_now, .inl (cI, 32, .inl k_now)), (a_other, .inl (cI, 8, .inl k_other)), (a_one, .inl (cI, 8, .inl k_one)), (a_before, .inl (cI, 12, .inl k_before)), (a_after, .inl (cI, 12, .inl k_after)), (a_values, .inl (cI, 12, .inl k_values)), (a_pathInput, .inl (cI, 64, .inl k_pathInput)), (a_pathGates, .inl (cI, 64, .inl k_pathGates))] sz [.ref a_this, .int y1] rr [(a_this, .inr (10, [.int i_this_inputs, .int i_this_gates, .ref a_now, .ref a_one, .ref a_other, .ref a_next, .int i_this_readInputs, .int i_this_readGates, .ref a_readOne, .ref a_readOther, .ref a_readNext, .ref a_text, .int i_this_length, .int i_this_paths, .ref a_pathInput, .ref a_pathGates, .ref a_before, .ref a_after, .ref a_values, .ref a_taken, .ref a_waves, .int i_this_acts, .int i_this_turn, .ref a_row, .int i_this_seen, .ref a_seenPair, .ref a_seenTime, .ref a_seenLate, .long o_this_seed, .ref a_isKept, .ref a_kept])), (a_now, .inl (cI, 32, .inl k_now)), (a_other, .inl (cI, 8, .inl k_other)), (a_one, .inl (cI, 8, .inl k_one)), (a_before, .inl (cI, 12, .inl o_before)), (a_after, .inl (cI, 12, .inl o_after)), (a_values, .inl (cI, 12, .inl o_values)), (a_pathInput, .inl (cI, 64, .inl k_pathInput)), (a_pathGates, .inl (cI, 64, .inl k_pathGates))] := by
  refine entI (cc := cX10_drawn) (maxL := 7) (own := RX10) (by decide) rfl rfl (Nat.le_of_ble_eq_true rfl) ?_
  intro p e s m args below meth c A ls Q H locs S hr hw hl hQ
  have hx := S.1.1
  have hb := S.1.2.1
  have hts := S.1.2.2.2.2
  have hl : lv_has ls 7 [(0, .ref a_this), (1, .int y1)] := hl
  have hinX10 : ∀ w ∈ u_ws RX10 TX10 31, w ∈ wsX10_drawn := (fun _ h => List.mem_cons_of_mem _ (List.mem_append_right _ h))
  have F34 : FLk s args wsX10_drawn RX10 34 RX10 TX10 31 10 14 := ⟨hinX10, rfl, by decide, hts (.fieldLink RX10 34 "SlowPathsModel" "pathInput" "[I") (List.mem_of_getElem? (i := 7) rfl)⟩
  have F37 : FLk s args wsX10_drawn RX10 37 RX10 TX10 31 10 15 := ⟨hinX10, rfl, by decide, hts (.fieldLink RX10 37 "SlowPathsModel" "pathGates" "[I") (List.mem_of_getElem? (i := 8) rfl)⟩
  have F112 : FLk s args wsX10_drawn RX10 112 RX10 TX10 31 10 0 := ⟨hinX10, rfl, by decide, hts (.fieldLink RX10 112 "SlowPathsModel" "inputs" "I") (List.mem_of_getElem? (i := 2) rfl)⟩
  have F124 : FLk s args wsX10_drawn RX10 124 RX10 TX10 31 10 13 := ⟨hinX10, rfl, by decide, hts (.fieldLink RX10 124 "SlowPathsModel" "paths" "I") (List.mem_of_getElem? (i := 6) rfl)⟩
  have F258 : FLk s args wsX10_drawn RX10 258 RX10 TX10 31 10 28 := ⟨hinX10, rfl, by decide, hts (.fieldLink RX10 258 "SlowPathsModel" "seed" "J") (List.mem_of_getElem? (i := 3) rfl)⟩
  have P258 : PLk TX10 31 28 tyX10 false .long := ⟨tyX10_ok, nmX10, rfl, rfl⟩
  have h := hf
  rw [f_X10_drawn] at h
  refine lv_iload_n hx hb dX10_drawn_0 rfl (lv_at hl 1 rfl) ?_
  refine lv_i2l hx hb dX10_drawn_1 rfl ?_
  refine lv_lconst (v := (1 : Int64)) hx hb dX10_drawn_2 (by decide) ?_
  refine lv_ldc2 (v := (20 : Int64)) hx hb S.1.2.2.2.1 (hts (.constantLong RX10 262 (20)) (List.mem_of_getElem? (i := 1) rfl)) dX10_drawn_3 ?_
  obtain ⟨r_1, e6_1, h⟩ := obd1_el h
  refine zr_SI (As := [.long (y1.toInt64), .long (1 : Int64), .long (20 : Int64)]) (rest := []) (q0 := 0) (ci := 0) (fs := []) (qc := (RX0, TX0, 4)) S hw (c_X10_in l D cI cJ cZ cS H.size N (y1.toInt64) (1 : Int64) (20 : Int64) r_1 e6_1) (va_cwS 3 hts gX10_drawn_X10_in rfl rfl rfl ds_X10_in ⟨Nat.le_of_ble_eq_true rfl, Nat.le_of_ble_eq_true rfl⟩) [] rfl rfl rfl hl.1 rfl (Nat.le_of_ble_eq_true rfl) dX10_drawn_6 ⟨Nat.zero_le _, Nat.zero_le _⟩ ?_
  refine lv_if_ne (tgt := 15) hx hb dX10_drawn_9 (by decide) (fun hc => ?_) (fun hc => ?_)
  · replace h := if_f hc h
    refine lv_iconst (v := (1 : Int32)) hx hb dX10_drawn_15 (by decide) ?_
    refine lv_aload_n hx hb dX10_drawn_16 rfl (lv_at hl 0 rfl) ?_
    refine z_get S hw F112 0 rfl rfl dX10_drawn_17 ?_
    refine lv_ishl hx hb dX10_drawn_20 ?_
    refine lv_iconst (v := (1 : Int32)) hx hb dX10_drawn_21 (by decide) ?_
    refine lv_isub hx hb dX10_drawn_22 ?_
    refine lv_topi (fun x2_2 ex2_2 => ?_)
    replace h := bnd_at ex2_2 h
    refine lv_istore_n (lv' := [(2, .int x2_2), (0, .ref a_this), (1, .int y1)]) hx hb dX10_drawn_23 rfl hl (by decide) rfl (fun ls hl => ?_)
    refine lv_iconst (v := (0 : Int32)) hx hb dX10_drawn_24 (by decide) ?_
    refine lv_istore_n (lv' := [(3, .int (0 : Int32)), (2, .int x2_2), (0, .ref a_this), (1, .int y1)]) hx hb dX10_drawn_25 rfl hl (by decide) rfl (fun ls hl => ?_)
    refine lv_iconst (v := (0 : Int32)) hx hb dX10_drawn_26 (by decide) ?_
    refine lv_istore (lv' := [(4, .int (0 : Int32)), (3, .int (0 : Int32)), (2, .int x2_2), (0, .ref a_this), (1, .int y1)]) hx hb dX10_drawn_27 hl (by decide) rfl (fun ls hl => ?_)
    obtain ⟨j133_1, ej133_1, h⟩ := bnd_ex h
    have hj133_1 : ∀ (x3_3 : Int32) (i_this_seed_4 : Int64) (k_before_5 : (Nat → Int32)) (k_after_6 : (Nat → Int32)) (k_values_7 : (Nat → Int32)) (H : Heap) (locs : List Loc) (ls : Array Slot), j133_1 x3_3 i_this_seed_4 k_before_5 k_after_6 k_values_7 = some (rr, o_this_seed, o_before, o_after, o_values) → Wd D (tyA cI cJ cZ cS) A s [(a_this, .inr (10, [.int i_this_inputs, .int i_this_gates, .ref a_now, .ref a_one, .ref a_other, .ref a_next, .int i_this_readInputs, .int i_this_readGates, .ref a_readOne, .ref a_readOther, .ref a_readNext, .ref a_text, .int i_this_length, .int i_this_paths, .ref a_pathInput, .ref a_pathGates, .ref a_before, .ref a_after, .ref a_values, .ref a_taken, .ref a_waves, .int i_this_acts, .int i_this_turn, .ref a_row, .int i_this_seen, .ref a_seenPair, .ref a_seenTime, .ref a_seenLate, .long i_this_seed_4, .ref a_isKept, .ref a_kept])), (a_now, .inl (cI, 32, .inl k_now)), (a_other, .inl (cI, 8, .inl k_other)), (a_one, .inl (cI, 8, .inl k_one)), (a_before, .inl (cI, 12, .inl k_before_5)), (a_after, .inl (cI, 12, .inl k_after_6)), (a_values, .inl (cI, 12, .inl k_values_7)), (a_pathInput, .inl (cI, 64, .inl k_pathInput)), (a_pathGates, .inl (cI, 64, .inl k_pathGates))] H locs → lv_has ls 7 [(3, .int x3_3)] → W p l e rmX10_drawn s m args below meth c H locs 0 0 Q (F0 m 133 ls []) := by
      intro x3_3 i_this_seed_4 k_before_5 k_after_6 k_values_7 H locs ls h hw hl
      replace h := ap5 ej133_1 h
      refine lv_iload_n hx hb dX10_drawn_133 rfl (lv_at hl 0 rfl) ?_
      cases h
      exact z_iret S hQ hr hw [0, 1, 2, 3, 4, 5, 6, 7, 8] rfl rfl dX10_drawn_134
    have hL29_1 : ∀ (nf : Nat) (x3_8 : Int32) (x4_9 : Int32) (i_this_seed_10 : Int64) (k_before_11 : (Nat → Int32)) (k_after_12 : (Nat → Int32)) (k_values_13 : (Nat → Int32)) (H : Heap) (locs : List Loc) (ls : Array Slot), f_X10_drawn_L29 N y1 i_this_inputs i_this_gates i_this_paths k_now k_other k_one k_pathInput k_pathGates x2_2 j133_1 nf x3_8 x4_9 i_this_seed_10 k_before_11 k_after_12 k_values_13 = some (rr, o_this_seed, o_before, o_after, o_values) → Wd D (tyA cI cJ cZ cS) A s [(a_this, .inr (10, [.int i_this_inputs, .int i_this_gates, .ref a_now, .ref a_one, .ref a_other, .ref a_next, .int i_this_readInputs, .int i_this_readGates, .ref a_readOne, .ref a_readOther, .ref a_readNext, .ref a_text, .int i_this_length, .int i_this_paths, .ref a_pathInput, .ref a_pathGates, .ref a_before, .ref a_after, .ref a_values, .ref a_taken, .ref a_waves, .int i_this_acts, .int i_this_turn, .ref a_row, .int i_this_seen, .ref a_seenPair, .ref a_seenTime, .ref a_seenLate, .long i_this_seed_10, .ref a_isKept, .ref a_kept])), (a_now, .inl (cI, 32, .inl k_now)), (a_other, .inl (cI, 8, .inl k_other)), (a_one, .inl (cI, 8, .inl k_one)), (a_before, .inl (cI, 12, .inl k_before_11)), (a_after, .inl (cI, 12, .inl k_after_12)), (a_values, .inl (cI, 12, .inl k_values_13)), (a_pathInput, .inl (cI, 64, .inl k_pathInput)), (a_pathGates, .inl (cI, 64, .inl k_pathGates))] H locs → lv_has ls 7 [(0, .ref a_this), (1, .int y1), (2, .int x2_2), (3, .int x3_8), (4, .int x4_9)] → W p l e rmX10_drawn s m args below meth c H locs 0 0 Q (F0 m 29 ls []) := by
      intro nf
      induction nf with
      | zero =>
        intro x3_8 x4_9 i_this_seed_10 k_before_11 k_after_12 k_values_13 H locs ls h
        rw [f_X10_drawn_L29] at h
        cases h
      | succ n_29 ih_29 =>
        intro x3_8 x4_9 i_this_seed_10 k_before_11 k_after_12 k_values_13 H locs ls h hw hl
        rw [f_X10_drawn_L29] at h
        refine lv_iload hx hb dX10_drawn_29 (lv_at hl 4 rfl) ?_
        refine lv_iload_n hx hb dX10_drawn_31 rfl (lv_at hl 1 rfl) ?_
        refine lv_icmp_ge (tgt := 133) hx hb dX10_drawn_32 (by decide) (fun hc => ?_) (fun hc => ?_)
        · replace h := if_t hc h
          exact hj133_1 x3_8 i_this_seed_10 k_before_11 k_after_12 k_values_13 H locs ls h hw (lv_sub hl [3] rfl)
        · replace h := if_f hc h
          refine lv_aload_n hx hb dX10_drawn_35 rfl (lv_at hl 0 rfl) ?_
          refine lv_aload_n hx hb dX10_drawn_36 rfl (lv_at hl 0 rfl) ?_
          refine z_get S hw F258 0 rfl rfl dX10_drawn_37 ?_
          refine lv_ldc2 (v := (6364136223846793005 : Int64)) hx hb S.1.2.2.2.1 (hts (.constantLong RX10 264 (6364136223846793005)) (List.mem_of_getElem? (i := 4) rfl)) dX10_drawn_40 ?_
          refine lv_lmul hx hb dX10_drawn_43 ?_
          refine lv_ldc2 (v := (1442695040888963407 : Int64)) hx hb S.1.2.2.2.1 (hts (.constantLong RX10 266 (1442695040888963407)) (List.mem_of_getElem? (i := 5) rfl)) dX10_drawn_44 ?_
          refine lv_ladd hx hb dX10_drawn_47 ?_
          refine lv_topl (fun i_seed_14 ei_seed_14 => ?_)
          replace h := bnd_at ei_seed_14 h
          refine z_put S hw F258 P258 rfl rfl 0 rfl (Nat.le_of_ble_eq_true rfl) dX10_drawn_48 (fun H locs hw => ?_)
          refine lv_aload_n hx hb dX10_drawn_51 rfl (lv_at hl 0 rfl) ?_
          refine z_get S hw F258 0 rfl rfl dX10_drawn_52 ?_
          refine lv_bipush (v := (33 : Int32)) hx hb dX10_drawn_55 (by decide) ?_
          refine lv_lushr hx hb dX10_drawn_57 rfl ?_
          refine lv_l2i hx hb dX10_drawn_58 rfl ?_
          refine lv_topi (fun x5_15 ex5_15 => ?_)
          replace h := bnd_at ex5_15 h
          refine lv_istore (lv' := [(5, .int x5_15), (0, .ref a_this), (1, .int y1), (2, .int x2_2), (3, .int x3_8), (4, .int x4_9)]) hx hb dX10_drawn_59 hl (by decide) rfl (fun ls hl => ?_)
          refine lv_aload_n hx hb dX10_drawn_61 rfl (lv_at hl 1 rfl) ?_
          refine lv_iconst (v := (0 : Int32)) hx hb dX10_drawn_62 (by decide) ?_
          refine lv_bipush (v := (16 : Int32)) hx hb dX10_drawn_63 (by decide) ?_
          refine lv_iload hx hb dX10_drawn_65 (lv_at hl 0 rfl) ?_
          refine lv_bipush (v := (16 : Int32)) hx hb dX10_drawn_67 (by decide) ?_
          refine lv_irem hx hb dX10_drawn_69 (by decide) ?_
          refine lv_iload_n hx hb dX10_drawn_70 rfl (lv_at hl 3 rfl) ?_
          refine lv_iand hx hb dX10_drawn_71 ?_
          refine lv_imul hx hb dX10_drawn_72 ?_
          refine lv_iload hx hb dX10_drawn_73 (lv_at hl 0 rfl) ?_
          refine lv_bipush (v := (16 : Int32)) hx hb dX10_drawn_75 (by decide) ?_
          refine lv_idiv hx hb dX10_drawn_77 (by decide) ?_
          refine lv_bipush (v := (16 : Int32)) hx hb dX10_drawn_78 (by decide) ?_
          refine lv_irem hx hb dX10_drawn_80 (by decide) ?_
          refine lv_iload_n hx hb dX10_drawn_81 rfl (lv_at hl 3 rfl) ?_
          refine lv_iand hx hb dX10_drawn_82 ?_
          refine lv_iadd hx hb dX10_drawn_83 ?_
          obtain ⟨k_before_16, k_after_17, k_values_18, e84_1, h⟩ := obd3_el h
          refine zc_VV (As := [.int (0 : Int32), .int (((16 : Int32) * ((x5_15 - x5_15 / (16 : Int32) * (16 : Int32)) &&& x2_2)) + (((x5_15 / (16 : Int32)) - (x5_15 / (16 : Int32)) / (16 : Int32) * (16 : Int32)) &&& x2_2))]) (rest := []) (wr := [(a_pathInput, .inl (cI, 64, .inl k_pathInput)), (a_pathGates, .inl (cI, 64, .inl k_pathGates))]) (q0 := 0) S hw (c_X10_findPair l D cI cJ cZ cS H.size N a_this a_now a_other a_one a_before a_after a_values a_next a_readOne a_readOther a_readNext a_text a_pathInput a_pathGates a_taken a_waves a_row a_seenPair a_seenTime a_seenLate a_isKept a_kept i_this_inputs i_this_gates i_this_readInputs i_this_readGates i_this_length i_this_paths i_this_acts i_this_turn i_this_seen i_seed_14 k_now k_other k_one k_before_11 k_after_12 k_values_13 (0 : Int32) (((16 : Int32) * ((x5_15 - x5_15 / (16 : Int32) * (16 : Int32)) &&& x2_2)) + (((x5_15 / (16 : Int32)) - (x5_15 / (16 : Int32)) / (16 : Int32) * (16 : Int32)) &&& x2_2)) k_before_16 k_after_17 k_values_18 e84_1) (cwV 2 hts gX10_drawn_X10_findPair rfl rfl rfl dv_X10_findPair ⟨Nat.le_of_ble_eq_true rfl, Nat.le_of_ble_eq_true rfl⟩) [0, 1, 2, 3, 4, 5, 6] [7, 8] rfl rfl rfl rfl (by decide) rfl rfl rfl rfl hl.1 rfl (Nat.le_of_ble_eq_true rfl) dX10_drawn_84 ⟨Nat.zero_le _, Nat.zero_le _⟩ (fun H locs hw => ?_)
          refine lv_iconst (v := (0 : Int32)) hx hb dX10_drawn_87 (by decide) ?_
          refine lv_istore (lv' := [(6, .int (0 : Int32)), (5, .int x5_15), (0, .ref a_this), (1, .int y1), (2, .int x2_2), (3, .int x3_8), (4, .int x4_9)]) hx hb dX10_drawn_88 hl (by decide) rfl (fun ls hl => ?_)
          obtain ⟨j127_1, ej127_1, h⟩ := bnd_ex h
          have hj127_1 : ∀ (x3_19 : Int32) (H : Heap) (locs : List Loc) (ls : Array Slot), j127_1 x3_19 = some (rr, o_this_seed, o_before, o_after, o_values) → Wd D (tyA cI cJ cZ cS) A s [(a_this, .inr (10, [.int i_this_inputs, .int i_this_gates, .ref a_now, .ref a_one, .ref a_other, .ref a_next, .int i_this_readInputs, .int i_this_readGates, .ref a_readOne, .ref a_readOther, .ref a_readNext, .ref a_text, .int i_this_length, .int i_this_paths, .ref a_pathInput, .ref a_pathGates, .ref a_before, .ref a_after, .ref a_values, .ref a_taken, .ref a_waves, .int i_this_acts, .int i_this_turn, .ref a_row, .int i_this_seen, .ref a_seenPair, .ref a_seenTime, .ref a_seenLate, .long i_seed_14, .ref a_isKept, .ref a_kept])), (a_now, .inl (cI, 32, .inl k_now)), (a_other, .inl (cI, 8, .inl k_other)), (a_one, .inl (cI, 8, .inl k_one)), (a_before, .inl (cI, 12, .inl k_before_16)), (a_after, .inl (cI, 12, .inl k_after_17)), (a_values, .inl (cI, 12, .inl k_values_18)), (a_pathInput, .inl (cI, 64, .inl k_pathInput)), (a_pathGates, .inl (cI, 64, .inl k_pathGates))] H locs → lv_has ls 7 [(0, .ref a_this), (1, .int y1), (2, .int x2_2), (3, .int x3_19), (4, .int x4_9)] → W p l e rmX10_drawn s m args below meth c H locs 0 0 Q (F0 m 127 ls []) := by
            intro x3_19 H locs ls h hw hl
            replace h := ap1 ej127_1 h
            obtain ⟨x4_20, ex4_20, h⟩ := bnd_ex h
            refine lv_iinc (v := x4_20) (lv' := [(4, .int x4_20), (0, .ref a_this), (1, .int y1), (2, .int x2_2), (3, .int x3_19)]) hx hb dX10_drawn_127 hl (k := 4) rfl (by rw [ex4_20]; rfl) (by decide) rfl (fun ls hl => ?_)
            refine lv_goto (tgt := 29) hx hb dX10_drawn_130 (by decide) ?_
            exact ih_29 x3_19 x4_20 i_seed_14 k_before_16 k_after_17 k_values_18 H locs ls h hw (lv_sub hl [1, 2, 3, 4, 0] rfl)
          have hL90_1 : ∀ (nf : Nat) (x3_21 : Int32) (x6_22 : Int32) (H : Heap) (locs : List Loc) (ls : Array Slot), f_X10_drawn_L90 N i_this_gates i_this_paths k_now k_other k_one k_pathInput k_pathGates k_before_16 k_after_17 k_values_18 j127_1 nf x3_21 x6_22 = some (rr, o_this_seed, o_before, o_after, o_values) → Wd D (tyA cI cJ cZ cS) A s [(a_this, .inr (10, [.int i_this_inputs, .int i_this_gates, .ref a_now, .ref a_one, .ref a_other, .ref a_next, .int i_this_readInputs, .int i_this_readGates, .ref a_readOne, .ref a_readOther, .ref a_readNext, .ref a_text, .int i_this_length, .int i_this_paths, .ref a_pathInput, .ref a_pathGates, .ref a_before, .ref a_after, .ref a_values, .ref a_taken, .ref a_waves, .int i_this_acts, .int i_this_turn, .ref a_row, .int i_this_seen, .ref a_seenPair, .ref a_seenTime, .ref a_seenLate, .long i_seed_14, .ref a_isKept, .ref a_kept])), (a_now, .inl (cI, 32, .inl k_now)), (a_other, .inl (cI, 8, .inl k_other)), (a_one, .inl (cI, 8, .inl k_one)), (a_before, .inl (cI, 12, .inl k_before_16)), (a_after, .inl (cI, 12, .inl k_after_17)), (a_values, .inl (cI, 12, .inl k_values_18)), (a_pathInput, .inl (cI, 64, .inl k_pathInput)), (a_pathGates, .inl (cI, 64, .inl k_pathGates))] H locs → lv_has ls 7 [(0, .ref a_this), (1, .int y1), (2, .int x2_2), (3, .int x3_21), (4, .int x4_9), (6, .int x6_22)] → W p l e rmX10_drawn s m args below meth c H locs 0 0 Q (F0 m 90 ls []) := by
            intro nf
            induction nf with
            | zero =>
              intro x3_21 x6_22 H locs ls h
              rw [f_X10_drawn_L90] at h
              cases h
            | succ n_90 ih_90 =>
              intro x3_21 x6_22 H locs ls h hw hl
              rw [f_X10_drawn_L90] at h
              refine lv_iload hx hb dX10_drawn_90 (lv_at hl 5 rfl) ?_
              refine lv_aload_n hx hb dX10_drawn_92 rfl (lv_at hl 0 rfl) ?_
              refine z_get S hw F124 0 rfl rfl dX10_drawn_93 ?_
              refine lv_icmp_ge (tgt := 127) hx hb dX10_drawn_96 (by decide) (fun hc => ?_) (fun hc => ?_)
              · replace h := if_t hc h
                exact hj127_1 x3_21 H locs ls h hw (lv_sub hl [0, 1, 2, 3, 4] rfl)
              · replace h := if_f hc h
                refine lv_iload_n hx hb dX10_drawn_99 rfl (lv_at hl 3 rfl) ?_
                refine lv_aload_n hx hb dX10_drawn_100 rfl (lv_at hl 0 rfl) ?_
                refine lv_iconst (v := (0 : Int32)) hx hb dX10_drawn_101 (by decide) ?_
                refine lv_aload_n hx hb dX10_drawn_102 rfl (lv_at hl 0 rfl) ?_
                refine z_get S hw F34 0 rfl rfl dX10_drawn_103 ?_
                refine lv_iload hx hb dX10_drawn_106 (lv_at hl 5 rfl) ?_
                obtain ⟨hg, h⟩ := grd_el h
                refine z_iald S hw 7 0 rfl rfl hg dX10_drawn_108 ?_
                refine lv_aload_n hx hb dX10_drawn_109 rfl (lv_at hl 0 rfl) ?_
                refine z_get S hw F37 0 rfl rfl dX10_drawn_110 ?_
                refine lv_iload hx hb dX10_drawn_113 (lv_at hl 5 rfl) ?_
                obtain ⟨hg, h⟩ := grd_el h
                refine z_iald S hw 8 0 rfl rfl hg dX10_drawn_115 ?_
                obtain ⟨r_23, e116_1, h⟩ := obd1_el h
                refine zr_VI (As := [.int (0 : Int32), .int (k_pathInput x6_22.toNatClampNeg), .int (k_pathGates x6_22.toNatClampNeg)]) (rest := [.int x3_21]) (q0 := 0) S hw (c_X10_testsOf l D cI cJ cZ cS H.size N a_this a_before a_after a_now a_one a_values a_other a_next a_readOne a_readOther a_readNext a_text a_pathInput a_pathGates a_taken a_waves a_row a_seenPair a_seenTime a_seenLate a_isKept a_kept i_this_inputs i_this_gates i_this_readInputs i_this_readGates i_this_length i_this_paths i_this_acts i_this_turn i_this_seen i_seed_14 k_before_16 k_after_17 k_now k_one k_values_18 k_other (0 : Int32) (k_pathInput x6_22.toNatClampNeg) (k_pathGates x6_22.toNatClampNeg) r_23 e116_1) (cwV 3 hts gX10_drawn_X10_testsOf rfl rfl rfl dv_X10_testsOf ⟨Nat.le_of_ble_eq_true rfl, Nat.le_of_ble_eq_true rfl⟩) [0, 4, 5, 1, 3, 6, 2] rfl rfl rfl rfl rfl rfl hl.1 rfl (Nat.le_of_ble_eq_true rfl) dX10_drawn_116 ⟨Nat.zero_le _, Nat.zero_le _⟩ ?_
                refine lv_iadd hx hb dX10_drawn_119 ?_
                refine lv_topi (fun x3_24 ex3_24 => ?_)
                replace h := bnd_at ex3_24 h
                refine lv_istore_n (lv' := [(3, .int x3_24), (0, .ref a_this), (1, .int y1), (2, .int x2_2), (4, .int x4_9), (6, .int x6_22)]) hx hb dX10_drawn_120 rfl hl (by decide) rfl (fun ls hl => ?_)
                obtain ⟨x6_25, ex6_25, h⟩ := bnd_ex h
                refine lv_iinc (v := x6_25) (lv' := [(6, .int x6_25), (3, .int x3_24), (0, .ref a_this), (1, .int y1), (2, .int x2_2), (4, .int x4_9)]) hx hb dX10_drawn_121 hl (k := 5) rfl (by rw [ex6_25]; rfl) (by decide) rfl (fun ls hl => ?_)
                refine lv_goto (tgt := 90) hx hb dX10_drawn_124 (by decide) ?_
                exact ih_90 x3_24 x6_25 H locs ls h hw (lv_sub hl [2, 3, 4, 1, 5, 0] rfl)
          exact hL90_1 N x3_8 ((0 : Int32)) H locs ls h (hw.sub [2, 3, 4, 5, 6, 7, 8, 0, 1] rfl rfl) (lv_sub hl [2, 3, 4, 5, 6, 0] rfl)
    exact hL29_1 N ((0 : Int32)) ((0 : Int32)) i_this_seed k_before k_after k_values H locs ls h hw (lv_sub hl [3, 4, 2, 1, 0] rfl)
  · replace h := if_t hc h
    refine lv_bipush (v := (-2 : Int32)) hx hb dX10_drawn_12 (by decide) ?_
    cases h
    exact z_iret S hQ hr hw [0, 1, 2, 3, 4, 5, 6, 7, 8] rfl rfl dX10_drawn_14
abbrev rmX10_keep : Room := { frames := 1, cells := 0, slots := 0, locals := 25 }
theorem dv_X10_keep : yX10_keep.cls = RX10 ∧ yX10_keep.cls ≠ "java/lang/invoke/MethodHandle" ∧ yX10_keep.cls ≠ "java/lang/invoke/VarHandle" ∧ (parseMethodDescriptor yX10_keep.desc).map (fun d => d.parameters.length) = some 1 := by decide +kernel
noncomputable def f_X10_keep_L21 (N : Nat) (y1 : Int32) (k_now : (Nat → Int32)) (j50_1 : (Nat → Int32) → Option (Int32 × (Nat → Int32) × (Nat → Int32))) : Nat → Int32 → (Nat → Int32) → Option (Int32 × (Nat → Int32) × (Nat → Int32))
  | 0, _, _ => none
  | n_21 + 1, x2_4, k_kept_5 =>
    (if (16 : Int32) ≤ x2_4 then (j50_1 k_kept_5) else (grd (inb x2_4 32) <| grd (inb (((16 : Int32) * y1) + x2_4) 32) <| bnd (upd k_kept_5 (((16 : Int32) * y1) + x2_4).toNatClampNeg (k_now x2_4.toNatClampNeg)) fun (k_kept_6 : (Nat → Int32)) => bnd (x2_4 + (1 : Int32)) fun (x2_7 : Int32) => f_X10_keep_L21 N y1 k_now j50_1 n_21 x2_7 k_kept_6))
noncomputable def f_X10_keep (N : Nat) (y1 : Int32) (i_this_gates : Int32) (k_isKept : (Nat → Int32)) (k_now : (Nat → Int32)) (k_kept : (Nat → Int32)) : Option (Int32 × (Nat → Int32) × (Nat → Int32)) :=
  obd1 (f_X10_in N (y1.toInt64) (0 : Int64) (1 : Int64)) fun (r_1 : Int32) => (if r_1 = (0 : Int32) then (some ((-1 : Int32), k_isKept, k_kept)) else (grd (inb y1 2) <| bnd (upd k_isKept y1.toNatClampNeg (vp_nar .boolean (1 : Int32))) fun (k_isKept_2 : (Nat → Int32)) => bnd (fun (k_kept_3 : (Nat → Int32)) => (some (i_this_gates, k_isKept_2, k_kept_3))) fun (j50_1 : (Nat → Int32) → Option (Int32 × (Nat → Int32) × (Nat → Int32))) => f_X10_keep_L21 N y1 k_now j50_1 N ((0 : Int32)) k_kept))
set_option maxHeartbeats 4000000 in
set_option maxRecDepth 100000 in
theorem c_X10_keep (l : Launch) (D : va_G) (cI cJ cZ cS : ClassId) (sz N : Nat) (a_this a_isKept a_now a_kept a_one a_other a_next a_readOne a_readOther a_readNext a_text a_pathInput a_pathGates a_before a_after a_values a_taken a_waves a_row a_seenPair a_seenTime a_seenLate : Nat) (i_this_inputs : Int32) (i_this_gates : Int32) (i_this_readInputs : Int32) (i_this_readGates : Int32) (i_this_length : Int32) (i_this_paths : Int32) (i_this_acts : Int32) (i_this_turn : Int32) (i_this_seen : Int32) (i_this_seed : Int64) (k_isKept : (Nat → Int32)) (k_now : (Nat → Int32)) (k_kept : (Nat → Int32)) (y1 : Int32) (rr : Int32) (o_isKept : (Nat → Int32)) (o_kept : (Nat → Int32)) (hf : f_X10_keep N y1 i_this_gates k_isKept k_now k_kept = some (rr, o_isKept, o_kept)) : MetI l yX10_keep wsX10_keep rmX10_keep D (tyA cI cJ cZ cS) [(a_this, .inr (10, [.int i_this_inputs, .int i_this_gates, .ref a_now, .ref a_one, .ref a_other, .ref a_next, .int i_this_readInputs, .int i_this_readGates, .ref a_readOne, .ref a_readOther, .ref a_readNext, .ref a_text, .int i_this_length, .int i_this_paths, .ref a_pathInput, .ref a_pathGates, .ref a_before, .ref a_after, .ref a_values, .ref a_taken, .ref a_waves, .int i_this_acts, .int i_this_turn, .ref a_row, .int i_this_seen, .ref a_seenPair, .ref a_seenTime, .ref a_seenLate, .long i_this_seed, .ref a_isKept, .ref a_kept])), (a_isKept, .inl (cZ, 2, .inl k_isKept)), (a_now, .inl (cI, 32, .inl k_now)), (a_kept, .inl (cI, 32, .inl k_kept))] sz [.ref a_this, .int y1] rr [(a_this, .inr (10, [.int i_this_inputs, .int i_this_gates, .ref a_now, .ref a_one, .ref a_other, .ref a_next, .int i_this_readInputs, .int i_this_readGates, .ref a_readOne, .ref a_readOther, .ref a_readNext, .ref a_text, .int i_this_length, .int i_this_paths, .ref a_pathInput, .ref a_pathGates, .ref a_before, .ref a_after, .ref a_values, .ref a_taken, .ref a_waves, .int i_this_acts, .int i_this_turn, .ref a_row, .int i_this_seen, .ref a_seenPair, .ref a_seenTime, .ref a_seenLate, .long i_this_seed, .ref a_isKept, .ref a_kept])), (a_isKept, .inl (cZ, 2, .inl o_isKept)), (a_now, .inl (cI, 32, .inl k_now)), (a_kept, .inl (cI, 32, .inl o_kept))] := by
  refine entI (cc := cX10_keep) (maxL := 3) (own := RX10) (by decide) rfl rfl (Nat.le_of_ble_eq_true rfl) ?_
  intro p e s m args below meth c A ls Q H locs S hr hw hl hQ
  have hx := S.1.1
  have hb := S.1.2.1
  have hts := S.1.2.2.2.2
  have hl : lv_has ls 3 [(0, .ref a_this), (1, .int y1)] := hl
  have hinX10 : ∀ w ∈ u_ws RX10 TX10 31, w ∈ wsX10_keep := (fun _ h => List.mem_cons_of_mem _ (List.mem_append_right _ h))
  have F7 : FLk s args wsX10_keep RX10 7 RX10 TX10 31 10 2 := ⟨hinX10, rfl, by decide, hts (.fieldLink RX10 7 "SlowPathsModel" "now" "[I") (List.mem_of_getElem? (i := 3) rfl)⟩
  have F67 : FLk s args wsX10_keep RX10 67 RX10 TX10 31 10 29 := ⟨hinX10, rfl, by decide, hts (.fieldLink RX10 67 "SlowPathsModel" "isKept" "[Z") (List.mem_of_getElem? (i := 1) rfl)⟩
  have F71 : FLk s args wsX10_keep RX10 71 RX10 TX10 31 10 30 := ⟨hinX10, rfl, by decide, hts (.fieldLink RX10 71 "SlowPathsModel" "kept" "[I") (List.mem_of_getElem? (i := 2) rfl)⟩
  have F115 : FLk s args wsX10_keep RX10 115 RX10 TX10 31 10 1 := ⟨hinX10, rfl, by decide, hts (.fieldLink RX10 115 "SlowPathsModel" "gates" "I") (List.mem_of_getElem? (i := 4) rfl)⟩
  have h := hf
  rw [f_X10_keep] at h
  refine lv_iload_n hx hb dX10_keep_0 rfl (lv_at hl 1 rfl) ?_
  refine lv_i2l hx hb dX10_keep_1 rfl ?_
  refine lv_lconst (v := (0 : Int64)) hx hb dX10_keep_2 (by decide) ?_
  refine lv_lconst (v := (1 : Int64)) hx hb dX10_keep_3 (by decide) ?_
  obtain ⟨r_1, e4_1, h⟩ := obd1_el h
  refine zr_SI (As := [.long (y1.toInt64), .long (0 : Int64), .long (1 : Int64)]) (rest := []) (q0 := 0) (ci := 0) (fs := []) (qc := (RX0, TX0, 4)) S hw (c_X10_in l D cI cJ cZ cS H.size N (y1.toInt64) (0 : Int64) (1 : Int64) r_1 e4_1) (va_cwS 3 hts gX10_keep_X10_in rfl rfl rfl ds_X10_in ⟨Nat.le_of_ble_eq_true rfl, Nat.le_of_ble_eq_true rfl⟩) [] rfl rfl rfl hl.1 rfl (Nat.le_of_ble_eq_true rfl) dX10_keep_4 ⟨Nat.zero_le _, Nat.zero_le _⟩ ?_
  refine lv_if_ne (tgt := 12) hx hb dX10_keep_7 (by decide) (fun hc => ?_) (fun hc => ?_)
  · replace h := if_f hc h
    refine lv_aload_n hx hb dX10_keep_12 rfl (lv_at hl 0 rfl) ?_
    refine z_get S hw F67 0 rfl rfl dX10_keep_13 ?_
    refine lv_iload_n hx hb dX10_keep_16 rfl (lv_at hl 1 rfl) ?_
    refine lv_iconst (v := (1 : Int32)) hx hb dX10_keep_17 (by decide) ?_
    obtain ⟨hg, h⟩ := grd_el h
    obtain ⟨k_isKept_2, ek_isKept_2, h⟩ := bnd_ex h
    refine z_zast S hw ek_isKept_2 1 2 rfl rfl hg dX10_keep_18 (fun H locs hw => ?_)
    refine lv_iconst (v := (0 : Int32)) hx hb dX10_keep_19 (by decide) ?_
    refine lv_istore_n (lv' := [(2, .int (0 : Int32)), (0, .ref a_this), (1, .int y1)]) hx hb dX10_keep_20 rfl hl (by decide) rfl (fun ls hl => ?_)
    obtain ⟨j50_1, ej50_1, h⟩ := bnd_ex h
    have hj50_1 : ∀ (k_kept_3 : (Nat → Int32)) (H : Heap) (locs : List Loc) (ls : Array Slot), j50_1 k_kept_3 = some (rr, o_isKept, o_kept) → Wd D (tyA cI cJ cZ cS) A s [(a_this, .inr (10, [.int i_this_inputs, .int i_this_gates, .ref a_now, .ref a_one, .ref a_other, .ref a_next, .int i_this_readInputs, .int i_this_readGates, .ref a_readOne, .ref a_readOther, .ref a_readNext, .ref a_text, .int i_this_length, .int i_this_paths, .ref a_pathInput, .ref a_pathGates, .ref a_before, .ref a_after, .ref a_values, .ref a_taken, .ref a_waves, .int i_this_acts, .int i_this_turn, .ref a_row, .int i_this_seen, .ref a_seenPair, .ref a_seenTime, .ref a_seenLate, .long i_this_seed, .ref a_isKept, .ref a_kept])), (a_isKept, .inl (cZ, 2, .inl k_isKept_2)), (a_now, .inl (cI, 32, .inl k_now)), (a_kept, .inl (cI, 32, .inl k_kept_3))] H locs → lv_has ls 3 [(0, .ref a_this)] → W p l e rmX10_keep s m args below meth c H locs 0 0 Q (F0 m 50 ls []) := by
      intro k_kept_3 H locs ls h hw hl
      replace h := ap1 ej50_1 h
      refine lv_aload_n hx hb dX10_keep_50 rfl (lv_at hl 0 rfl) ?_
      refine z_get S hw F115 0 rfl rfl dX10_keep_51 ?_
      cases h
      exact z_iret S hQ hr hw [0, 1, 2, 3] rfl rfl dX10_keep_54
    have hL21_1 : ∀ (nf : Nat) (x2_4 : Int32) (k_kept_5 : (Nat → Int32)) (H : Heap) (locs : List Loc) (ls : Array Slot), f_X10_keep_L21 N y1 k_now j50_1 nf x2_4 k_kept_5 = some (rr, o_isKept, o_kept) → Wd D (tyA cI cJ cZ cS) A s [(a_this, .inr (10, [.int i_this_inputs, .int i_this_gates, .ref a_now, .ref a_one, .ref a_other, .ref a_next, .int i_this_readInputs, .int i_this_readGates, .ref a_readOne, .ref a_readOther, .ref a_readNext, .ref a_text, .int i_this_length, .int i_this_paths, .ref a_pathInput, .ref a_pathGates, .ref a_before, .ref a_after, .ref a_values, .ref a_taken, .ref a_waves, .int i_this_acts, .int i_this_turn, .ref a_row, .int i_this_seen, .ref a_seenPair, .ref a_seenTime, .ref a_seenLate, .long i_this_seed, .ref a_isKept, .ref a_kept])), (a_isKept, .inl (cZ, 2, .inl k_isKept_2)), (a_now, .inl (cI, 32, .inl k_now)), (a_kept, .inl (cI, 32, .inl k_kept_5))] H locs → lv_has ls 3 [(0, .ref a_this), (1, .int y1), (2, .int x2_4)] → W p l e rmX10_keep s m args below meth c H locs 0 0 Q (F0 m 21 ls []) := by
      intro nf
      induction nf with
      | zero =>
        intro x2_4 k_kept_5 H locs ls h
        rw [f_X10_keep_L21] at h
        cases h
      | succ n_21 ih_21 =>
        intro x2_4 k_kept_5 H locs ls h hw hl
        rw [f_X10_keep_L21] at h
        refine lv_iload_n hx hb dX10_keep_21 rfl (lv_at hl 2 rfl) ?_
        refine lv_bipush (v := (16 : Int32)) hx hb dX10_keep_22 (by decide) ?_
        refine lv_icmp_ge (tgt := 50) hx hb dX10_keep_24 (by decide) (fun hc => ?_) (fun hc => ?_)
        · replace h := if_t hc h
          exact hj50_1 k_kept_5 H locs ls h hw (lv_sub hl [0] rfl)
        · replace h := if_f hc h
          refine lv_aload_n hx hb dX10_keep_27 rfl (lv_at hl 0 rfl) ?_
          refine z_get S hw F71 0 rfl rfl dX10_keep_28 ?_
          refine lv_bipush (v := (16 : Int32)) hx hb dX10_keep_31 (by decide) ?_
          refine lv_iload_n hx hb dX10_keep_33 rfl (lv_at hl 1 rfl) ?_
          refine lv_imul hx hb dX10_keep_34 ?_
          refine lv_iload_n hx hb dX10_keep_35 rfl (lv_at hl 2 rfl) ?_
          refine lv_iadd hx hb dX10_keep_36 ?_
          refine lv_aload_n hx hb dX10_keep_37 rfl (lv_at hl 0 rfl) ?_
          refine z_get S hw F7 0 rfl rfl dX10_keep_38 ?_
          refine lv_iload_n hx hb dX10_keep_41 rfl (lv_at hl 2 rfl) ?_
          obtain ⟨hg, h⟩ := grd_el h
          refine z_iald S hw 2 0 rfl rfl hg dX10_keep_42 ?_
          obtain ⟨hg, h⟩ := grd_el h
          obtain ⟨k_kept_6, ek_kept_6, h⟩ := bnd_ex h
          refine z_iast S hw ek_kept_6 3 0 rfl rfl hg dX10_keep_43 (fun H locs hw => ?_)
          obtain ⟨x2_7, ex2_7, h⟩ := bnd_ex h
          refine lv_iinc (v := x2_7) (lv' := [(2, .int x2_7), (0, .ref a_this), (1, .int y1)]) hx hb dX10_keep_44 hl (k := 2) rfl (by rw [ex2_7]; rfl) (by decide) rfl (fun ls hl => ?_)
          refine lv_goto (tgt := 21) hx hb dX10_keep_47 (by decide) ?_
          exact ih_21 x2_7 k_kept_6 H locs ls h hw (lv_sub hl [1, 2, 0] rfl)
    exact hL21_1 N ((0 : Int32)) k_kept H locs ls h hw (lv_sub hl [1, 2, 0] rfl)
  · replace h := if_t hc h
    refine lv_iconst (v := (-1 : Int32)) hx hb dX10_keep_10 (by decide) ?_
    cases h
    exact z_iret S hQ hr hw [0, 1, 2, 3] rfl rfl dX10_keep_11
abbrev rmX10_again : Room := { frames := 1, cells := 0, slots := 0, locals := 25 }
theorem dv_X10_again : yX10_again.cls = RX10 ∧ yX10_again.cls ≠ "java/lang/invoke/MethodHandle" ∧ yX10_again.cls ≠ "java/lang/invoke/VarHandle" ∧ (parseMethodDescriptor yX10_again.desc).map (fun d => d.parameters.length) = some 1 := by decide +kernel
noncomputable def f_X10_again_L26 (N : Nat) (y1 : Int32) (k_kept : (Nat → Int32)) (j55_1 : (Nat → Int32) → Option (Int32 × Int32 × (Nat → Int32))) : Nat → Int32 → (Nat → Int32) → Option (Int32 × Int32 × (Nat → Int32))
  | 0, _, _ => none
  | n_26 + 1, x2_3, k_now_4 =>
    (if (16 : Int32) ≤ x2_3 then (j55_1 k_now_4) else (grd (inb (((16 : Int32) * y1) + x2_3) 32) <| grd (inb x2_3 32) <| bnd (upd k_now_4 x2_3.toNatClampNeg (k_kept (((16 : Int32) * y1) + x2_3).toNatClampNeg)) fun (k_now_5 : (Nat → Int32)) => bnd (x2_3 + (1 : Int32)) fun (x2_6 : Int32) => f_X10_again_L26 N y1 k_kept j55_1 n_26 x2_6 k_now_5))
noncomputable def f_X10_again (N : Nat) (y1 : Int32) (i_this_gates : Int32) (i_this_acts : Int32) (k_isKept : (Nat → Int32)) (k_kept : (Nat → Int32)) (k_now : (Nat → Int32)) : Option (Int32 × Int32 × (Nat → Int32)) :=
  obd1 (f_X10_in N (y1.toInt64) (0 : Int64) (1 : Int64)) fun (r_1 : Int32) => (if r_1 = (0 : Int32) then (some ((-1 : Int32), i_this_acts, k_now)) else (grd (inb y1 2) <| (if (k_isKept y1.toNatClampNeg) = (0 : Int32) then (some ((-3 : Int32), i_this_acts, k_now)) else (bnd (fun (k_now_2 : (Nat → Int32)) => (some (i_this_gates, (0 : Int32), k_now_2))) fun (j55_1 : (Nat → Int32) → Option (Int32 × Int32 × (Nat → Int32))) => f_X10_again_L26 N y1 k_kept j55_1 N ((0 : Int32)) k_now))))
set_option maxHeartbeats 4000000 in
set_option maxRecDepth 100000 in
theorem c_X10_again (l : Launch) (D : va_G) (cI cJ cZ cS : ClassId) (sz N : Nat) (a_this a_isKept a_kept a_now a_one a_other a_next a_readOne a_readOther a_readNext a_text a_pathInput a_pathGates a_before a_after a_values a_taken a_waves a_row a_seenPair a_seenTime a_seenLate : Nat) (i_this_inputs : Int32) (i_this_gates : Int32) (i_this_readInputs : Int32) (i_this_readGates : Int32) (i_this_length : Int32) (i_this_paths : Int32) (i_this_acts : Int32) (i_this_turn : Int32) (i_this_seen : Int32) (i_this_seed : Int64) (k_isKept : (Nat → Int32)) (k_kept : (Nat → Int32)) (k_now : (Nat → Int32)) (y1 : Int32) (rr : Int32) (o_this_acts : Int32) (o_now : (Nat → Int32)) (hf : f_X10_again N y1 i_this_gates i_this_acts k_isKept k_kept k_now = some (rr, o_this_acts, o_now)) : MetI l yX10_again wsX10_again rmX10_again D (tyA cI cJ cZ cS) [(a_this, .inr (10, [.int i_this_inputs, .int i_this_gates, .ref a_now, .ref a_one, .ref a_other, .ref a_next, .int i_this_readInputs, .int i_this_readGates, .ref a_readOne, .ref a_readOther, .ref a_readNext, .ref a_text, .int i_this_length, .int i_this_paths, .ref a_pathInput, .ref a_pathGates, .ref a_before, .ref a_after, .ref a_values, .ref a_taken, .ref a_waves, .int i_this_acts, .int i_this_turn, .ref a_row, .int i_this_seen, .ref a_seenPair, .ref a_seenTime, .ref a_seenLate, .long i_this_seed, .ref a_isKept, .ref a_kept])), (a_isKept, .inl (cZ, 2, .inl k_isKept)), (a_kept, .inl (cI, 32, .inl k_kept)), (a_now, .inl (cI, 32, .inl k_now))] sz [.ref a_this, .int y1] rr [(a_this, .inr (10, [.int i_this_inputs, .int i_this_gates, .ref a_now, .ref a_one, .ref a_other, .ref a_next, .int i_this_readInputs, .int i_this_readGates, .ref a_readOne, .ref a_readOther, .ref a_readNext, .ref a_text, .int i_this_length, .int i_this_paths, .ref a_pathInput, .ref a_pathGates, .ref a_before, .ref a_after, .ref a_values, .ref a_taken, .ref a_waves, .int o_this_acts, .int i_this_turn, .ref a_row, .int i_this_seen, .ref a_seenPair, .ref a_seenTime, .ref a_seenLate, .long i_this_seed, .ref a_isKept, .ref a_kept])), (a_isKept, .inl (cZ, 2, .inl k_isKept)), (a_kept, .inl (cI, 32, .inl k_kept)), (a_now, .inl (cI, 32, .inl o_now))] := by
  refine entI (cc := cX10_again) (maxL := 3) (own := RX10) (by decide) rfl rfl (Nat.le_of_ble_eq_true rfl) ?_
  intro p e s m args below meth c A ls Q H locs S hr hw hl hQ
  have hx := S.1.1
  have hb := S.1.2.1
  have hts := S.1.2.2.2.2
  have hl : lv_has ls 3 [(0, .ref a_this), (1, .int y1)] := hl
  have hinX10 : ∀ w ∈ u_ws RX10 TX10 31, w ∈ wsX10_again := (fun _ h => List.mem_cons_of_mem _ (List.mem_append_right _ h))
  have F7 : FLk s args wsX10_again RX10 7 RX10 TX10 31 10 2 := ⟨hinX10, rfl, by decide, hts (.fieldLink RX10 7 "SlowPathsModel" "now" "[I") (List.mem_of_getElem? (i := 2) rfl)⟩
  have F67 : FLk s args wsX10_again RX10 67 RX10 TX10 31 10 29 := ⟨hinX10, rfl, by decide, hts (.fieldLink RX10 67 "SlowPathsModel" "isKept" "[Z") (List.mem_of_getElem? (i := 1) rfl)⟩
  have F71 : FLk s args wsX10_again RX10 71 RX10 TX10 31 10 30 := ⟨hinX10, rfl, by decide, hts (.fieldLink RX10 71 "SlowPathsModel" "kept" "[I") (List.mem_of_getElem? (i := 3) rfl)⟩
  have F115 : FLk s args wsX10_again RX10 115 RX10 TX10 31 10 1 := ⟨hinX10, rfl, by decide, hts (.fieldLink RX10 115 "SlowPathsModel" "gates" "I") (List.mem_of_getElem? (i := 5) rfl)⟩
  have F118 : FLk s args wsX10_again RX10 118 RX10 TX10 31 10 21 := ⟨hinX10, rfl, by decide, hts (.fieldLink RX10 118 "SlowPathsModel" "acts" "I") (List.mem_of_getElem? (i := 4) rfl)⟩
  have P118 : PLk TX10 31 21 tyX10 false .int := ⟨tyX10_ok, nmX10, rfl, rfl⟩
  have h := hf
  rw [f_X10_again] at h
  refine lv_iload_n hx hb dX10_again_0 rfl (lv_at hl 1 rfl) ?_
  refine lv_i2l hx hb dX10_again_1 rfl ?_
  refine lv_lconst (v := (0 : Int64)) hx hb dX10_again_2 (by decide) ?_
  refine lv_lconst (v := (1 : Int64)) hx hb dX10_again_3 (by decide) ?_
  obtain ⟨r_1, e4_1, h⟩ := obd1_el h
  refine zr_SI (As := [.long (y1.toInt64), .long (0 : Int64), .long (1 : Int64)]) (rest := []) (q0 := 0) (ci := 0) (fs := []) (qc := (RX0, TX0, 4)) S hw (c_X10_in l D cI cJ cZ cS H.size N (y1.toInt64) (0 : Int64) (1 : Int64) r_1 e4_1) (va_cwS 3 hts gX10_again_X10_in rfl rfl rfl ds_X10_in ⟨Nat.le_of_ble_eq_true rfl, Nat.le_of_ble_eq_true rfl⟩) [] rfl rfl rfl hl.1 rfl (Nat.le_of_ble_eq_true rfl) dX10_again_4 ⟨Nat.zero_le _, Nat.zero_le _⟩ ?_
  refine lv_if_ne (tgt := 12) hx hb dX10_again_7 (by decide) (fun hc => ?_) (fun hc => ?_)
  · replace h := if_f hc h
    refine lv_aload_n hx hb dX10_again_12 rfl (lv_at hl 0 rfl) ?_
    refine z_get S hw F67 0 rfl rfl dX10_again_13 ?_
    refine lv_iload_n hx hb dX10_again_16 rfl (lv_at hl 1 rfl) ?_
    obtain ⟨hg, h⟩ := grd_el h
    refine z_zald S hw 1 2 rfl rfl hg dX10_again_17 ?_
    refine lv_if_ne (tgt := 24) hx hb dX10_again_18 (by decide) (fun hc => ?_) (fun hc => ?_)
    · replace h := if_f hc h
      refine lv_iconst (v := (0 : Int32)) hx hb dX10_again_24 (by decide) ?_
      refine lv_istore_n (lv' := [(2, .int (0 : Int32)), (0, .ref a_this), (1, .int y1)]) hx hb dX10_again_25 rfl hl (by decide) rfl (fun ls hl => ?_)
      obtain ⟨j55_1, ej55_1, h⟩ := bnd_ex h
      have hj55_1 : ∀ (k_now_2 : (Nat → Int32)) (H : Heap) (locs : List Loc) (ls : Array Slot), j55_1 k_now_2 = some (rr, o_this_acts, o_now) → Wd D (tyA cI cJ cZ cS) A s [(a_this, .inr (10, [.int i_this_inputs, .int i_this_gates, .ref a_now, .ref a_one, .ref a_other, .ref a_next, .int i_this_readInputs, .int i_this_readGates, .ref a_readOne, .ref a_readOther, .ref a_readNext, .ref a_text, .int i_this_length, .int i_this_paths, .ref a_pathInput, .ref a_pathGates, .ref a_before, .ref a_after, .ref a_values, .ref a_taken, .ref a_waves, .int i_this_acts, .int i_this_turn, .ref a_row, .int i_this_seen, .ref a_seenPair, .ref a_seenTime, .ref a_seenLate, .long i_this_seed, .ref a_isKept, .ref a_kept])), (a_isKept, .inl (cZ, 2, .inl k_isKept)), (a_kept, .inl (cI, 32, .inl k_kept)), (a_now, .inl (cI, 32, .inl k_now_2))] H locs → lv_has ls 3 [(0, .ref a_this)] → W p l e rmX10_again s m args below meth c H locs 0 0 Q (F0 m 55 ls []) := by
        intro k_now_2 H locs ls h hw hl
        replace h := ap1 ej55_1 h
        refine lv_aload_n hx hb dX10_again_55 rfl (lv_at hl 0 rfl) ?_
        refine lv_iconst (v := (0 : Int32)) hx hb dX10_again_56 (by decide) ?_
        refine z_put S hw F118 P118 rfl rfl 0 rfl (Nat.le_of_ble_eq_true rfl) dX10_again_57 (fun H locs hw => ?_)
        refine lv_aload_n hx hb dX10_again_60 rfl (lv_at hl 0 rfl) ?_
        refine z_get S hw F115 0 rfl rfl dX10_again_61 ?_
        cases h
        exact z_iret S hQ hr hw [0, 1, 2, 3] rfl rfl dX10_again_64
      have hL26_1 : ∀ (nf : Nat) (x2_3 : Int32) (k_now_4 : (Nat → Int32)) (H : Heap) (locs : List Loc) (ls : Array Slot), f_X10_again_L26 N y1 k_kept j55_1 nf x2_3 k_now_4 = some (rr, o_this_acts, o_now) → Wd D (tyA cI cJ cZ cS) A s [(a_this, .inr (10, [.int i_this_inputs, .int i_this_gates, .ref a_now, .ref a_one, .ref a_other, .ref a_next, .int i_this_readInputs, .int i_this_readGates, .ref a_readOne, .ref a_readOther, .ref a_readNext, .ref a_text, .int i_this_length, .int i_this_paths, .ref a_pathInput, .ref a_pathGates, .ref a_before, .ref a_after, .ref a_values, .ref a_taken, .ref a_waves, .int i_this_acts, .int i_this_turn, .ref a_row, .int i_this_seen, .ref a_seenPair, .ref a_seenTime, .ref a_seenLate, .long i_this_seed, .ref a_isKept, .ref a_kept])), (a_isKept, .inl (cZ, 2, .inl k_isKept)), (a_kept, .inl (cI, 32, .inl k_kept)), (a_now, .inl (cI, 32, .inl k_now_4))] H locs → lv_has ls 3 [(0, .ref a_this), (1, .int y1), (2, .int x2_3)] → W p l e rmX10_again s m args below meth c H locs 0 0 Q (F0 m 26 ls []) := by
        intro nf
        induction nf with
        | zero =>
          intro x2_3 k_now_4 H locs ls h
          rw [f_X10_again_L26] at h
          cases h
        | succ n_26 ih_26 =>
          intro x2_3 k_now_4 H locs ls h hw hl
          rw [f_X10_again_L26] at h
          refine lv_iload_n hx hb dX10_again_26 rfl (lv_at hl 2 rfl) ?_
          refine lv_bipush (v := (16 : Int32)) hx hb dX10_again_27 (by decide) ?_
          refine lv_icmp_ge (tgt := 55) hx hb dX10_again_29 (by decide) (fun hc => ?_) (fun hc => ?_)
          · replace h := if_t hc h
            exact hj55_1 k_now_4 H locs ls h hw (lv_sub hl [0] rfl)
          · replace h := if_f hc h
            refine lv_aload_n hx hb dX10_again_32 rfl (lv_at hl 0 rfl) ?_
            refine z_get S hw F7 0 rfl rfl dX10_again_33 ?_
            refine lv_iload_n hx hb dX10_again_36 rfl (lv_at hl 2 rfl) ?_
            refine lv_aload_n hx hb dX10_again_37 rfl (lv_at hl 0 rfl) ?_
            refine z_get S hw F71 0 rfl rfl dX10_again_38 ?_
            refine lv_bipush (v := (16 : Int32)) hx hb dX10_again_41 (by decide) ?_
            refine lv_iload_n hx hb dX10_again_43 rfl (lv_at hl 1 rfl) ?_
            refine lv_imul hx hb dX10_again_44 ?_
            refine lv_iload_n hx hb dX10_again_45 rfl (lv_at hl 2 rfl) ?_
            refine lv_iadd hx hb dX10_again_46 ?_
            obtain ⟨hg, h⟩ := grd_el h
            refine z_iald S hw 2 0 rfl rfl hg dX10_again_47 ?_
            obtain ⟨hg, h⟩ := grd_el h
            obtain ⟨k_now_5, ek_now_5, h⟩ := bnd_ex h
            refine z_iast S hw ek_now_5 3 0 rfl rfl hg dX10_again_48 (fun H locs hw => ?_)
            obtain ⟨x2_6, ex2_6, h⟩ := bnd_ex h
            refine lv_iinc (v := x2_6) (lv' := [(2, .int x2_6), (0, .ref a_this), (1, .int y1)]) hx hb dX10_again_49 hl (k := 2) rfl (by rw [ex2_6]; rfl) (by decide) rfl (fun ls hl => ?_)
            refine lv_goto (tgt := 26) hx hb dX10_again_52 (by decide) ?_
            exact ih_26 x2_6 k_now_5 H locs ls h hw (lv_sub hl [1, 2, 0] rfl)
      exact hL26_1 N ((0 : Int32)) k_now H locs ls h hw (lv_sub hl [1, 2, 0] rfl)
    · replace h := if_t hc h
      refine lv_bipush (v := (-3 : Int32)) hx hb dX10_again_21 (by decide) ?_
      cases h
      exact z_iret S hQ hr hw [0, 1, 2, 3] rfl rfl dX10_again_23
  · replace h := if_t hc h
    refine lv_iconst (v := (-1 : Int32)) hx hb dX10_again_10 (by decide) ?_
    cases h
    exact z_iret S hQ hr hw [0, 1, 2, 3] rfl rfl dX10_again_11
abbrev rmX10_surelyTested : Room := { frames := 4, cells := 0, slots := 0, locals := 98 }
theorem dv_X10_surelyTested : yX10_surelyTested.cls = RX10 ∧ yX10_surelyTested.cls ≠ "java/lang/invoke/MethodHandle" ∧ yX10_surelyTested.cls ≠ "java/lang/invoke/VarHandle" ∧ (parseMethodDescriptor yX10_surelyTested.desc).map (fun d => d.parameters.length) = some 0 := by decide +kernel
noncomputable def f_X10_surelyTested_L4 (N : Nat) (i_this_inputs : Int32) (i_this_gates : Int32) (i_this_paths : Int32) (k_pathInput : (Nat → Int32)) (k_pathGates : (Nat → Int32)) (k_now : (Nat → Int32)) (k_other : (Nat → Int32)) (k_one : (Nat → Int32)) (k_next : (Nat → Int32)) (j57_1 : Int32 → (Nat → Int32) → (Nat → Int32) → (Nat → Int32) → Option (Int32 × (Nat → Int32) × (Nat → Int32) × (Nat → Int32))) : Nat → Int32 → Int32 → (Nat → Int32) → (Nat → Int32) → (Nat → Int32) → Option (Int32 × (Nat → Int32) × (Nat → Int32) × (Nat → Int32))
  | 0, _, _, _, _, _ => none
  | n_4 + 1, x1_5, x2_6, k_before_7, k_after_8, k_values_9 =>
    (if ((2 : Int32) * i_this_paths) ≤ x2_6 then (j57_1 x1_5 k_before_7 k_after_8 k_values_9) else (grd (inb (x2_6 / (2 : Int32)) 64) <| grd (inb (x2_6 / (2 : Int32)) 64) <| obd4 (f_X10_bestOn N (0 : Int32) (k_pathInput (x2_6 / (2 : Int32)).toNatClampNeg) (k_pathGates (x2_6 / (2 : Int32)).toNatClampNeg) (x2_6 - x2_6 / (2 : Int32) * (2 : Int32)) (0 : Int32) (1 : Int32) i_this_inputs i_this_gates k_now k_other k_one k_before_7 k_after_8 k_values_9 k_next) fun (r_10 : Int32) (k_before_11 : (Nat → Int32)) (k_after_12 : (Nat → Int32)) (k_values_13 : (Nat → Int32)) => bnd (fun (t_14 : Int32) (t_15 : Int32) => (bnd ((t_15 + t_14)) fun (x1_16 : Int32) => bnd (x2_6 + (1 : Int32)) fun (x2_17 : Int32) => f_X10_surelyTested_L4 N i_this_inputs i_this_gates i_this_paths k_pathInput k_pathGates k_now k_other k_one k_next j57_1 n_4 x1_16 x2_17 k_before_11 k_after_12 k_values_13)) fun (j49_1 : Int32 → Int32 → Option (Int32 × (Nat → Int32) × (Nat → Int32) × (Nat → Int32))) => (if r_10 ≤ (0 : Int32) then (j49_1 ((0 : Int32)) x1_5) else (j49_1 ((1 : Int32)) x1_5))))
noncomputable def f_X10_surelyTested (N : Nat)  (i_this_inputs : Int32) (i_this_gates : Int32) (i_this_paths : Int32) (k_pathInput : (Nat → Int32)) (k_pathGates : (Nat → Int32)) (k_now : (Nat → Int32)) (k_other : (Nat → Int32)) (k_one : (Nat → Int32)) (k_before : (Nat → Int32)) (k_after : (Nat → Int32)) (k_values : (Nat → Int32)) (k_next : (Nat → Int32)) : Option (Int32 × (Nat → Int32) × (Nat → Int32) × (Nat → Int32)) :=
  bnd (fun (x1_1 : Int32) (k_before_2 : (Nat → Int32)) (k_after_3 : (Nat → Int32)) (k_values_4 : (Nat → Int32)) => (some (x1_1, k_before_2, k_after_3, k_values_4))) fun (j57_1 : Int32 → (Nat → Int32) → (Nat → Int32) → (Nat → Int32) → Option (Int32 × (Nat → Int32) × (Nat → Int32) × (Nat → Int32))) => f_X10_surelyTested_L4 N i_this_inputs i_this_gates i_this_paths k_pathInput k_pathGates k_now k_other k_one k_next j57_1 N ((0 : Int32)) ((0 : Int32)) k_before k_after k_values
set_option maxHeartbeats 4000000 in
set_option maxRecDepth 100000 in
theorem c_X10_surelyTested (l : Launch) (D : va_G) (cI cJ cZ cS : ClassId) (sz N : Nat) (a_this a_pathInput a_pathGates a_now a_other a_one a_before a_after a_values a_next a_readOne a_readOther a_readNext a_text a_taken a_waves a_row a_seenPair a_seenTime a_seenLate a_isKept a_kept : Nat) (i_this_inputs : Int32) (i_this_gates : Int32) (i_this_readInputs : Int32) (i_this_readGates : Int32) (i_this_length : Int32) (i_this_paths : Int32) (i_this_acts : Int32) (i_this_turn : Int32) (i_this_seen : Int32) (i_this_seed : Int64) (k_pathInput : (Nat → Int32)) (k_pathGates : (Nat → Int32)) (k_now : (Nat → Int32)) (k_other : (Nat → Int32)) (k_one : (Nat → Int32)) (k_before : (Nat → Int32)) (k_after : (Nat → Int32)) (k_values : (Nat → Int32)) (k_next : (Nat → Int32))  (rr : Int32) (o_before : (Nat → Int32)) (o_after : (Nat → Int32)) (o_values : (Nat → Int32)) (hf : f_X10_surelyTested N i_this_inputs i_this_gates i_this_paths k_pathInput k_pathGates k_now k_other k_one k_before k_after k_values k_next = some (rr, o_before, o_after, o_values)) : MetI l yX10_surelyTested wsX10_surelyTested rmX10_surelyTested D (tyA cI cJ cZ cS) [(a_this, .inr (10, [.int i_this_inputs, .int i_this_gates, .ref a_now, .ref a_one, .ref a_other, .ref a_next, .int i_this_readInputs, .int i_this_readGates, .ref a_readOne, .ref a_readOther, .ref a_readNext, .ref a_text, .int i_this_length, .int i_this_paths, .ref a_pathInput, .ref a_pathGates, .ref a_before, .ref a_after, .ref a_values, .ref a_taken, .ref a_waves, .int i_this_acts, .int i_this_turn, .ref a_row, .int i_this_seen, .ref a_seenPair, .ref a_seenTime, .ref a_seenLate, .long i_this_seed, .ref a_isKept, .ref a_kept])), (a_pathInput, .inl (cI, 64, .inl k_pathInput)), (a_pathGates, .inl (cI, 64, .inl k_pathGates)), (a_now, .inl (cI, 32, .inl k_now)), (a_other, .inl (cI, 8, .inl k_other)), (a_one, .inl (cI, 8, .inl k_one)), (a_before, .inl (cI, 12, .inl k_before)), (a_after, .inl (cI, 12, .inl k_after)), (a_values, .inl (cI, 12, .inl k_values)), (a_next, .inl (cI, 4, .inl k_next))] sz [.ref a_this] rr [(a_this, .inr (10, [.int i_this_inputs, .int i_this_gates, .ref a_now, .ref a_one, .ref a_other, .ref a_next, .int i_this_readInputs, .int i_this_readGates, .ref a_readOne, .ref a_readOther, .ref a_readNext, .ref a_text, .int i_this_length, .int i_this_paths, .ref a_pathInput, .ref a_pathGates, .ref a_before, .ref a_after, .ref a_values, .ref a_taken, .ref a_waves, .int i_this_acts, .int i_this_turn, .ref a_row, .int i_this_seen, .ref a_seenPair, .ref a_seenTime, .ref a_seenLate, .long i_this_seed, .ref a_isKept, .ref a_kept])), (a_pathInput, .inl (cI, 64, .inl k_pathInput)), (a_pathGates, .inl (cI, 64, .inl k_pathGates)), (a_now, .inl (cI, 32, .inl k_now)), (a_other, .inl (cI, 8, .inl k_other)), (a_one, .inl (cI, 8, .inl k_one)), (a_before, .inl (cI, 12, .inl o_before)), (a_after, .inl (cI, 12, .inl o_after)), (a_values, .inl (cI, 12, .inl o_values)), (a_next, .inl (cI, 4, .inl k_next))] := by
  refine entI (cc := cX10_surelyTested) (maxL := 3) (own := RX10) (by decide) rfl rfl (Nat.le_of_ble_eq_true rfl) ?_
  intro p e s m args below meth c A ls Q H locs S hr hw hl hQ
  have hx := S.1.1
  have hb := S.1.2.1
  have hts := S.1.2.2.2.2
  have hl : lv_has ls 3 [(0, .ref a_this)] := hl
  have hinX10 : ∀ w ∈ u_ws RX10 TX10 31, w ∈ wsX10_surelyTested := (fun _ h => List.mem_cons_of_mem _ (List.mem_append_right _ h))
  have F34 : FLk s args wsX10_surelyTested RX10 34 RX10 TX10 31 10 14 := ⟨hinX10, rfl, by decide, hts (.fieldLink RX10 34 "SlowPathsModel" "pathInput" "[I") (List.mem_of_getElem? (i := 2) rfl)⟩
  have F37 : FLk s args wsX10_surelyTested RX10 37 RX10 TX10 31 10 15 := ⟨hinX10, rfl, by decide, hts (.fieldLink RX10 37 "SlowPathsModel" "pathGates" "[I") (List.mem_of_getElem? (i := 3) rfl)⟩
  have F124 : FLk s args wsX10_surelyTested RX10 124 RX10 TX10 31 10 13 := ⟨hinX10, rfl, by decide, hts (.fieldLink RX10 124 "SlowPathsModel" "paths" "I") (List.mem_of_getElem? (i := 1) rfl)⟩
  have h := hf
  rw [f_X10_surelyTested] at h
  refine lv_iconst (v := (0 : Int32)) hx hb dX10_surelyTested_0 (by decide) ?_
  refine lv_istore_n (lv' := [(1, .int (0 : Int32)), (0, .ref a_this)]) hx hb dX10_surelyTested_1 rfl hl (by decide) rfl (fun ls hl => ?_)
  refine lv_iconst (v := (0 : Int32)) hx hb dX10_surelyTested_2 (by decide) ?_
  refine lv_istore_n (lv' := [(2, .int (0 : Int32)), (1, .int (0 : Int32)), (0, .ref a_this)]) hx hb dX10_surelyTested_3 rfl hl (by decide) rfl (fun ls hl => ?_)
  obtain ⟨j57_1, ej57_1, h⟩ := bnd_ex h
  have hj57_1 : ∀ (x1_1 : Int32) (k_before_2 : (Nat → Int32)) (k_after_3 : (Nat → Int32)) (k_values_4 : (Nat → Int32)) (H : Heap) (locs : List Loc) (ls : Array Slot), j57_1 x1_1 k_before_2 k_after_3 k_values_4 = some (rr, o_before, o_after, o_values) → Wd D (tyA cI cJ cZ cS) A s [(a_this, .inr (10, [.int i_this_inputs, .int i_this_gates, .ref a_now, .ref a_one, .ref a_other, .ref a_next, .int i_this_readInputs, .int i_this_readGates, .ref a_readOne, .ref a_readOther, .ref a_readNext, .ref a_text, .int i_this_length, .int i_this_paths, .ref a_pathInput, .ref a_pathGates, .ref a_before, .ref a_after, .ref a_values, .ref a_taken, .ref a_waves, .int i_this_acts, .int i_this_turn, .ref a_row, .int i_this_seen, .ref a_seenPair, .ref a_seenTime, .ref a_seenLate, .long i_this_seed, .ref a_isKept, .ref a_kept])), (a_pathInput, .inl (cI, 64, .inl k_pathInput)), (a_pathGates, .inl (cI, 64, .inl k_pathGates)), (a_now, .inl (cI, 32, .inl k_now)), (a_other, .inl (cI, 8, .inl k_other)), (a_one, .inl (cI, 8, .inl k_one)), (a_before, .inl (cI, 12, .inl k_before_2)), (a_after, .inl (cI, 12, .inl k_after_3)), (a_values, .inl (cI, 12, .inl k_values_4)), (a_next, .inl (cI, 4, .inl k_next))] H locs → lv_has ls 3 [(1, .int x1_1)] → W p l e rmX10_surelyTested s m args below meth c H locs 0 0 Q (F0 m 57 ls []) := by
    intro x1_1 k_before_2 k_after_3 k_values_4 H locs ls h hw hl
    replace h := ap4 ej57_1 h
    refine lv_iload_n hx hb dX10_surelyTested_57 rfl (lv_at hl 0 rfl) ?_
    cases h
    exact z_iret S hQ hr hw [0, 1, 2, 3, 4, 5, 6, 7, 8, 9] rfl rfl dX10_surelyTested_58
  have hL4_1 : ∀ (nf : Nat) (x1_5 : Int32) (x2_6 : Int32) (k_before_7 : (Nat → Int32)) (k_after_8 : (Nat → Int32)) (k_values_9 : (Nat → Int32)) (H : Heap) (locs : List Loc) (ls : Array Slot), f_X10_surelyTested_L4 N i_this_inputs i_this_gates i_this_paths k_pathInput k_pathGates k_now k_other k_one k_next j57_1 nf x1_5 x2_6 k_before_7 k_after_8 k_values_9 = some (rr, o_before, o_after, o_values) → Wd D (tyA cI cJ cZ cS) A s [(a_this, .inr (10, [.int i_this_inputs, .int i_this_gates, .ref a_now, .ref a_one, .ref a_other, .ref a_next, .int i_this_readInputs, .int i_this_readGates, .ref a_readOne, .ref a_readOther, .ref a_readNext, .ref a_text, .int i_this_length, .int i_this_paths, .ref a_pathInput, .ref a_pathGates, .ref a_before, .ref a_after, .ref a_values, .ref a_taken, .ref a_waves, .int i_this_acts, .int i_this_turn, .ref a_row, .int i_this_seen, .ref a_seenPair, .ref a_seenTime, .ref a_seenLate, .long i_this_seed, .ref a_isKept, .ref a_kept])), (a_pathInput, .inl (cI, 64, .inl k_pathInput)), (a_pathGates, .inl (cI, 64, .inl k_pathGates)), (a_now, .inl (cI, 32, .inl k_now)), (a_other, .inl (cI, 8, .inl k_other)), (a_one, .inl (cI, 8, .inl k_one)), (a_before, .inl (cI, 12, .inl k_before_7)), (a_after, .inl (cI, 12, .inl k_after_8)), (a_values, .inl (cI, 12, .inl k_values_9)), (a_next, .inl (cI, 4, .inl k_next))] H locs → lv_has ls 3 [(0, .ref a_this), (1, .int x1_5), (2, .int x2_6)] → W p l e rmX10_surelyTested s m args below meth c H locs 0 0 Q (F0 m 4 ls []) := by
    intro nf
    induction nf with
    | zero =>
      intro x1_5 x2_6 k_before_7 k_after_8 k_values_9 H locs ls h
      rw [f_X10_surelyTested_L4] at h
      cases h
    | succ n_4 ih_4 =>
      intro x1_5 x2_6 k_before_7 k_after_8 k_values_9 H locs ls h hw hl
      rw [f_X10_surelyTested_L4] at h
      refine lv_iload_n hx hb dX10_surelyTested_4 rfl (lv_at hl 2 rfl) ?_
      refine lv_iconst (v := (2 : Int32)) hx hb dX10_surelyTested_5 (by decide) ?_
      refine lv_aload_n hx hb dX10_surelyTested_6 rfl (lv_at hl 0 rfl) ?_
      refine z_get S hw F124 0 rfl rfl dX10_surelyTested_7 ?_
      refine lv_imul hx hb dX10_surelyTested_10 ?_
      refine lv_icmp_ge (tgt := 57) hx hb dX10_surelyTested_11 (by decide) (fun hc => ?_) (fun hc => ?_)
      · replace h := if_t hc h
        exact hj57_1 x1_5 k_before_7 k_after_8 k_values_9 H locs ls h hw (lv_sub hl [1] rfl)
      · replace h := if_f hc h
        refine lv_iload_n hx hb dX10_surelyTested_14 rfl (lv_at hl 1 rfl) ?_
        refine lv_aload_n hx hb dX10_surelyTested_15 rfl (lv_at hl 0 rfl) ?_
        refine lv_iconst (v := (0 : Int32)) hx hb dX10_surelyTested_16 (by decide) ?_
        refine lv_aload_n hx hb dX10_surelyTested_17 rfl (lv_at hl 0 rfl) ?_
        refine z_get S hw F34 0 rfl rfl dX10_surelyTested_18 ?_
        refine lv_iload_n hx hb dX10_surelyTested_21 rfl (lv_at hl 2 rfl) ?_
        refine lv_iconst (v := (2 : Int32)) hx hb dX10_surelyTested_22 (by decide) ?_
        refine lv_idiv hx hb dX10_surelyTested_23 (by decide) ?_
        obtain ⟨hg, h⟩ := grd_el h
        refine z_iald S hw 1 0 rfl rfl hg dX10_surelyTested_24 ?_
        refine lv_aload_n hx hb dX10_surelyTested_25 rfl (lv_at hl 0 rfl) ?_
        refine z_get S hw F37 0 rfl rfl dX10_surelyTested_26 ?_
        refine lv_iload_n hx hb dX10_surelyTested_29 rfl (lv_at hl 2 rfl) ?_
        refine lv_iconst (v := (2 : Int32)) hx hb dX10_surelyTested_30 (by decide) ?_
        refine lv_idiv hx hb dX10_surelyTested_31 (by decide) ?_
        obtain ⟨hg, h⟩ := grd_el h
        refine z_iald S hw 2 0 rfl rfl hg dX10_surelyTested_32 ?_
        refine lv_iload_n hx hb dX10_surelyTested_33 rfl (lv_at hl 2 rfl) ?_
        refine lv_iconst (v := (2 : Int32)) hx hb dX10_surelyTested_34 (by decide) ?_
        refine lv_irem hx hb dX10_surelyTested_35 (by decide) ?_
        refine lv_iconst (v := (0 : Int32)) hx hb dX10_surelyTested_36 (by decide) ?_
        refine lv_iconst (v := (1 : Int32)) hx hb dX10_surelyTested_37 (by decide) ?_
        obtain ⟨r_10, k_before_11, k_after_12, k_values_13, e38_1, h⟩ := obd4_el h
        refine zc_VI (As := [.int (0 : Int32), .int (k_pathInput (x2_6 / (2 : Int32)).toNatClampNeg), .int (k_pathGates (x2_6 / (2 : Int32)).toNatClampNeg), .int (x2_6 - x2_6 / (2 : Int32) * (2 : Int32)), .int (0 : Int32), .int (1 : Int32)]) (rest := [.int x1_5]) (wr := [(a_pathInput, .inl (cI, 64, .inl k_pathInput)), (a_pathGates, .inl (cI, 64, .inl k_pathGates))]) (q0 := 0) S hw (c_X10_bestOn l D cI cJ cZ cS H.size N a_this a_now a_other a_one a_before a_after a_values a_next a_readOne a_readOther a_readNext a_text a_pathInput a_pathGates a_taken a_waves a_row a_seenPair a_seenTime a_seenLate a_isKept a_kept i_this_inputs i_this_gates i_this_readInputs i_this_readGates i_this_length i_this_paths i_this_acts i_this_turn i_this_seen i_this_seed k_now k_other k_one k_before_7 k_after_8 k_values_9 k_next (0 : Int32) (k_pathInput (x2_6 / (2 : Int32)).toNatClampNeg) (k_pathGates (x2_6 / (2 : Int32)).toNatClampNeg) (x2_6 - x2_6 / (2 : Int32) * (2 : Int32)) (0 : Int32) (1 : Int32) r_10 k_before_11 k_after_12 k_values_13 e38_1) (cwV 6 hts gX10_surelyTested_X10_bestOn rfl rfl rfl dv_X10_bestOn ⟨Nat.le_of_ble_eq_true rfl, Nat.le_of_ble_eq_true rfl⟩) [0, 3, 4, 5, 6, 7, 8, 9] [1, 2] rfl rfl rfl rfl (by decide) rfl rfl rfl rfl hl.1 rfl (Nat.le_of_ble_eq_true rfl) dX10_surelyTested_38 ⟨Nat.zero_le _, Nat.zero_le _⟩ (fun H locs hw => ?_)
        obtain ⟨j49_1, ej49_1, h⟩ := bnd_ex h
        have hj49_1 : ∀ (t_14 : Int32) (t_15 : Int32) (H : Heap) (locs : List Loc) (ls : Array Slot), j49_1 t_14 t_15 = some (rr, o_before, o_after, o_values) → Wd D (tyA cI cJ cZ cS) A s [(a_this, .inr (10, [.int i_this_inputs, .int i_this_gates, .ref a_now, .ref a_one, .ref a_other, .ref a_next, .int i_this_readInputs, .int i_this_readGates, .ref a_readOne, .ref a_readOther, .ref a_readNext, .ref a_text, .int i_this_length, .int i_this_paths, .ref a_pathInput, .ref a_pathGates, .ref a_before, .ref a_after, .ref a_values, .ref a_taken, .ref a_waves, .int i_this_acts, .int i_this_turn, .ref a_row, .int i_this_seen, .ref a_seenPair, .ref a_seenTime, .ref a_seenLate, .long i_this_seed, .ref a_isKept, .ref a_kept])), (a_pathInput, .inl (cI, 64, .inl k_pathInput)), (a_pathGates, .inl (cI, 64, .inl k_pathGates)), (a_now, .inl (cI, 32, .inl k_now)), (a_other, .inl (cI, 8, .inl k_other)), (a_one, .inl (cI, 8, .inl k_one)), (a_before, .inl (cI, 12, .inl k_before_11)), (a_after, .inl (cI, 12, .inl k_after_12)), (a_values, .inl (cI, 12, .inl k_values_13)), (a_next, .inl (cI, 4, .inl k_next))] H locs → lv_has ls 3 [(0, .ref a_this), (2, .int x2_6)] → W p l e rmX10_surelyTested s m args below meth c H locs 0 0 Q (F0 m 49 ls [.int t_14, .int t_15]) := by
          intro t_14 t_15 H locs ls h hw hl
          replace h := ap2 ej49_1 h
          refine lv_iadd hx hb dX10_surelyTested_49 ?_
          refine lv_topi (fun x1_16 ex1_16 => ?_)
          replace h := bnd_at ex1_16 h
          refine lv_istore_n (lv' := [(1, .int x1_16), (0, .ref a_this), (2, .int x2_6)]) hx hb dX10_surelyTested_50 rfl hl (by decide) rfl (fun ls hl => ?_)
          obtain ⟨x2_17, ex2_17, h⟩ := bnd_ex h
          refine lv_iinc (v := x2_17) (lv' := [(2, .int x2_17), (1, .int x1_16), (0, .ref a_this)]) hx hb dX10_surelyTested_51 hl (k := 2) rfl (by rw [ex2_17]; rfl) (by decide) rfl (fun ls hl => ?_)
          refine lv_goto (tgt := 4) hx hb dX10_surelyTested_54 (by decide) ?_
          exact ih_4 x1_16 x2_17 k_before_11 k_after_12 k_values_13 H locs ls h hw (lv_sub hl [2, 1, 0] rfl)
        refine lv_if_le (tgt := 48) hx hb dX10_surelyTested_41 (by decide) (fun hc => ?_) (fun hc => ?_)
        · replace h := if_t hc h
          refine lv_iconst (v := (0 : Int32)) hx hb dX10_surelyTested_48 (by decide) ?_
          exact hj49_1 ((0 : Int32)) x1_5 H locs ls h (hw.sub [2, 0, 1, 3, 4, 5, 6, 7, 8, 9] rfl rfl) (lv_sub hl [0, 2] rfl)
        · replace h := if_f hc h
          refine lv_iconst (v := (1 : Int32)) hx hb dX10_surelyTested_44 (by decide) ?_
          refine lv_goto (tgt := 49) hx hb dX10_surelyTested_45 (by decide) ?_
          exact hj49_1 ((1 : Int32)) x1_5 H locs ls h (hw.sub [2, 0, 1, 3, 4, 5, 6, 7, 8, 9] rfl rfl) (lv_sub hl [0, 2] rfl)
  exact hL4_1 N ((0 : Int32)) ((0 : Int32)) k_before k_after k_values H locs ls h hw (lv_sub hl [2, 1, 0] rfl)
abbrev rmX10_delays : Room := { frames := 0, cells := 0, slots := 0, locals := 0 }
theorem dv_X10_delays : yX10_delays.cls = RX10 ∧ yX10_delays.cls ≠ "java/lang/invoke/MethodHandle" ∧ yX10_delays.cls ≠ "java/lang/invoke/VarHandle" ∧ (parseMethodDescriptor yX10_delays.desc).map (fun d => d.parameters.length) = some 0 := by decide +kernel
noncomputable def f_X10_delays_L4 (N : Nat) (i_this_gates : Int32) (k_now : (Nat → Int32)) (j30_1 : Int32 → Option (Int32)) : Nat → Int32 → Int32 → Option (Int32)
  | 0, _, _ => none
  | n_4 + 1, x1_2, x2_3 =>
    (if i_this_gates ≤ x2_3 then (j30_1 x1_2) else (grd (inb ((8 : Int32) + x2_3) 32) <| bnd ((x1_2 + (k_now ((8 : Int32) + x2_3).toNatClampNeg))) fun (x1_4 : Int32) => bnd (x2_3 + (1 : Int32)) fun (x2_5 : Int32) => f_X10_delays_L4 N i_this_gates k_now j30_1 n_4 x1_4 x2_5))
noncomputable def f_X10_delays (N : Nat)  (i_this_gates : Int32) (k_now : (Nat → Int32)) : Option (Int32) :=
  bnd (fun (x1_1 : Int32) => (some (x1_1))) fun (j30_1 : Int32 → Option (Int32)) => f_X10_delays_L4 N i_this_gates k_now j30_1 N ((0 : Int32)) ((0 : Int32))
set_option maxHeartbeats 4000000 in
set_option maxRecDepth 100000 in
theorem c_X10_delays (l : Launch) (D : va_G) (cI cJ cZ cS : ClassId) (sz N : Nat) (a_this a_now a_one a_other a_next a_readOne a_readOther a_readNext a_text a_pathInput a_pathGates a_before a_after a_values a_taken a_waves a_row a_seenPair a_seenTime a_seenLate a_isKept a_kept : Nat) (i_this_inputs : Int32) (i_this_gates : Int32) (i_this_readInputs : Int32) (i_this_readGates : Int32) (i_this_length : Int32) (i_this_paths : Int32) (i_this_acts : Int32) (i_this_turn : Int32) (i_this_seen : Int32) (i_this_seed : Int64) (k_now : (Nat → Int32))  (rr : Int32) (hf : f_X10_delays N i_this_gates k_now = some (rr)) : MetIr l yX10_delays wsX10_delays rmX10_delays D (tyA cI cJ cZ cS) [(a_this, .inr (10, [.int i_this_inputs, .int i_this_gates, .ref a_now, .ref a_one, .ref a_other, .ref a_next, .int i_this_readInputs, .int i_this_readGates, .ref a_readOne, .ref a_readOther, .ref a_readNext, .ref a_text, .int i_this_length, .int i_this_paths, .ref a_pathInput, .ref a_pathGates, .ref a_before, .ref a_after, .ref a_values, .ref a_taken, .ref a_waves, .int i_this_acts, .int i_this_turn, .ref a_row, .int i_this_seen, .ref a_seenPair, .ref a_seenTime, .ref a_seenLate, .long i_this_seed, .ref a_isKept, .ref a_kept])), (a_now, .inl (cI, 32, .inl k_now))] sz [.ref a_this] rr := by
  refine entIr (cc := cX10_delays) (maxL := 3) (own := RX10) (by decide) rfl rfl (Nat.le_of_ble_eq_true rfl) ?_
  intro p e s m args below meth c A ls Q S hr hw hl hQ
  have hx := S.1.1
  have hb := S.1.2.1
  have hts := S.1.2.2.2.2
  have hl : lv_has ls 3 [(0, .ref a_this)] := hl
  have hinX10 : ∀ w ∈ u_ws RX10 TX10 31, w ∈ wsX10_delays := (fun _ h => List.mem_cons_of_mem _ (List.mem_append_right _ h))
  have F7 : FLk s args wsX10_delays RX10 7 RX10 TX10 31 10 2 := ⟨hinX10, rfl, by decide, hts (.fieldLink RX10 7 "SlowPathsModel" "now" "[I") (List.mem_of_getElem? (i := 2) rfl)⟩
  have F115 : FLk s args wsX10_delays RX10 115 RX10 TX10 31 10 1 := ⟨hinX10, rfl, by decide, hts (.fieldLink RX10 115 "SlowPathsModel" "gates" "I") (List.mem_of_getElem? (i := 1) rfl)⟩
  have h := hf
  rw [f_X10_delays] at h
  refine lv_iconst (v := (0 : Int32)) hx hb dX10_delays_0 (by decide) ?_
  refine lv_istore_n (lv' := [(1, .int (0 : Int32)), (0, .ref a_this)]) hx hb dX10_delays_1 rfl hl (by decide) rfl (fun ls hl => ?_)
  refine lv_iconst (v := (0 : Int32)) hx hb dX10_delays_2 (by decide) ?_
  refine lv_istore_n (lv' := [(2, .int (0 : Int32)), (1, .int (0 : Int32)), (0, .ref a_this)]) hx hb dX10_delays_3 rfl hl (by decide) rfl (fun ls hl => ?_)
  obtain ⟨j30_1, ej30_1, h⟩ := bnd_ex h
  have hj30_1 : ∀ (x1_1 : Int32) (ls : Array Slot), j30_1 x1_1 = some (rr) → lv_has ls 3 [(1, .int x1_1)] → W p l e rmX10_delays s m args below meth c s.heap [] 0 0 Q (F0 m 30 ls []) := by
    intro x1_1 ls h hl
    replace h := ap1 ej30_1 h
    refine lv_iload_n hx hb dX10_delays_30 rfl (lv_at hl 0 rfl) ?_
    cases h
    exact z_iretr S hQ hr dX10_delays_31
  have hL4_1 : ∀ (nf : Nat) (x1_2 : Int32) (x2_3 : Int32) (ls : Array Slot), f_X10_delays_L4 N i_this_gates k_now j30_1 nf x1_2 x2_3 = some (rr) → lv_has ls 3 [(0, .ref a_this), (1, .int x1_2), (2, .int x2_3)] → W p l e rmX10_delays s m args below meth c s.heap [] 0 0 Q (F0 m 4 ls []) := by
    intro nf
    induction nf with
    | zero =>
      intro x1_2 x2_3 ls h
      rw [f_X10_delays_L4] at h
      cases h
    | succ n_4 ih_4 =>
      intro x1_2 x2_3 ls h hl
      rw [f_X10_delays_L4] at h
      refine lv_iload_n hx hb dX10_delays_4 rfl (lv_at hl 2 rfl) ?_
      refine lv_aload_n hx hb dX10_delays_5 rfl (lv_at hl 0 rfl) ?_
      refine z_get S hw F115 0 rfl rfl dX10_delays_6 ?_
      refine lv_icmp_ge (tgt := 30) hx hb dX10_delays_9 (by decide) (fun hc => ?_) (fun hc => ?_)
      · replace h := if_t hc h
        exact hj30_1 x1_2 ls h (lv_sub hl [1] rfl)
      · replace h := if_f hc h
        refine lv_iload_n hx hb dX10_delays_12 rfl (lv_at hl 1 rfl) ?_
        refine lv_aload_n hx hb dX10_delays_13 rfl (lv_at hl 0 rfl) ?_
        refine z_get S hw F7 0 rfl rfl dX10_delays_14 ?_
        refine lv_bipush (v := (8 : Int32)) hx hb dX10_delays_17 (by decide) ?_
        refine lv_iload_n hx hb dX10_delays_19 rfl (lv_at hl 2 rfl) ?_
        refine lv_iadd hx hb dX10_delays_20 ?_
        obtain ⟨hg, h⟩ := grd_el h
        refine z_iald S hw 1 0 rfl rfl hg dX10_delays_21 ?_
        refine lv_iadd hx hb dX10_delays_22 ?_
        refine lv_topi (fun x1_4 ex1_4 => ?_)
        replace h := bnd_at ex1_4 h
        refine lv_istore_n (lv' := [(1, .int x1_4), (0, .ref a_this), (2, .int x2_3)]) hx hb dX10_delays_23 rfl hl (by decide) rfl (fun ls hl => ?_)
        obtain ⟨x2_5, ex2_5, h⟩ := bnd_ex h
        refine lv_iinc (v := x2_5) (lv' := [(2, .int x2_5), (1, .int x1_4), (0, .ref a_this)]) hx hb dX10_delays_24 hl (k := 2) rfl (by rw [ex2_5]; rfl) (by decide) rfl (fun ls hl => ?_)
        refine lv_goto (tgt := 4) hx hb dX10_delays_27 (by decide) ?_
        exact ih_4 x1_4 x2_5 ls h (lv_sub hl [2, 1, 0] rfl)
  exact hL4_1 N ((0 : Int32)) ((0 : Int32)) ls h (lv_sub hl [2, 1, 0] rfl)
abbrev rmX10_count : Room := { frames := 5, cells := 0, slots := 0, locals := 120 }
theorem dv_X10_count : yX10_count.cls = RX10 ∧ yX10_count.cls ≠ "java/lang/invoke/MethodHandle" ∧ yX10_count.cls ≠ "java/lang/invoke/VarHandle" ∧ (parseMethodDescriptor yX10_count.desc).map (fun d => d.parameters.length) = some 1 := by decide +kernel
noncomputable def f_X10_count (N : Nat) (y1 : Int32) (i_this_inputs : Int32) (i_this_gates : Int32) (i_this_length : Int32) (i_this_paths : Int32) (i_this_acts : Int32) (i_this_seen : Int32) (k_pathInput : (Nat → Int32)) (k_pathGates : (Nat → Int32)) (k_now : (Nat → Int32)) (k_other : (Nat → Int32)) (k_one : (Nat → Int32)) (k_before : (Nat → Int32)) (k_after : (Nat → Int32)) (k_values : (Nat → Int32)) (k_next : (Nat → Int32)) : Option (Int32 × (Nat → Int32) × (Nat → Int32) × (Nat → Int32)) :=
  obd1 (f_X10_in N (y1.toInt64) (8 : Int64) (11 : Int64)) fun (r_1 : Int32) => (if r_1 = (0 : Int32) then ((if y1 = (0 : Int32) then (some (i_this_length, k_before, k_after, k_values)) else (if y1 = (1 : Int32) then (some (i_this_inputs, k_before, k_after, k_values)) else (if y1 = (2 : Int32) then (some (i_this_gates, k_before, k_after, k_values)) else (if y1 = (3 : Int32) then (some (i_this_paths, k_before, k_after, k_values)) else (if y1 = (4 : Int32) then (obd4 (f_X10_surelyTested N i_this_inputs i_this_gates i_this_paths k_pathInput k_pathGates k_now k_other k_one k_before k_after k_values k_next) fun (r_2 : Int32) (k_before_3 : (Nat → Int32)) (k_after_4 : (Nat → Int32)) (k_values_5 : (Nat → Int32)) => some (r_2, k_before_3, k_after_4, k_values_5)) else (if y1 = (5 : Int32) then (obd1 (f_X10_delays N i_this_gates k_now) fun (r_6 : Int32) => some (r_6, k_before, k_after, k_values)) else (if y1 = (6 : Int32) then (some (i_this_acts, k_before, k_after, k_values)) else (if y1 = (7 : Int32) then (some (i_this_seen, k_before, k_after, k_values)) else some ((-2 : Int32), k_before, k_after, k_values)))))))))) else ((if i_this_inputs ≤ (y1 - (8 : Int32)) then (some ((-9 : Int32), k_before, k_after, k_values)) else (grd (inb (y1 - (8 : Int32)) 4) <| obd1 (f_X10_told N (k_next (y1 - (8 : Int32)).toNatClampNeg)) fun (r_7 : Int32) => some (r_7, k_before, k_after, k_values)))))
set_option maxHeartbeats 4000000 in
set_option maxRecDepth 100000 in
theorem c_X10_count (l : Launch) (D : va_G) (cI cJ cZ cS : ClassId) (sz N : Nat) (a_this a_pathInput a_pathGates a_now a_other a_one a_before a_after a_values a_next a_readOne a_readOther a_readNext a_text a_taken a_waves a_row a_seenPair a_seenTime a_seenLate a_isKept a_kept : Nat) (i_this_inputs : Int32) (i_this_gates : Int32) (i_this_readInputs : Int32) (i_this_readGates : Int32) (i_this_length : Int32) (i_this_paths : Int32) (i_this_acts : Int32) (i_this_turn : Int32) (i_this_seen : Int32) (i_this_seed : Int64) (k_pathInput : (Nat → Int32)) (k_pathGates : (Nat → Int32)) (k_now : (Nat → Int32)) (k_other : (Nat → Int32)) (k_one : (Nat → Int32)) (k_before : (Nat → Int32)) (k_after : (Nat → Int32)) (k_values : (Nat → Int32)) (k_next : (Nat → Int32)) (y1 : Int32) (rr : Int32) (o_before : (Nat → Int32)) (o_after : (Nat → Int32)) (o_values : (Nat → Int32)) (hf : f_X10_count N y1 i_this_inputs i_this_gates i_this_length i_this_paths i_this_acts i_this_seen k_pathInput k_pathGates k_now k_other k_one k_before k_after k_values k_next = some (rr, o_before, o_after, o_values)) : MetI l yX10_count wsX10_count rmX10_count D (tyA cI cJ cZ cS) [(a_this, .inr (10, [.int i_this_inputs, .int i_this_gates, .ref a_now, .ref a_one, .ref a_other, .ref a_next, .int i_this_readInputs, .int i_this_readGates, .ref a_readOne, .ref a_readOther, .ref a_readNext, .ref a_text, .int i_this_length, .int i_this_paths, .ref a_pathInput, .ref a_pathGates, .ref a_before, .ref a_after, .ref a_values, .ref a_taken, .ref a_waves, .int i_this_acts, .int i_this_turn, .ref a_row, .int i_this_seen, .ref a_seenPair, .ref a_seenTime, .ref a_seenLate, .long i_this_seed, .ref a_isKept, .ref a_kept])), (a_pathInput, .inl (cI, 64, .inl k_pathInput)), (a_pathGates, .inl (cI, 64, .inl k_pathGates)), (a_now, .inl (cI, 32, .inl k_now)), (a_other, .inl (cI, 8, .inl k_other)), (a_one, .inl (cI, 8, .inl k_one)), (a_before, .inl (cI, 12, .inl k_before)), (a_after, .inl (cI, 12, .inl k_after)), (a_values, .inl (cI, 12, .inl k_values)), (a_next, .inl (cI, 4, .inl k_next))] sz [.ref a_this, .int y1] rr [(a_this, .inr (10, [.int i_this_inputs, .int i_this_gates, .ref a_now, .ref a_one, .ref a_other, .ref a_next, .int i_this_readInputs, .int i_this_readGates, .ref a_readOne, .ref a_readOther, .ref a_readNext, .ref a_text, .int i_this_length, .int i_this_paths, .ref a_pathInput, .ref a_pathGates, .ref a_before, .ref a_after, .ref a_values, .ref a_taken, .ref a_waves, .int i_this_acts, .int i_this_turn, .ref a_row, .int i_this_seen, .ref a_seenPair, .ref a_seenTime, .ref a_seenLate, .long i_this_seed, .ref a_isKept, .ref a_kept])), (a_pathInput, .inl (cI, 64, .inl k_pathInput)), (a_pathGates, .inl (cI, 64, .inl k_pathGates)), (a_now, .inl (cI, 32, .inl k_now)), (a_other, .inl (cI, 8, .inl k_other)), (a_one, .inl (cI, 8, .inl k_one)), (a_before, .inl (cI, 12, .inl o_before)), (a_after, .inl (cI, 12, .inl o_after)), (a_values, .inl (cI, 12, .inl o_values)), (a_next, .inl (cI, 4, .inl k_next))] := by
  refine entI (cc := cX10_count) (maxL := 2) (own := RX10) (by decide) rfl rfl (Nat.le_of_ble_eq_true rfl) ?_
  intro p e s m args below meth c A ls Q H locs S hr hw hl hQ
  have hx := S.1.1
  have hb := S.1.2.1
  have hts := S.1.2.2.2.2
  have hl : lv_has ls 2 [(0, .ref a_this), (1, .int y1)] := hl
  have hinX10 : ∀ w ∈ u_ws RX10 TX10 31, w ∈ wsX10_count := (fun _ h => List.mem_cons_of_mem _ (List.mem_append_right _ h))
  have F19 : FLk s args wsX10_count RX10 19 RX10 TX10 31 10 5 := ⟨hinX10, rfl, by decide, hts (.fieldLink RX10 19 "SlowPathsModel" "next" "[I") (List.mem_of_getElem? (i := 4) rfl)⟩
  have F80 : FLk s args wsX10_count RX10 80 RX10 TX10 31 10 12 := ⟨hinX10, rfl, by decide, hts (.fieldLink RX10 80 "SlowPathsModel" "length" "I") (List.mem_of_getElem? (i := 5) rfl)⟩
  have F112 : FLk s args wsX10_count RX10 112 RX10 TX10 31 10 0 := ⟨hinX10, rfl, by decide, hts (.fieldLink RX10 112 "SlowPathsModel" "inputs" "I") (List.mem_of_getElem? (i := 3) rfl)⟩
  have F115 : FLk s args wsX10_count RX10 115 RX10 TX10 31 10 1 := ⟨hinX10, rfl, by decide, hts (.fieldLink RX10 115 "SlowPathsModel" "gates" "I") (List.mem_of_getElem? (i := 6) rfl)⟩
  have F118 : FLk s args wsX10_count RX10 118 RX10 TX10 31 10 21 := ⟨hinX10, rfl, by decide, hts (.fieldLink RX10 118 "SlowPathsModel" "acts" "I") (List.mem_of_getElem? (i := 8) rfl)⟩
  have F124 : FLk s args wsX10_count RX10 124 RX10 TX10 31 10 13 := ⟨hinX10, rfl, by decide, hts (.fieldLink RX10 124 "SlowPathsModel" "paths" "I") (List.mem_of_getElem? (i := 7) rfl)⟩
  have F244 : FLk s args wsX10_count RX10 244 RX10 TX10 31 10 24 := ⟨hinX10, rfl, by decide, hts (.fieldLink RX10 244 "SlowPathsModel" "seen" "I") (List.mem_of_getElem? (i := 9) rfl)⟩
  have h := hf
  rw [f_X10_count] at h
  refine lv_iload_n hx hb dX10_count_0 rfl (lv_at hl 1 rfl) ?_
  refine lv_i2l hx hb dX10_count_1 rfl ?_
  refine lv_ldc2 (v := (8 : Int64)) hx hb S.1.2.2.2.1 (hts (.constantLong RX10 268 (8)) (List.mem_of_getElem? (i := 1) rfl)) dX10_count_2 ?_
  refine lv_ldc2 (v := (11 : Int64)) hx hb S.1.2.2.2.1 (hts (.constantLong RX10 270 (11)) (List.mem_of_getElem? (i := 2) rfl)) dX10_count_5 ?_
  obtain ⟨r_1, e8_1, h⟩ := obd1_el h
  refine zr_SI (As := [.long (y1.toInt64), .long (8 : Int64), .long (11 : Int64)]) (rest := []) (q0 := 0) (ci := 0) (fs := []) (qc := (RX0, TX0, 4)) S hw (c_X10_in l D cI cJ cZ cS H.size N (y1.toInt64) (8 : Int64) (11 : Int64) r_1 e8_1) (va_cwS 3 hts gX10_count_X10_in rfl rfl rfl ds_X10_in ⟨Nat.le_of_ble_eq_true rfl, Nat.le_of_ble_eq_true rfl⟩) [] rfl rfl rfl hl.1 rfl (Nat.le_of_ble_eq_true rfl) dX10_count_8 ⟨Nat.zero_le _, Nat.zero_le _⟩ ?_
  refine lv_if_eq (tgt := 43) hx hb dX10_count_11 (by decide) (fun hc => ?_) (fun hc => ?_)
  · replace h := if_t hc h
    refine lv_iload_n hx hb dX10_count_43 rfl (lv_at hl 1 rfl) ?_
    by_cases hs0 : y1 = (0 : Int32)
    · replace h := if_t hs0 h
      refine lv_tableIn (off := 48) (tgt := 92) hx hb dX10_count_44 (by rw [hs0]; decide) (by rw [hs0]; decide) (by rw [hs0]; rfl) (by decide) ?_
      refine lv_aload_n hx hb dX10_count_92 rfl (lv_at hl 0 rfl) ?_
      refine z_get S hw F80 0 rfl rfl dX10_count_93 ?_
      cases h
      exact z_iret S hQ hr hw [0, 1, 2, 3, 4, 5, 6, 7, 8, 9] rfl rfl dX10_count_96
    replace h := if_f hs0 h
    by_cases hs1 : y1 = (1 : Int32)
    · replace h := if_t hs1 h
      refine lv_tableIn (off := 53) (tgt := 97) hx hb dX10_count_44 (by rw [hs1]; decide) (by rw [hs1]; decide) (by rw [hs1]; rfl) (by decide) ?_
      refine lv_aload_n hx hb dX10_count_97 rfl (lv_at hl 0 rfl) ?_
      refine z_get S hw F112 0 rfl rfl dX10_count_98 ?_
      cases h
      exact z_iret S hQ hr hw [0, 1, 2, 3, 4, 5, 6, 7, 8, 9] rfl rfl dX10_count_101
    replace h := if_f hs1 h
    by_cases hs2 : y1 = (2 : Int32)
    · replace h := if_t hs2 h
      refine lv_tableIn (off := 58) (tgt := 102) hx hb dX10_count_44 (by rw [hs2]; decide) (by rw [hs2]; decide) (by rw [hs2]; rfl) (by decide) ?_
      refine lv_aload_n hx hb dX10_count_102 rfl (lv_at hl 0 rfl) ?_
      refine z_get S hw F115 0 rfl rfl dX10_count_103 ?_
      cases h
      exact z_iret S hQ hr hw [0, 1, 2, 3, 4, 5, 6, 7, 8, 9] rfl rfl dX10_count_106
    replace h := if_f hs2 h
    by_cases hs3 : y1 = (3 : Int32)
    · replace h := if_t hs3 h
      refine lv_tableIn (off := 63) (tgt := 107) hx hb dX10_count_44 (by rw [hs3]; decide) (by rw [hs3]; decide) (by rw [hs3]; rfl) (by decide) ?_
      refine lv_aload_n hx hb dX10_count_107 rfl (lv_at hl 0 rfl) ?_
      refine z_get S hw F124 0 rfl rfl dX10_count_108 ?_
      cases h
      exact z_iret S hQ hr hw [0, 1, 2, 3, 4, 5, 6, 7, 8, 9] rfl rfl dX10_count_111
    replace h := if_f hs3 h
    by_cases hs4 : y1 = (4 : Int32)
    · replace h := if_t hs4 h
      refine lv_tableIn (off := 68) (tgt := 112) hx hb dX10_count_44 (by rw [hs4]; decide) (by rw [hs4]; decide) (by rw [hs4]; rfl) (by decide) ?_
      refine lv_aload_n hx hb dX10_count_112 rfl (lv_at hl 0 rfl) ?_
      obtain ⟨r_2, k_before_3, k_after_4, k_values_5, e113_1, h⟩ := obd4_el h
      refine zc_VI (As := []) (rest := []) (wr := []) (q0 := 0) S hw (c_X10_surelyTested l D cI cJ cZ cS H.size N a_this a_pathInput a_pathGates a_now a_other a_one a_before a_after a_values a_next a_readOne a_readOther a_readNext a_text a_taken a_waves a_row a_seenPair a_seenTime a_seenLate a_isKept a_kept i_this_inputs i_this_gates i_this_readInputs i_this_readGates i_this_length i_this_paths i_this_acts i_this_turn i_this_seen i_this_seed k_pathInput k_pathGates k_now k_other k_one k_before k_after k_values k_next r_2 k_before_3 k_after_4 k_values_5 e113_1) (cwV 0 hts gX10_count_X10_surelyTested rfl rfl rfl dv_X10_surelyTested ⟨Nat.le_of_ble_eq_true rfl, Nat.le_of_ble_eq_true rfl⟩) [0, 1, 2, 3, 4, 5, 6, 7, 8, 9] [] rfl rfl rfl rfl (by decide) rfl rfl rfl rfl hl.1 rfl (Nat.le_of_ble_eq_true rfl) dX10_count_113 ⟨Nat.zero_le _, Nat.zero_le _⟩ (fun H locs hw => ?_)
      cases h
      exact z_iret S hQ hr hw [0, 1, 2, 3, 4, 5, 6, 7, 8, 9] rfl rfl dX10_count_116
    replace h := if_f hs4 h
    by_cases hs5 : y1 = (5 : Int32)
    · replace h := if_t hs5 h
      refine lv_tableIn (off := 73) (tgt := 117) hx hb dX10_count_44 (by rw [hs5]; decide) (by rw [hs5]; decide) (by rw [hs5]; rfl) (by decide) ?_
      refine lv_aload_n hx hb dX10_count_117 rfl (lv_at hl 0 rfl) ?_
      obtain ⟨r_6, e118_1, h⟩ := obd1_el h
      refine zr_VI (As := []) (rest := []) (q0 := 0) S hw (c_X10_delays l D cI cJ cZ cS H.size N a_this a_now a_one a_other a_next a_readOne a_readOther a_readNext a_text a_pathInput a_pathGates a_before a_after a_values a_taken a_waves a_row a_seenPair a_seenTime a_seenLate a_isKept a_kept i_this_inputs i_this_gates i_this_readInputs i_this_readGates i_this_length i_this_paths i_this_acts i_this_turn i_this_seen i_this_seed k_now r_6 e118_1) (cwV 0 hts gX10_count_X10_delays rfl rfl rfl dv_X10_delays ⟨Nat.le_of_ble_eq_true rfl, Nat.le_of_ble_eq_true rfl⟩) [0, 3] rfl rfl rfl rfl rfl rfl hl.1 rfl (Nat.le_of_ble_eq_true rfl) dX10_count_118 ⟨Nat.zero_le _, Nat.zero_le _⟩ ?_
      cases h
      exact z_iret S hQ hr hw [0, 1, 2, 3, 4, 5, 6, 7, 8, 9] rfl rfl dX10_count_121
    replace h := if_f hs5 h
    by_cases hs6 : y1 = (6 : Int32)
    · replace h := if_t hs6 h
      refine lv_tableIn (off := 78) (tgt := 122) hx hb dX10_count_44 (by rw [hs6]; decide) (by rw [hs6]; decide) (by rw [hs6]; rfl) (by decide) ?_
      refine lv_aload_n hx hb dX10_count_122 rfl (lv_at hl 0 rfl) ?_
      refine z_get S hw F118 0 rfl rfl dX10_count_123 ?_
      cases h
      exact z_iret S hQ hr hw [0, 1, 2, 3, 4, 5, 6, 7, 8, 9] rfl rfl dX10_count_126
    replace h := if_f hs6 h
    by_cases hs7 : y1 = (7 : Int32)
    · replace h := if_t hs7 h
      refine lv_tableIn (off := 83) (tgt := 127) hx hb dX10_count_44 (by rw [hs7]; decide) (by rw [hs7]; decide) (by rw [hs7]; rfl) (by decide) ?_
      refine lv_aload_n hx hb dX10_count_127 rfl (lv_at hl 0 rfl) ?_
      refine z_get S hw F244 0 rfl rfl dX10_count_128 ?_
      cases h
      exact z_iret S hQ hr hw [0, 1, 2, 3, 4, 5, 6, 7, 8, 9] rfl rfl dX10_count_131
    replace h := if_f hs7 h
    refine lv_tableOut (tgt := 132) hx hb dX10_count_44 (tb_out (fun j h1 h2 => ?_)) (by decide) ?_
    · rcases (show j = 0 ∨ j = 1 ∨ j = 2 ∨ j = 3 ∨ j = 4 ∨ j = 5 ∨ j = 6 ∨ j = 7 by omega) with rfl | rfl | rfl | rfl | rfl | rfl | rfl | rfl
      · exact fun he => hs0 (he.trans (by decide))
      · exact fun he => hs1 (he.trans (by decide))
      · exact fun he => hs2 (he.trans (by decide))
      · exact fun he => hs3 (he.trans (by decide))
      · exact fun he => hs4 (he.trans (by decide))
      · exact fun he => hs5 (he.trans (by decide))
      · exact fun he => hs6 (he.trans (by decide))
      · exact fun he => hs7 (he.trans (by decide))
    refine lv_bipush (v := (-2 : Int32)) hx hb dX10_count_132 (by decide) ?_
    cases h
    exact z_iret S hQ hr hw [0, 1, 2, 3, 4, 5, 6, 7, 8, 9] rfl rfl dX10_count_134
  · replace h := if_f hc h
    refine lv_iload_n hx hb dX10_count_14 rfl (lv_at hl 1 rfl) ?_
    refine lv_bipush (v := (8 : Int32)) hx hb dX10_count_15 (by decide) ?_
    refine lv_isub hx hb dX10_count_17 ?_
    refine lv_aload_n hx hb dX10_count_18 rfl (lv_at hl 0 rfl) ?_
    refine z_get S hw F112 0 rfl rfl dX10_count_19 ?_
    refine lv_icmp_ge (tgt := 40) hx hb dX10_count_22 (by decide) (fun hc => ?_) (fun hc => ?_)
    · replace h := if_t hc h
      refine lv_bipush (v := (-9 : Int32)) hx hb dX10_count_40 (by decide) ?_
      cases h
      exact z_iret S hQ hr hw [0, 1, 2, 3, 4, 5, 6, 7, 8, 9] rfl rfl dX10_count_42
    · replace h := if_f hc h
      refine lv_aload_n hx hb dX10_count_25 rfl (lv_at hl 0 rfl) ?_
      refine z_get S hw F19 0 rfl rfl dX10_count_26 ?_
      refine lv_iload_n hx hb dX10_count_29 rfl (lv_at hl 1 rfl) ?_
      refine lv_bipush (v := (8 : Int32)) hx hb dX10_count_30 (by decide) ?_
      refine lv_isub hx hb dX10_count_32 ?_
      obtain ⟨hg, h⟩ := grd_el h
      refine z_iald S hw 9 0 rfl rfl hg dX10_count_33 ?_
      obtain ⟨r_7, e34_1, h⟩ := obd1_el h
      refine zr_SI (As := [.int (k_next (y1 - (8 : Int32)).toNatClampNeg)]) (rest := []) (q0 := 0) (ci := 0) (fs := []) (qc := (RX0, TX0, 4)) S hw (c_X10_told l D cI cJ cZ cS H.size N (k_next (y1 - (8 : Int32)).toNatClampNeg) r_7 e34_1) (va_cwS 1 hts gX10_count_X10_told rfl rfl rfl ds_X10_told ⟨Nat.le_of_ble_eq_true rfl, Nat.le_of_ble_eq_true rfl⟩) [] rfl rfl rfl hl.1 rfl (Nat.le_of_ble_eq_true rfl) dX10_count_34 ⟨Nat.zero_le _, Nat.zero_le _⟩ ?_
      refine lv_goto (tgt := 42) hx hb dX10_count_37 (by decide) ?_
      cases h
      exact z_iret S hQ hr hw [0, 1, 2, 3, 4, 5, 6, 7, 8, 9] rfl rfl dX10_count_42
