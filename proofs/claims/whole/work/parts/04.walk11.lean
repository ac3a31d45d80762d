abbrev rmX10_write : Room := { frames := 1, cells := 0, slots := 0, locals := 25 }
theorem dv_X10_write : yX10_write.cls = RX10 ∧ yX10_write.cls ≠ "java/lang/invoke/MethodHandle" ∧ yX10_write.cls ≠ "java/lang/invoke/VarHandle" ∧ (parseMethodDescriptor yX10_write.desc).map (fun d => d.parameters.length) = some 1 := by decide +kernel
noncomputable def f_X10_write (N : Nat) (y1 : Int32) (i_this_length : Int32) (k_text : (Nat → Int32)) : Option (Int32 × Int32 × (Nat → Int32)) :=
  obd1 (f_X10_in N (y1.toInt64) (0 : Int64) (255 : Int64)) fun (r_1 : Int32) => (if r_1 = (0 : Int32) then (some ((-2 : Int32), i_this_length, k_text)) else ((if i_this_length = (40 : Int32) then (some ((-4 : Int32), i_this_length, k_text)) else (grd (inb i_this_length 40) <| bnd (upd k_text i_this_length.toNatClampNeg y1) fun (k_text_2 : (Nat → Int32)) => bnd ((i_this_length + (1 : Int32))) fun (i_length_3 : Int32) => some (i_length_3, i_length_3, k_text_2)))))
set_option maxHeartbeats 4000000 in
set_option maxRecDepth 100000 in
theorem c_X10_write (l : Launch) (D : va_G) (cI cJ cZ cS : ClassId) (sz N : Nat) (a_this a_text a_now a_one a_other a_next a_readOne a_readOther a_readNext a_pathInput a_pathGates a_before a_after a_values a_taken a_waves a_row a_seenPair a_seenTime a_seenLate a_isKept a_kept : Nat) (i_this_inputs : Int32) (i_this_gates : Int32) (i_this_readInputs : Int32) (i_this_readGates : Int32) (i_this_length : Int32) (i_this_paths : Int32) (i_this_acts : Int32) (i_this_turn : Int32) (i_this_seen : Int32) (i_this_seed : Int64) (k_text : (Nat → Int32)) (y1 : Int32) (rr : Int32) (o_this_length : Int32) (o_text : (Nat → Int32)) (hf : f_X10_write N y1 i_this_length k_text = some (rr, o_this_length, o_text)) : MetI l yX10_write wsX10_write rmX10_write D (tyA cI cJ cZ cS) [(a_this, .inr (10, [.int i_this_inputs, .int i_this_gates, .ref a_now, .ref a_one, .ref a_other, .ref a_next, .int i_this_readInputs, .int i_this_readGates, .ref a_readOne, .ref a_readOther, .ref a_readNext, .ref a_text, .int i_this_length, .int i_this_paths, .ref a_pathInput, .ref a_pathGates, .ref a_before, .ref a_after, .ref a_values, .ref a_taken, .ref a_waves, .int i_this_acts, .int i_this_turn, .ref a_row, .int i_this_seen, .ref a_seenPair, .ref a_seenTime, .ref a_seenLate, .long i_this_seed, .ref a_isKept, .ref a_kept])), (a_text, .inl (cI, 40, .inl k_text))] sz [.ref a_this, .int y1] rr [(a_this, .inr (10, [.int i_this_inputs, .int i_this_gates, .ref a_now, .ref a_one, .ref a_other, .ref a_next, .int i_this_readInputs, .int i_this_readGates, .ref a_readOne, .ref a_readOther, .ref a_readNext, .ref a_text, .int o_this_length, .int i_this_paths, .ref a_pathInput, .ref a_pathGates, .ref a_before, .ref a_after, .ref a_values, .ref a_taken, .ref a_waves, .int i_this_acts, .int i_this_turn, .ref a_row, .int i_this_seen, .ref a_seenPair, .ref a_seenTime, .ref a_seenLate, .long i_this_seed, .ref a_isKept, .ref a_kept])), (a_text, .inl (cI, 40, .inl o_text))] := by
  refine entI (cc := cX10_write) (maxL := 2) (own := RX10) (by decide) rfl rfl (Nat.le_of_ble_eq_true rfl) ?_
  intro p e s m args below meth c A ls Q H locs S hr hw hl hQ
  have hx := S.1.1
  have hb := S.1.2.1
  have hts := S.1.2.2.2.2
  have hl : lv_has ls 2 [(0, .ref a_this), (1, .int y1)] := hl
  have hinX10 : ∀ w ∈ u_ws RX10 TX10 31, w ∈ wsX10_write := (fun _ h => List.mem_cons_of_mem _ (List.mem_append_right _ h))
  have F31 : FLk s args wsX10_write RX10 31 RX10 TX10 31 10 11 := ⟨hinX10, rfl, by decide, hts (.fieldLink RX10 31 "SlowPathsModel" "text" "[I") (List.mem_of_getElem? (i := 3) rfl)⟩
  have F80 : FLk s args wsX10_write RX10 80 RX10 TX10 31 10 12 := ⟨hinX10, rfl, by decide, hts (.fieldLink RX10 80 "SlowPathsModel" "length" "I") (List.mem_of_getElem? (i := 2) rfl)⟩
  have P80 : PLk TX10 31 12 tyX10 false .int := ⟨tyX10_ok, nmX10, rfl, rfl⟩
  have h := hf
  rw [f_X10_write] at h
  refine lv_iload_n hx hb dX10_write_0 rfl (lv_at hl 1 rfl) ?_
  refine lv_i2l hx hb dX10_write_1 rfl ?_
  refine lv_lconst (v := (0 : Int64)) hx hb dX10_write_2 (by decide) ?_
  refine lv_ldc2 (v := (255 : Int64)) hx hb S.1.2.2.2.1 (hts (.constantLong RX10 74 (255)) (List.mem_of_getElem? (i := 1) rfl)) dX10_write_3 ?_
  obtain ⟨r_1, e6_1, h⟩ := obd1_el h
  refine zr_SI (As := [.long (y1.toInt64), .long (0 : Int64), .long (255 : Int64)]) (rest := []) (q0 := 0) (ci := 0) (fs := []) (qc := (RX0, TX0, 4)) S hw (c_X10_in l D cI cJ cZ cS H.size N (y1.toInt64) (0 : Int64) (255 : Int64) r_1 e6_1) (va_cwS 3 hts gX10_write_X10_in rfl rfl rfl ds_X10_in ⟨Nat.le_of_ble_eq_true rfl, Nat.le_of_ble_eq_true rfl⟩) [] rfl rfl rfl hl.1 rfl (Nat.le_of_ble_eq_true rfl) dX10_write_6 ⟨Nat.zero_le _, Nat.zero_le _⟩ ?_
  refine lv_if_ne (tgt := 15) hx hb dX10_write_9 (by decide) (fun hc => ?_) (fun hc => ?_)
  · replace h := if_f hc h
    refine lv_aload_n hx hb dX10_write_15 rfl (lv_at hl 0 rfl) ?_
    refine z_get S hw F80 0 rfl rfl dX10_write_16 ?_
    refine lv_bipush (v := (40 : Int32)) hx hb dX10_write_19 (by decide) ?_
    refine lv_icmp_ne (tgt := 27) hx hb dX10_write_21 (by decide) (fun hc => ?_) (fun hc => ?_)
    · replace h := if_f hc h
      refine lv_aload_n hx hb dX10_write_27 rfl (lv_at hl 0 rfl) ?_
      refine z_get S hw F31 0 rfl rfl dX10_write_28 ?_
      refine lv_aload_n hx hb dX10_write_31 rfl (lv_at hl 0 rfl) ?_
      refine z_get S hw F80 0 rfl rfl dX10_write_32 ?_
      refine lv_iload_n hx hb dX10_write_35 rfl (lv_at hl 1 rfl) ?_
      obtain ⟨hg, h⟩ := grd_el h
      obtain ⟨k_text_2, ek_text_2, h⟩ := bnd_ex h
      refine z_iast S hw ek_text_2 1 0 rfl rfl hg dX10_write_36 (fun H locs hw => ?_)
      refine lv_aload_n hx hb dX10_write_37 rfl (lv_at hl 0 rfl) ?_
      refine lv_dup hx hb dX10_write_38 rfl ?_
      refine z_get S hw F80 0 rfl rfl dX10_write_39 ?_
      refine lv_iconst (v := (1 : Int32)) hx hb dX10_write_42 (by decide) ?_
      refine lv_iadd hx hb dX10_write_43 ?_
      refine lv_topi (fun i_length_3 ei_length_3 => ?_)
      replace h := bnd_at ei_length_3 h
      refine z_put S hw F80 P80 rfl rfl 0 rfl (Nat.le_of_ble_eq_true rfl) dX10_write_44 (fun H locs hw => ?_)
      refine lv_aload_n hx hb dX10_write_47 rfl (lv_at hl 0 rfl) ?_
      refine z_get S hw F80 0 rfl rfl dX10_write_48 ?_
      cases h
      exact z_iret S hQ hr hw [0, 1] rfl rfl dX10_write_51
    · replace h := if_t hc h
      refine lv_bipush (v := (-4 : Int32)) hx hb dX10_write_24 (by decide) ?_
      cases h
      exact z_iret S hQ hr hw [0, 1] rfl rfl dX10_write_26
  · replace h := if_t hc h
    refine lv_bipush (v := (-2 : Int32)) hx hb dX10_write_12 (by decide) ?_
    cases h
    exact z_iret S hQ hr hw [0, 1] rfl rfl dX10_write_14
abbrev rmX10_wipe : Room := { frames := 0, cells := 0, slots := 0, locals := 0 }
theorem dv_X10_wipe : yX10_wipe.cls = RX10 ∧ yX10_wipe.cls ≠ "java/lang/invoke/MethodHandle" ∧ yX10_wipe.cls ≠ "java/lang/invoke/VarHandle" ∧ (parseMethodDescriptor yX10_wipe.desc).map (fun d => d.parameters.length) = some 0 := by decide +kernel
noncomputable def f_X10_wipe (N : Nat)  (i_this_length : Int32) : Option (Int32 × Int32) :=
  some (i_this_length, (0 : Int32))
set_option maxHeartbeats 4000000 in
set_option maxRecDepth 100000 in
theorem c_X10_wipe (l : Launch) (D : va_G) (cI cJ cZ cS : ClassId) (sz N : Nat) (a_this a_now a_one a_other a_next a_readOne a_readOther a_readNext a_text a_pathInput a_pathGates a_before a_after a_values a_taken a_waves a_row a_seenPair a_seenTime a_seenLate a_isKept a_kept : Nat) (i_this_inputs : Int32) (i_this_gates : Int32) (i_this_readInputs : Int32) (i_this_readGates : Int32) (i_this_length : Int32) (i_this_paths : Int32) (i_this_acts : Int32) (i_this_turn : Int32) (i_this_seen : Int32) (i_this_seed : Int64)  (rr : Int32) (o_this_length : Int32) (hf : f_X10_wipe N i_this_length = some (rr, o_this_length)) : MetI l yX10_wipe wsX10_wipe rmX10_wipe D (tyA cI cJ cZ cS) [(a_this, .inr (10, [.int i_this_inputs, .int i_this_gates, .ref a_now, .ref a_one, .ref a_other, .ref a_next, .int i_this_readInputs, .int i_this_readGates, .ref a_readOne, .ref a_readOther, .ref a_readNext, .ref a_text, .int i_this_length, .int i_this_paths, .ref a_pathInput, .ref a_pathGates, .ref a_before, .ref a_after, .ref a_values, .ref a_taken, .ref a_waves, .int i_this_acts, .int i_this_turn, .ref a_row, .int i_this_seen, .ref a_seenPair, .ref a_seenTime, .ref a_seenLate, .long i_this_seed, .ref a_isKept, .ref a_kept]))] sz [.ref a_this] rr [(a_this, .inr (10, [.int i_this_inputs, .int i_this_gates, .ref a_now, .ref a_one, .ref a_other, .ref a_next, .int i_this_readInputs, .int i_this_readGates, .ref a_readOne, .ref a_readOther, .ref a_readNext, .ref a_text, .int o_this_length, .int i_this_paths, .ref a_pathInput, .ref a_pathGates, .ref a_before, .ref a_after, .ref a_values, .ref a_taken, .ref a_waves, .int i_this_acts, .int i_this_turn, .ref a_row, .int i_this_seen, .ref a_seenPair, .ref a_seenTime, .ref a_seenLate, .long i_this_seed, .ref a_isKept, .ref a_kept]))] := by
  refine entI (cc := cX10_wipe) (maxL := 2) (own := RX10) (by decide) rfl rfl (Nat.le_of_ble_eq_true rfl) ?_
  intro p e s m args below meth c A ls Q H locs S hr hw hl hQ
  have hx := S.1.1
  have hb := S.1.2.1
  have hts := S.1.2.2.2.2
  have hl : lv_has ls 2 [(0, .ref a_this)] := hl
  have hinX10 : ∀ w ∈ u_ws RX10 TX10 31, w ∈ wsX10_wipe := (fun _ h => List.mem_cons_of_mem _ (List.mem_append_right _ h))
  have F80 : FLk s args wsX10_wipe RX10 80 RX10 TX10 31 10 12 := ⟨hinX10, rfl, by decide, hts (.fieldLink RX10 80 "SlowPathsModel" "length" "I") (List.mem_of_getElem? (i := 1) rfl)⟩
  have P80 : PLk TX10 31 12 tyX10 false .int := ⟨tyX10_ok, nmX10, rfl, rfl⟩
  have h := hf
  rw [f_X10_wipe] at h
  refine lv_aload_n hx hb dX10_wipe_0 rfl (lv_at hl 0 rfl) ?_
  refine z_get S hw F80 0 rfl rfl dX10_wipe_1 ?_
  refine lv_istore_n (lv' := [(1, .int i_this_length), (0, .ref a_this)]) hx hb dX10_wipe_4 rfl hl (by decide) rfl (fun ls hl => ?_)
  refine lv_aload_n hx hb dX10_wipe_5 rfl (lv_at hl 1 rfl) ?_
  refine lv_iconst (v := (0 : Int32)) hx hb dX10_wipe_6 (by decide) ?_
  refine z_put S hw F80 P80 rfl rfl 0 rfl (Nat.le_of_ble_eq_true rfl) dX10_wipe_7 (fun H locs hw => ?_)
  refine lv_iload_n hx hb dX10_wipe_10 rfl (lv_at hl 0 rfl) ?_
  cases h
  exact z_iret S hQ hr hw [0] rfl rfl dX10_wipe_11
abbrev rmX10_kindOf : Room := { frames := 0, cells := 0, slots := 0, locals := 0 }
theorem ds_X10_kindOf : yX10_kindOf.cls ≠ "java/lang/invoke/MethodHandle" ∧ yX10_kindOf.cls ≠ "java/lang/invoke/VarHandle" ∧ (parseMethodDescriptor yX10_kindOf.desc).map (fun d => d.parameters.length) = some 1 := by decide +kernel
noncomputable def f_X10_kindOf (N : Nat) (y0 : Int32)  : Option (Int32) :=
  (if y0 = (38 : Int32) then (some ((0 : Int32))) else (if y0 = (110 : Int32) then (some ((2 : Int32))) else (if y0 = (111 : Int32) then (some ((3 : Int32))) else (if y0 = (124 : Int32) then (some ((1 : Int32))) else (if y0 = (126 : Int32) then (some ((4 : Int32))) else some ((-9 : Int32)))))))
set_option maxHeartbeats 4000000 in
set_option maxRecDepth 100000 in
theorem c_X10_kindOf (l : Launch) (D : va_G) (cI cJ cZ cS : ClassId) (sz N : Nat)   (y0 : Int32) (rr : Int32) (hf : f_X10_kindOf N y0 = some (rr)) : MetIr l yX10_kindOf wsX10_kindOf rmX10_kindOf D (tyA cI cJ cZ cS) [] sz [.int y0] rr := by
  refine entIr (cc := cX10_kindOf) (maxL := 1) (own := RX10) (by decide) rfl rfl (Nat.le_of_ble_eq_true rfl) ?_
  intro p e s m args below meth c A ls Q S hr hw hl hQ
  have hx := S.1.1
  have hb := S.1.2.1
  have hts := S.1.2.2.2.2
  have hl : lv_has ls 1 [(0, .int y0)] := hl
  have h := hf
  rw [f_X10_kindOf] at h
  refine lv_iload_n hx hb dX10_kindOf_0 rfl (lv_at hl 0 rfl) ?_
  by_cases hs38 : y0 = (38 : Int32)
  · replace h := if_t hs38 h
    refine lv_lookup (off := 51) (tgt := 52) hx hb dX10_kindOf_1 (by decide) (by rw [hs38]; decide) (by decide) ?_
    refine lv_iconst (v := (0 : Int32)) hx hb dX10_kindOf_52 (by decide) ?_
    cases h
    exact z_iretr S hQ hr dX10_kindOf_53
  replace h := if_f hs38 h
  by_cases hs110 : y0 = (110 : Int32)
  · replace h := if_t hs110 h
    refine lv_lookup (off := 55) (tgt := 56) hx hb dX10_kindOf_1 (by decide) (by rw [hs110]; decide) (by decide) ?_
    refine lv_iconst (v := (2 : Int32)) hx hb dX10_kindOf_56 (by decide) ?_
    cases h
    exact z_iretr S hQ hr dX10_kindOf_57
  replace h := if_f hs110 h
  by_cases hs111 : y0 = (111 : Int32)
  · replace h := if_t hs111 h
    refine lv_lookup (off := 57) (tgt := 58) hx hb dX10_kindOf_1 (by decide) (by rw [hs111]; decide) (by decide) ?_
    refine lv_iconst (v := (3 : Int32)) hx hb dX10_kindOf_58 (by decide) ?_
    cases h
    exact z_iretr S hQ hr dX10_kindOf_59
  replace h := if_f hs111 h
  by_cases hs124 : y0 = (124 : Int32)
  · replace h := if_t hs124 h
    refine lv_lookup (off := 53) (tgt := 54) hx hb dX10_kindOf_1 (by decide) (by rw [hs124]; decide) (by decide) ?_
    refine lv_iconst (v := (1 : Int32)) hx hb dX10_kindOf_54 (by decide) ?_
    cases h
    exact z_iretr S hQ hr dX10_kindOf_55
  replace h := if_f hs124 h
  by_cases hs126 : y0 = (126 : Int32)
  · replace h := if_t hs126 h
    refine lv_lookup (off := 59) (tgt := 60) hx hb dX10_kindOf_1 (by decide) (by rw [hs126]; decide) (by decide) ?_
    refine lv_iconst (v := (4 : Int32)) hx hb dX10_kindOf_60 (by decide) ?_
    cases h
    exact z_iretr S hQ hr dX10_kindOf_61
  replace h := if_f hs126 h
  refine lv_lookup (off := 61) (tgt := 62) hx hb dX10_kindOf_1 (by decide) ((lv_osw hs38 (by decide)).trans ((lv_osw hs110 (by decide)).trans ((lv_osw hs111 (by decide)).trans ((lv_osw hs124 (by decide)).trans ((lv_osw hs126 (by decide)).trans (rfl)))))) (by decide) ?_
  refine lv_bipush (v := (-9 : Int32)) hx hb dX10_kindOf_62 (by decide) ?_
  cases h
  exact z_iretr S hQ hr dX10_kindOf_64
abbrev rmX10_signalAt : Room := { frames := 1, cells := 0, slots := 0, locals := 25 }
theorem dv_X10_signalAt : yX10_signalAt.cls = RX10 ∧ yX10_signalAt.cls ≠ "java/lang/invoke/MethodHandle" ∧ yX10_signalAt.cls ≠ "java/lang/invoke/VarHandle" ∧ (parseMethodDescriptor yX10_signalAt.desc).map (fun d => d.parameters.length) = some 1 := by decide +kernel
noncomputable def f_X10_signalAt (N : Nat) (y1 : Int32) (i_this_readInputs : Int32) (i_this_readGates : Int32) (i_this_length : Int32) (k_text : (Nat → Int32)) : Option (Int32) :=
  bnd (α := Option (Int32)) (bnd (α := Option (Int32)) (some ((-9 : Int32))) fun (j88_1 : Option (Int32)) => (if i_this_length ≤ y1 then (j88_1) else (grd (inb y1 40) <| obd1 (f_X10_in N ((k_text y1.toNatClampNeg).toInt64) (48 : Int64) (((47 : Int32) + i_this_readGates).toInt64)) fun (r_1 : Int32) => (if r_1 = (0 : Int32) then (j88_1) else (grd (inb y1 40) <| some ((((4 : Int32) + (k_text y1.toNatClampNeg)) - (48 : Int32)))))))) fun (j42_1 : Option (Int32)) => (if i_this_length ≤ y1 then (j42_1) else (grd (inb y1 40) <| obd1 (f_X10_in N ((k_text y1.toNatClampNeg).toInt64) (97 : Int64) (((96 : Int32) + i_this_readInputs).toInt64)) fun (r_2 : Int32) => (if r_2 = (0 : Int32) then (j42_1) else (grd (inb y1 40) <| some (((k_text y1.toNatClampNeg) - (97 : Int32)))))))
set_option maxHeartbeats 4000000 in
set_option maxRecDepth 100000 in
theorem c_X10_signalAt (l : Launch) (D : va_G) (cI cJ cZ cS : ClassId) (sz N : Nat) (a_this a_text a_now a_one a_other a_next a_readOne a_readOther a_readNext a_pathInput a_pathGates a_before a_after a_values a_taken a_waves a_row a_seenPair a_seenTime a_seenLate a_isKept a_kept : Nat) (i_this_inputs : Int32) (i_this_gates : Int32) (i_this_readInputs : Int32) (i_this_readGates : Int32) (i_this_length : Int32) (i_this_paths : Int32) (i_this_acts : Int32) (i_this_turn : Int32) (i_this_seen : Int32) (i_this_seed : Int64) (k_text : (Nat → Int32)) (y1 : Int32) (rr : Int32) (hf : f_X10_signalAt N y1 i_this_readInputs i_this_readGates i_this_length k_text = some (rr)) : MetIr l yX10_signalAt wsX10_signalAt rmX10_signalAt D (tyA cI cJ cZ cS) [(a_this, .inr (10, [.int i_this_inputs, .int i_this_gates, .ref a_now, .ref a_one, .ref a_other, .ref a_next, .int i_this_readInputs, .int i_this_readGates, .ref a_readOne, .ref a_readOther, .ref a_readNext, .ref a_text, .int i_this_length, .int i_this_paths, .ref a_pathInput, .ref a_pathGates, .ref a_before, .ref a_after, .ref a_values, .ref a_taken, .ref a_waves, .int i_this_acts, .int i_this_turn, .ref a_row, .int i_this_seen, .ref a_seenPair, .ref a_seenTime, .ref a_seenLate, .long i_this_seed, .ref a_isKept, .ref a_kept])), (a_text, .inl (cI, 40, .inl k_text))] sz [.ref a_this, .int y1] rr := by
  refine entIr (cc := cX10_signalAt) (maxL := 2) (own := RX10) (by decide) rfl rfl (Nat.le_of_ble_eq_true rfl) ?_
  intro p e s m args below meth c A ls Q S hr hw hl hQ
  have hx := S.1.1
  have hb := S.1.2.1
  have hts := S.1.2.2.2.2
  have hl : lv_has ls 2 [(0, .ref a_this), (1, .int y1)] := hl
  have hinX10 : ∀ w ∈ u_ws RX10 TX10 31, w ∈ wsX10_signalAt := (fun _ h => List.mem_cons_of_mem _ (List.mem_append_right _ h))
  have F31 : FLk s args wsX10_signalAt RX10 31 RX10 TX10 31 10 11 := ⟨hinX10, rfl, by decide, hts (.fieldLink RX10 31 "SlowPathsModel" "text" "[I") (List.mem_of_getElem? (i := 2) rfl)⟩
  have F80 : FLk s args wsX10_signalAt RX10 80 RX10 TX10 31 10 12 := ⟨hinX10, rfl, by decide, hts (.fieldLink RX10 80 "SlowPathsModel" "length" "I") (List.mem_of_getElem? (i := 1) rfl)⟩
  have F86 : FLk s args wsX10_signalAt RX10 86 RX10 TX10 31 10 6 := ⟨hinX10, rfl, by decide, hts (.fieldLink RX10 86 "SlowPathsModel" "readInputs" "I") (List.mem_of_getElem? (i := 4) rfl)⟩
  have F91 : FLk s args wsX10_signalAt RX10 91 RX10 TX10 31 10 7 := ⟨hinX10, rfl, by decide, hts (.fieldLink RX10 91 "SlowPathsModel" "readGates" "I") (List.mem_of_getElem? (i := 6) rfl)⟩
  have h := hf
  rw [f_X10_signalAt] at h
  refine lv_iload_n hx hb dX10_signalAt_0 rfl (lv_at hl 1 rfl) ?_
  refine lv_aload_n hx hb dX10_signalAt_1 rfl (lv_at hl 0 rfl) ?_
  refine z_get S hw F80 0 rfl rfl dX10_signalAt_2 ?_
  obtain ⟨j42_1, ej42_1, h⟩ := bnd_ex h
  have hj42_1 : ∀ (ls : Array Slot), j42_1 = some (rr) → lv_has ls 2 [(0, .ref a_this), (1, .int y1)] → W p l e rmX10_signalAt s m args below meth c s.heap [] 0 0 Q (F0 m 42 ls []) := by
    intro ls h hl
    replace h := ap0 ej42_1 h
    refine lv_iload_n hx hb dX10_signalAt_42 rfl (lv_at hl 1 rfl) ?_
    refine lv_aload_n hx hb dX10_signalAt_43 rfl (lv_at hl 0 rfl) ?_
    refine z_get S hw F80 0 rfl rfl dX10_signalAt_44 ?_
    obtain ⟨j88_1, ej88_1, h⟩ := bnd_ex h
    have hj88_1 : ∀ (ls : Array Slot), j88_1 = some (rr) → lv_has ls 2 [] → W p l e rmX10_signalAt s m args below meth c s.heap [] 0 0 Q (F0 m 88 ls []) := by
      intro ls h hl
      replace h := ap0 ej88_1 h
      refine lv_bipush (v := (-9 : Int32)) hx hb dX10_signalAt_88 (by decide) ?_
      cases h
      exact z_iretr S hQ hr dX10_signalAt_90
    refine lv_icmp_ge (tgt := 88) hx hb dX10_signalAt_47 (by decide) (fun hc => ?_) (fun hc => ?_)
    · replace h := if_t hc h
      exact hj88_1  ls h (lv_sub hl [] rfl)
    · replace h := if_f hc h
      refine lv_aload_n hx hb dX10_signalAt_50 rfl (lv_at hl 0 rfl) ?_
      refine z_get S hw F31 0 rfl rfl dX10_signalAt_51 ?_
      refine lv_iload_n hx hb dX10_signalAt_54 rfl (lv_at hl 1 rfl) ?_
      obtain ⟨hg, h⟩ := grd_el h
      refine z_iald S hw 1 0 rfl rfl hg dX10_signalAt_55 ?_
      refine lv_i2l hx hb dX10_signalAt_56 rfl ?_
      refine lv_ldc2 (v := (48 : Int64)) hx hb S.1.2.2.2.1 (hts (.constantLong RX10 89 (48)) (List.mem_of_getElem? (i := 5) rfl)) dX10_signalAt_57 ?_
      refine lv_bipush (v := (47 : Int32)) hx hb dX10_signalAt_60 (by decide) ?_
      refine lv_aload_n hx hb dX10_signalAt_62 rfl (lv_at hl 0 rfl) ?_
      refine z_get S hw F91 0 rfl rfl dX10_signalAt_63 ?_
      refine lv_iadd hx hb dX10_signalAt_66 ?_
      refine lv_i2l hx hb dX10_signalAt_67 rfl ?_
      obtain ⟨r_1, e68_1, h⟩ := obd1_el h
      refine zr_SI (As := [.long ((k_text y1.toNatClampNeg).toInt64), .long (48 : Int64), .long (((47 : Int32) + i_this_readGates).toInt64)]) (rest := []) (q0 := 0) (ci := 0) (fs := []) (qc := (RX0, TX0, 4)) S hw (c_X10_in l D cI cJ cZ cS s.heap.size N ((k_text y1.toNatClampNeg).toInt64) (48 : Int64) (((47 : Int32) + i_this_readGates).toInt64) r_1 e68_1) (va_cwS 3 hts gX10_signalAt_X10_in rfl rfl rfl ds_X10_in ⟨Nat.le_of_ble_eq_true rfl, Nat.le_of_ble_eq_true rfl⟩) [] rfl rfl rfl hl.1 rfl (Nat.le_of_ble_eq_true rfl) dX10_signalAt_68 ⟨Nat.zero_le _, Nat.zero_le _⟩ ?_
      refine lv_if_eq (tgt := 88) hx hb dX10_signalAt_71 (by decide) (fun hc => ?_) (fun hc => ?_)
      · replace h := if_t hc h
        exact hj88_1  ls h (lv_sub hl [] rfl)
      · replace h := if_f hc h
        refine lv_iconst (v := (4 : Int32)) hx hb dX10_signalAt_74 (by decide) ?_
        refine lv_aload_n hx hb dX10_signalAt_75 rfl (lv_at hl 0 rfl) ?_
        refine z_get S hw F31 0 rfl rfl dX10_signalAt_76 ?_
        refine lv_iload_n hx hb dX10_signalAt_79 rfl (lv_at hl 1 rfl) ?_
        obtain ⟨hg, h⟩ := grd_el h
        refine z_iald S hw 1 0 rfl rfl hg dX10_signalAt_80 ?_
        refine lv_iadd hx hb dX10_signalAt_81 ?_
        refine lv_bipush (v := (48 : Int32)) hx hb dX10_signalAt_82 (by decide) ?_
        refine lv_isub hx hb dX10_signalAt_84 ?_
        refine lv_goto (tgt := 90) hx hb dX10_signalAt_85 (by decide) ?_
        cases h
        exact z_iretr S hQ hr dX10_signalAt_90
  refine lv_icmp_ge (tgt := 42) hx hb dX10_signalAt_5 (by decide) (fun hc => ?_) (fun hc => ?_)
  · replace h := if_t hc h
    exact hj42_1  ls h hl
  · replace h := if_f hc h
    refine lv_aload_n hx hb dX10_signalAt_8 rfl (lv_at hl 0 rfl) ?_
    refine z_get S hw F31 0 rfl rfl dX10_signalAt_9 ?_
    refine lv_iload_n hx hb dX10_signalAt_12 rfl (lv_at hl 1 rfl) ?_
    obtain ⟨hg, h⟩ := grd_el h
    refine z_iald S hw 1 0 rfl rfl hg dX10_signalAt_13 ?_
    refine lv_i2l hx hb dX10_signalAt_14 rfl ?_
    refine lv_ldc2 (v := (97 : Int64)) hx hb S.1.2.2.2.1 (hts (.constantLong RX10 84 (97)) (List.mem_of_getElem? (i := 3) rfl)) dX10_signalAt_15 ?_
    refine lv_bipush (v := (96 : Int32)) hx hb dX10_signalAt_18 (by decide) ?_
    refine lv_aload_n hx hb dX10_signalAt_20 rfl (lv_at hl 0 rfl) ?_
    refine z_get S hw F86 0 rfl rfl dX10_signalAt_21 ?_
    refine lv_iadd hx hb dX10_signalAt_24 ?_
    refine lv_i2l hx hb dX10_signalAt_25 rfl ?_
    obtain ⟨r_2, e26_1, h⟩ := obd1_el h
    refine zr_SI (As := [.long ((k_text y1.toNatClampNeg).toInt64), .long (97 : Int64), .long (((96 : Int32) + i_this_readInputs).toInt64)]) (rest := []) (q0 := 0) (ci := 0) (fs := []) (qc := (RX0, TX0, 4)) S hw (c_X10_in l D cI cJ cZ cS s.heap.size N ((k_text y1.toNatClampNeg).toInt64) (97 : Int64) (((96 : Int32) + i_this_readInputs).toInt64) r_2 e26_1) (va_cwS 3 hts gX10_signalAt_X10_in rfl rfl rfl ds_X10_in ⟨Nat.le_of_ble_eq_true rfl, Nat.le_of_ble_eq_true rfl⟩) [] rfl rfl rfl hl.1 rfl (Nat.le_of_ble_eq_true rfl) dX10_signalAt_26 ⟨Nat.zero_le _, Nat.zero_le _⟩ ?_
    refine lv_if_eq (tgt := 42) hx hb dX10_signalAt_29 (by decide) (fun hc => ?_) (fun hc => ?_)
    · replace h := if_t hc h
      exact hj42_1  ls h hl
    · replace h := if_f hc h
      refine lv_aload_n hx hb dX10_signalAt_32 rfl (lv_at hl 0 rfl) ?_
      refine z_get S hw F31 0 rfl rfl dX10_signalAt_33 ?_
      refine lv_iload_n hx hb dX10_signalAt_36 rfl (lv_at hl 1 rfl) ?_
      obtain ⟨hg, h⟩ := grd_el h
      refine z_iald S hw 1 0 rfl rfl hg dX10_signalAt_37 ?_
      refine lv_bipush (v := (97 : Int32)) hx hb dX10_signalAt_38 (by decide) ?_
      refine lv_isub hx hb dX10_signalAt_40 ?_
      cases h
      exact z_iretr S hQ hr dX10_signalAt_41
abbrev rmX10_readEnd : Room := { frames := 2, cells := 0, slots := 0, locals := 46 }
theorem dv_X10_readEnd : yX10_readEnd.cls = RX10 ∧ yX10_readEnd.cls ≠ "java/lang/invoke/MethodHandle" ∧ yX10_readEnd.cls ≠ "java/lang/invoke/VarHandle" ∧ (parseMethodDescriptor yX10_readEnd.desc).map (fun d => d.parameters.length) = some 1 := by decide +kernel
noncomputable def f_X10_readEnd_L2 (N : Nat) (y1 : Int32) (i_this_readInputs : Int32) (i_this_readGates : Int32) (i_this_length : Int32) (k_text : (Nat → Int32)) (j44_1 : (Nat → Int32) → Option (Int32 × (Nat → Int32))) : Nat → Int32 → (Nat → Int32) → Option (Int32 × (Nat → Int32))
  | 0, _, _ => none
  | n_2 + 1, x2_2, k_readNext_3 =>
    (if i_this_readInputs ≤ x2_2 then (j44_1 k_readNext_3) else (obd1 (f_X10_signalAt N (y1 + x2_2) i_this_readInputs i_this_readGates i_this_length k_text) fun (r_4 : Int32) => grd (inb x2_2 4) <| bnd (upd k_readNext_3 x2_2.toNatClampNeg r_4) fun (k_readNext_5 : (Nat → Int32)) => grd (inb x2_2 4) <| (if (k_readNext_5 x2_2.toNatClampNeg) = (-9 : Int32) then (some ((y1 + x2_2), k_readNext_5)) else (bnd (x2_2 + (1 : Int32)) fun (x2_6 : Int32) => f_X10_readEnd_L2 N y1 i_this_readInputs i_this_readGates i_this_length k_text j44_1 n_2 x2_6 k_readNext_5))))
noncomputable def f_X10_readEnd (N : Nat) (y1 : Int32) (i_this_readInputs : Int32) (i_this_readGates : Int32) (i_this_length : Int32) (k_text : (Nat → Int32)) (k_readNext : (Nat → Int32)) : Option (Int32 × (Nat → Int32)) :=
  bnd (fun (k_readNext_1 : (Nat → Int32)) => ((if i_this_length ≤ (y1 + i_this_readInputs) then (some ((-9 : Int32), k_readNext_1)) else (some ((y1 + i_this_readInputs), k_readNext_1))))) fun (j44_1 : (Nat → Int32) → Option (Int32 × (Nat → Int32))) => f_X10_readEnd_L2 N y1 i_this_readInputs i_this_readGates i_this_length k_text j44_1 N ((0 : Int32)) k_readNext
set_option maxHeartbeats 4000000 in
set_option maxRecDepth 100000 in
theorem c_X10_readEnd (l : Launch) (D : va_G) (cI cJ cZ cS : ClassId) (sz N : Nat) (a_this a_text a_readNext a_now a_one a_other a_next a_readOne a_readOther a_pathInput a_pathGates a_before a_after a_values a_taken a_waves a_row a_seenPair a_seenTime a_seenLate a_isKept a_kept : Nat) (i_this_inputs : Int32) (i_this_gates : Int32) (i_this_readInputs : Int32) (i_this_readGates : Int32) (i_this_length : Int32) (i_this_paths : Int32) (i_this_acts : Int32) (i_this_turn : Int32) (i_this_seen : Int32) (i_this_seed : Int64) (k_text : (Nat → Int32)) (k_readNext : (Nat → Int32)) (y1 : Int32) (rr : Int32) (o_readNext : (Nat → Int32)) (hf : f_X10_readEnd N y1 i_this_readInputs i_this_readGates i_this_length k_text k_readNext = some (rr, o_readNext)) : MetI l yX10_readEnd wsX10_readEnd rmX10_readEnd D (tyA cI cJ cZ cS) [(a_this, .inr (10, [.int i_this_inputs, .int i_this_gates, .ref a_now, .ref a_one, .ref a_other, .ref a_next, .int i_this_readInputs, .int i_this_readGates, .ref a_readOne, .ref a_readOther, .ref a_readNext, .ref a_text, .int i_this_length, .int i_this_paths, .ref a_pathInput, .ref a_pathGates, .ref a_before, .ref a_after, .ref a_values, .ref a_taken, .ref a_waves, .int i_this_acts, .int i_this_turn, .ref a_row, .int i_this_seen, .ref a_seenPair, .ref a_seenTime, .ref a_seenLate, .long i_this_seed, .ref a_isKept, .ref a_kept])), (a_text, .inl (cI, 40, .inl k_text)), (a_readNext, .inl (cI, 4, .inl k_readNext))] sz [.ref a_this, .int y1] rr [(a_this, .inr (10, [.int i_this_inputs, .int i_this_gates, .ref a_now, .ref a_one, .ref a_other, .ref a_next, .int i_this_readInputs, .int i_this_readGates, .ref a_readOne, .ref a_readOther, .ref a_readNext, .ref a_text, .int i_this_length, .int i_this_paths, .ref a_pathInput, .ref a_pathGates, .ref a_before, .ref a_after, .ref a_values, .ref a_taken, .ref a_waves, .int i_this_acts, .int i_this_turn, .ref a_row, .int i_this_seen, .ref a_seenPair, .ref a_seenTime, .ref a_seenLate, .long i_this_seed, .ref a_isKept, .ref a_kept])), (a_text, .inl (cI, 40, .inl k_text)), (a_readNext, .inl (cI, 4, .inl o_readNext))] := by
  refine entI (cc := cX10_readEnd) (maxL := 3) (own := RX10) (by decide) rfl rfl (Nat.le_of_ble_eq_true rfl) ?_
  intro p e s m args below meth c A ls Q H locs S hr hw hl hQ
  have hx := S.1.1
  have hb := S.1.2.1
  have hts := S.1.2.2.2.2
  have hl : lv_has ls 3 [(0, .ref a_this), (1, .int y1)] := hl
  have hinX10 : ∀ w ∈ u_ws RX10 TX10 31, w ∈ wsX10_readEnd := (fun _ h => List.mem_cons_of_mem _ (List.mem_append_right _ h))
  have F28 : FLk s args wsX10_readEnd RX10 28 RX10 TX10 31 10 10 := ⟨hinX10, rfl, by decide, hts (.fieldLink RX10 28 "SlowPathsModel" "readNext" "[I") (List.mem_of_getElem? (i := 2) rfl)⟩
  have F80 : FLk s args wsX10_readEnd RX10 80 RX10 TX10 31 10 12 := ⟨hinX10, rfl, by decide, hts (.fieldLink RX10 80 "SlowPathsModel" "length" "I") (List.mem_of_getElem? (i := 3) rfl)⟩
  have F86 : FLk s args wsX10_readEnd RX10 86 RX10 TX10 31 10 6 := ⟨hinX10, rfl, by decide, hts (.fieldLink RX10 86 "SlowPathsModel" "readInputs" "I") (List.mem_of_getElem? (i := 1) rfl)⟩
  have h := hf
  rw [f_X10_readEnd] at h
  refine lv_iconst (v := (0 : Int32)) hx hb dX10_readEnd_0 (by decide) ?_
  refine lv_istore_n (lv' := [(2, .int (0 : Int32)), (0, .ref a_this), (1, .int y1)]) hx hb dX10_readEnd_1 rfl hl (by decide) rfl (fun ls hl => ?_)
  obtain ⟨j44_1, ej44_1, h⟩ := bnd_ex h
  have hj44_1 : ∀ (k_readNext_1 : (Nat → Int32)) (H : Heap) (locs : List Loc) (ls : Array Slot), j44_1 k_readNext_1 = some (rr, o_readNext) → Wd D (tyA cI cJ cZ cS) A s [(a_this, .inr (10, [.int i_this_inputs, .int i_this_gates, .ref a_now, .ref a_one, .ref a_other, .ref a_next, .int i_this_readInputs, .int i_this_readGates, .ref a_readOne, .ref a_readOther, .ref a_readNext, .ref a_text, .int i_this_length, .int i_this_paths, .ref a_pathInput, .ref a_pathGates, .ref a_before, .ref a_after, .ref a_values, .ref a_taken, .ref a_waves, .int i_this_acts, .int i_this_turn, .ref a_row, .int i_this_seen, .ref a_seenPair, .ref a_seenTime, .ref a_seenLate, .long i_this_seed, .ref a_isKept, .ref a_kept])), (a_text, .inl (cI, 40, .inl k_text)), (a_readNext, .inl (cI, 4, .inl k_readNext_1))] H locs → lv_has ls 3 [(0, .ref a_this), (1, .int y1)] → W p l e rmX10_readEnd s m args below meth c H locs 0 0 Q (F0 m 44 ls []) := by
    intro k_readNext_1 H locs ls h hw hl
    replace h := ap1 ej44_1 h
    refine lv_iload_n hx hb dX10_readEnd_44 rfl (lv_at hl 1 rfl) ?_
    refine lv_aload_n hx hb dX10_readEnd_45 rfl (lv_at hl 0 rfl) ?_
    refine z_get S hw F86 0 rfl rfl dX10_readEnd_46 ?_
    refine lv_iadd hx hb dX10_readEnd_49 ?_
    refine lv_aload_n hx hb dX10_readEnd_50 rfl (lv_at hl 0 rfl) ?_
    refine z_get S hw F80 0 rfl rfl dX10_readEnd_51 ?_
    refine lv_icmp_ge (tgt := 66) hx hb dX10_readEnd_54 (by decide) (fun hc => ?_) (fun hc => ?_)
    · replace h := if_t hc h
      refine lv_bipush (v := (-9 : Int32)) hx hb dX10_readEnd_66 (by decide) ?_
      cases h
      exact z_iret S hQ hr hw [0, 1, 2] rfl rfl dX10_readEnd_68
    · replace h := if_f hc h
      refine lv_iload_n hx hb dX10_readEnd_57 rfl (lv_at hl 1 rfl) ?_
      refine lv_aload_n hx hb dX10_readEnd_58 rfl (lv_at hl 0 rfl) ?_
      refine z_get S hw F86 0 rfl rfl dX10_readEnd_59 ?_
      refine lv_iadd hx hb dX10_readEnd_62 ?_
      refine lv_goto (tgt := 68) hx hb dX10_readEnd_63 (by decide) ?_
      cases h
      exact z_iret S hQ hr hw [0, 1, 2] rfl rfl dX10_readEnd_68
  have hL2_1 : ∀ (nf : Nat) (x2_2 : Int32) (k_readNext_3 : (Nat → Int32)) (H : Heap) (locs : List Loc) (ls : Array Slot), f_X10_readEnd_L2 N y1 i_this_readInputs i_this_readGates i_this_length k_text j44_1 nf x2_2 k_readNext_3 = some (rr, o_readNext) → Wd D (tyA cI cJ cZ cS) A s [(a_this, .inr (10, [.int i_this_inputs, .int i_this_gates, .ref a_now, .ref a_one, .ref a_other, .ref a_next, .int i_this_readInputs, .int i_this_readGates, .ref a_readOne, .ref a_readOther, .ref a_readNext, .ref a_text, .int i_this_length, .int i_this_paths, .ref a_pathInput, .ref a_pathGates, .ref a_before, .ref a_after, .ref a_values, .ref a_taken, .ref a_waves, .int i_this_acts, .int i_this_turn, .ref a_row, .int i_this_seen, .ref a_seenPair, .ref a_seenTime, .ref a_seenLate, .long i_this_seed, .ref a_isKept, .ref a_kept])), (a_text, .inl (cI, 40, .inl k_text)), (a_readNext, .inl (cI, 4, .inl k_readNext_3))] H locs → lv_has ls 3 [(0, .ref a_this), (1, .int y1), (2, .int x2_2)] → W p l e rmX10_readEnd s m args below meth c H locs 0 0 Q (F0 m 2 ls []) := by
    intro nf
    induction nf with
    | zero =>
      intro x2_2 k_readNext_3 H locs ls h
      rw [f_X10_readEnd_L2] at h
      cases h
    | succ n_2 ih_2 =>
      intro x2_2 k_readNext_3 H locs ls h hw hl
      rw [f_X10_readEnd_L2] at h
      refine lv_iload_n hx hb dX10_readEnd_2 rfl (lv_at hl 2 rfl) ?_
      refine lv_aload_n hx hb dX10_readEnd_3 rfl (lv_at hl 0 rfl) ?_
      refine z_get S hw F86 0 rfl rfl dX10_readEnd_4 ?_
      refine lv_icmp_ge (tgt := 44) hx hb dX10_readEnd_7 (by decide) (fun hc => ?_) (fun hc => ?_)
      · replace h := if_t hc h
        exact hj44_1 k_readNext_3 H locs ls h hw (lv_sub hl [0, 1] rfl)
      · replace h := if_f hc h
        refine lv_aload_n hx hb dX10_readEnd_10 rfl (lv_at hl 0 rfl) ?_
        refine z_get S hw F28 0 rfl rfl dX10_readEnd_11 ?_
        refine lv_iload_n hx hb dX10_readEnd_14 rfl (lv_at hl 2 rfl) ?_
        refine lv_aload_n hx hb dX10_readEnd_15 rfl (lv_at hl 0 rfl) ?_
        refine lv_iload_n hx hb dX10_readEnd_16 rfl (lv_at hl 1 rfl) ?_
        refine lv_iload_n hx hb dX10_readEnd_17 rfl (lv_at hl 2 rfl) ?_
        refine lv_iadd hx hb dX10_readEnd_18 ?_
        obtain ⟨r_4, e19_1, h⟩ := obd1_el h
        refine zr_VI (As := [.int (y1 + x2_2)]) (rest := [.int x2_2, .ref a_readNext]) (q0 := 0) S hw (c_X10_signalAt l D cI cJ cZ cS H.size N a_this a_text a_now a_one a_other a_next a_readOne a_readOther a_readNext a_pathInput a_pathGates a_before a_after a_values a_taken a_waves a_row a_seenPair a_seenTime a_seenLate a_isKept a_kept i_this_inputs i_this_gates i_this_readInputs i_this_readGates i_this_length i_this_paths i_this_acts i_this_turn i_this_seen i_this_seed k_text (y1 + x2_2) r_4 e19_1) (cwV 1 hts gX10_readEnd_X10_signalAt rfl rfl rfl dv_X10_signalAt ⟨Nat.le_of_ble_eq_true rfl, Nat.le_of_ble_eq_true rfl⟩) [0, 1] rfl rfl rfl rfl rfl rfl hl.1 rfl (Nat.le_of_ble_eq_true rfl) dX10_readEnd_19 ⟨Nat.zero_le _, Nat.zero_le _⟩ ?_
        obtain ⟨hg, h⟩ := grd_el h
        obtain ⟨k_readNext_5, ek_readNext_5, h⟩ := bnd_ex h
        refine z_iast S hw ek_readNext_5 2 0 rfl rfl hg dX10_readEnd_22 (fun H locs hw => ?_)
        refine lv_aload_n hx hb dX10_readEnd_23 rfl (lv_at hl 0 rfl) ?_
        refine z_get S hw F28 0 rfl rfl dX10_readEnd_24 ?_
        refine lv_iload_n hx hb dX10_readEnd_27 rfl (lv_at hl 2 rfl) ?_
        obtain ⟨hg, h⟩ := grd_el h
        refine z_iald S hw 2 0 rfl rfl hg dX10_readEnd_28 ?_
        refine lv_bipush (v := (-9 : Int32)) hx hb dX10_readEnd_29 (by decide) ?_
        refine lv_icmp_ne (tgt := 38) hx hb dX10_readEnd_31 (by decide) (fun hc => ?_) (fun hc => ?_)
        · replace h := if_f hc h
          obtain ⟨x2_6, ex2_6, h⟩ := bnd_ex h
          refine lv_iinc (v := x2_6) (lv' := [(2, .int x2_6), (0, .ref a_this), (1, .int y1)]) hx hb dX10_readEnd_38 hl (k := 2) rfl (by rw [ex2_6]; rfl) (by decide) rfl (fun ls hl => ?_)
          refine lv_goto (tgt := 2) hx hb dX10_readEnd_41 (by decide) ?_
          exact ih_2 x2_6 k_readNext_5 H locs ls h hw (lv_sub hl [1, 2, 0] rfl)
        · replace h := if_t hc h
          refine lv_iload_n hx hb dX10_readEnd_34 rfl (lv_at hl 1 rfl) ?_
          refine lv_iload_n hx hb dX10_readEnd_35 rfl (lv_at hl 2 rfl) ?_
          refine lv_iadd hx hb dX10_readEnd_36 ?_
          cases h
          exact z_iret S hQ hr hw [0, 1, 2] rfl rfl dX10_readEnd_37
  exact hL2_1 N ((0 : Int32)) k_readNext H locs ls h hw (lv_sub hl [1, 2, 0] rfl)
abbrev rmX10_readText : Room := { frames := 3, cells := 0, slots := 0, locals := 68 }
theorem dv_X10_readText : yX10_readText.cls = RX10 ∧ yX10_readText.cls ≠ "java/lang/invoke/MethodHandle" ∧ yX10_readText.cls ≠ "java/lang/invoke/VarHandle" ∧ (parseMethodDescriptor yX10_readText.desc).map (fun d => d.parameters.length) = some 0 := by decide +kernel
noncomputable def f_X10_readText_L74 (N : Nat) (i_this_length : Int32) (k_text : (Nat → Int32)) (k_readNext : (Nat → Int32)) (i_readInputs_2 : Int32) (j271_1 : Int32 → Int32 → (Nat → Int32) → (Nat → Int32) → (Nat → Int32) → Option (Int32 × Int32 × Int32 × (Nat → Int32) × (Nat → Int32) × (Nat → Int32) × (Nat → Int32))) : Nat → Int32 → Int32 → (Nat → Int32) → (Nat → Int32) → (Nat → Int32) → Option (Int32 × Int32 × Int32 × (Nat → Int32) × (Nat → Int32) × (Nat → Int32) × (Nat → Int32))
  | 0, _, _, _, _, _ => none
  | n_74 + 1, x1_10, i_this_readGates_11, k_now_12, k_readOne_13, k_readOther_14 =>
    (if i_this_length ≤ x1_10 then (j271_1 x1_10 i_this_readGates_11 k_now_12 k_readOne_13 k_readOther_14) else (grd (inb x1_10 40) <| (if (k_text x1_10.toNatClampNeg) = (62 : Int32) then (j271_1 x1_10 i_this_readGates_11 k_now_12 k_readOne_13 k_readOther_14) else (grd (inb x1_10 40) <| obd1 (f_X10_kindOf N (k_text x1_10.toNatClampNeg)) fun (r_15 : Int32) => bnd (fun (t_16 : Int32) => ((if r_15 = (-9 : Int32) then (some (x1_10, i_readInputs_2, i_this_readGates_11, k_readNext, k_now_12, k_readOne_13, k_readOther_14)) else ((if t_16 = (0 : Int32) then ((if i_this_readGates_11 = (8 : Int32) then (some (x1_10, i_readInputs_2, i_this_readGates_11, k_readNext, k_now_12, k_readOne_13, k_readOther_14)) else (obd1 (f_X10_signalAt N (x1_10 + (1 : Int32)) i_readInputs_2 i_this_readGates_11 i_this_length k_text) fun (r_17 : Int32) => (if r_17 = (-9 : Int32) then (some ((x1_10 + (1 : Int32)), i_readInputs_2, i_this_readGates_11, k_readNext, k_now_12, k_readOne_13, k_readOther_14)) else (bnd (fun (t_18 : Int32) => (bnd (α := Option (Int32 × Int32 × Int32 × (Nat → Int32) × (Nat → Int32) × (Nat → Int32) × (Nat → Int32))) (grd (inb ((16 : Int32) + i_this_readGates_11) 32) <| bnd (upd k_now_12 ((16 : Int32) + i_this_readGates_11).toNatClampNeg r_15) fun (k_now_19 : (Nat → Int32)) => grd (inb i_this_readGates_11 8) <| bnd (upd k_readOne_13 i_this_readGates_11.toNatClampNeg r_17) fun (k_readOne_20 : (Nat → Int32)) => grd (inb i_this_readGates_11 8) <| bnd (upd k_readOther_14 i_this_readGates_11.toNatClampNeg t_18) fun (k_readOther_21 : (Nat → Int32)) => bnd ((i_this_readGates_11 + (1 : Int32))) fun (i_readGates_22 : Int32) => bnd (fun (t_23 : Int32) (t_24 : Int32) => (bnd ((t_24 + t_23)) fun (x1_25 : Int32) => f_X10_readText_L74 N i_this_length k_text k_readNext i_readInputs_2 j271_1 n_74 x1_25 i_readGates_22 k_now_19 k_readOne_20 k_readOther_21)) fun (j266_1 : Int32 → Int32 → Option (Int32 × Int32 × Int32 × (Nat → Int32) × (Nat → Int32) × (Nat → Int32) × (Nat → Int32))) => (if r_15 = (4 : Int32) then (j266_1 ((2 : Int32)) x1_10) else (j266_1 ((3 : Int32)) x1_10))) fun (j210_1 : Option (Int32 × Int32 × Int32 × (Nat → Int32) × (Nat → Int32) × (Nat → Int32) × (Nat → Int32))) => (if r_15 = (4 : Int32) then (j210_1) else (bnd (α := Option (Int32 × Int32 × Int32 × (Nat → Int32) × (Nat → Int32) × (Nat → Int32) × (Nat → Int32))) (some ((x1_10 + (2 : Int32)), i_readInputs_2, i_this_readGates_11, k_readNext, k_now_12, k_readOne_13, k_readOther_14)) fun (j206_1 : Option (Int32 × Int32 × Int32 × (Nat → Int32) × (Nat → Int32) × (Nat → Int32) × (Nat → Int32))) => (if t_18 = (-9 : Int32) then (j206_1) else ((if t_18 = r_17 then (j206_1) else (j210_1)))))))) fun (j185_1 : Int32 → Option (Int32 × Int32 × Int32 × (Nat → Int32) × (Nat → Int32) × (Nat → Int32) × (Nat → Int32))) => (if r_15 = (4 : Int32) then (j185_1 ((-9 : Int32))) else (obd1 (f_X10_signalAt N (x1_10 + (2 : Int32)) i_readInputs_2 i_this_readGates_11 i_this_length k_text) fun (r_26 : Int32) => j185_1 r_26))))))) else (some (x1_10, i_readInputs_2, i_this_readGates_11, k_readNext, k_now_12, k_readOne_13, k_readOther_14))))))) fun (j126_1 : Int32 → Option (Int32 × Int32 × Int32 × (Nat → Int32) × (Nat → Int32) × (Nat → Int32) × (Nat → Int32))) => bnd (α := Option (Int32 × Int32 × Int32 × (Nat → Int32) × (Nat → Int32) × (Nat → Int32) × (Nat → Int32))) (j126_1 ((0 : Int32))) fun (j125_1 : Option (Int32 × Int32 × Int32 × (Nat → Int32) × (Nat → Int32) × (Nat → Int32) × (Nat → Int32))) => (if r_15 = (4 : Int32) then (j125_1) else ((if (2 : Int32) ≤ (i_readInputs_2 + i_this_readGates_11) then (j125_1) else (j126_1 ((1 : Int32))))))))))
noncomputable def f_X10_readText (N : Nat)  (i_this_readInputs : Int32) (i_this_readGates : Int32) (i_this_length : Int32) (k_text : (Nat → Int32)) (k_readNext : (Nat → Int32)) (k_now : (Nat → Int32)) (k_readOne : (Nat → Int32)) (k_readOther : (Nat → Int32)) : Option (Int32 × Int32 × Int32 × (Nat → Int32) × (Nat → Int32) × (Nat → Int32) × (Nat → Int32)) :=
  (if i_this_length = (0 : Int32) then (some ((0 : Int32), (0 : Int32), (0 : Int32), k_readNext, k_now, k_readOne, k_readOther)) else (grd (inb (0 : Int32) 40) <| (if (k_text (0 : Int32).toNatClampNeg) = (67 : Int32) then ((if i_this_length = (1 : Int32) then (some ((1 : Int32), (0 : Int32), (0 : Int32), k_readNext, k_now, k_readOne, k_readOther)) else (grd (inb (1 : Int32) 40) <| obd1 (f_X10_in N ((k_text (1 : Int32).toNatClampNeg).toInt64) (49 : Int64) (52 : Int64)) fun (r_1 : Int32) => (if r_1 = (0 : Int32) then (some ((1 : Int32), (0 : Int32), (0 : Int32), k_readNext, k_now, k_readOne, k_readOther)) else (grd (inb (1 : Int32) 40) <| bnd (((k_text (1 : Int32).toNatClampNeg) - (48 : Int32))) fun (i_readInputs_2 : Int32) => bnd (fun (x1_3 : Int32) (i_this_readGates_4 : Int32) (k_now_5 : (Nat → Int32)) (k_readOne_6 : (Nat → Int32)) (k_readOther_7 : (Nat → Int32)) => ((if i_this_length ≤ x1_3 then (some (x1_3, i_readInputs_2, i_this_readGates_4, k_readNext, k_now_5, k_readOne_6, k_readOther_7)) else ((if i_this_readGates_4 = (0 : Int32) then (some (x1_3, i_readInputs_2, i_this_readGates_4, k_readNext, k_now_5, k_readOne_6, k_readOther_7)) else (obd2 (f_X10_readEnd N (x1_3 + (1 : Int32)) i_readInputs_2 i_this_readGates_4 i_this_length k_text k_readNext) fun (r_8 : Int32) (k_readNext_9 : (Nat → Int32)) => some (r_8, i_readInputs_2, i_this_readGates_4, k_readNext_9, k_now_5, k_readOne_6, k_readOther_7))))))) fun (j271_1 : Int32 → Int32 → (Nat → Int32) → (Nat → Int32) → (Nat → Int32) → Option (Int32 × Int32 × Int32 × (Nat → Int32) × (Nat → Int32) × (Nat → Int32) × (Nat → Int32))) => f_X10_readText_L74 N i_this_length k_text k_readNext i_readInputs_2 j271_1 N ((2 : Int32)) ((0 : Int32)) k_now k_readOne k_readOther))))) else (some ((0 : Int32), (0 : Int32), (0 : Int32), k_readNext, k_now, k_readOne, k_readOther)))))
set_option maxHeartbeats 4000000 in
set_option maxRecDepth 100000 in
theorem c_X10_readText (l : Launch) (D : va_G) (cI cJ cZ cS : ClassId) (sz N : Nat) (a_this a_text a_readNext a_now a_readOne a_readOther a_one a_other a_next a_pathInput a_pathGates a_before a_after a_values a_taken a_waves a_row a_seenPair a_seenTime a_seenLate a_isKept a_kept : Nat) (i_this_inputs : Int32) (i_this_gates : Int32) (i_this_readInputs : Int32) (i_this_readGates : Int32) (i_this_length : Int32) (i_this_paths : Int32) (i_this_acts : Int32) (i_this_turn : Int32) (i_this_seen : Int32) (i_this_seed : Int64) (k_text : (Nat → Int32)) (k_readNext : (Nat → Int32)) (k_now : (Nat → Int32)) (k_readOne : (Nat → Int32)) (k_readOther : (Nat → Int32))  (rr : Int32) (o_this_readInputs : Int32) (o_this_readGates : Int32) (o_readNext : (Nat → Int32)) (o_now : (Nat → Int32)) (o_readOne : (Nat → Int32)) (o_readOther : (Nat → Int32)) (hf : f_X10_readText N i_this_readInputs i_this_readGates i_this_length k_text k_readNext k_now k_readOne k_readOther = some (rr, o_this_readInputs, o_this_readGates, o_readNext, o_now, o_readOne, o_readOther)) : MetI l yX10_readText wsX10_readText rmX10_readText D (tyA cI cJ cZ cS) [(a_this, .inr (10, [.int i_this_inputs, .int i_this_gates, .ref a_now, .ref a_one, .ref a_other, .ref a_next, .int i_this_readInputs, .int i_this_readGates, .ref a_readOne, .ref a_readOther, .ref a_readNext, .ref a_text, .int i_this_length, .int i_this_paths, .ref a_pathInput, .ref a_pathGates, .ref a_before, .ref a_after, .ref a_values, .ref a_taken, .ref a_waves, .int i_this_acts, .int i_this_turn, .ref a_row, .int i_this_seen, .ref a_seenPair, .ref a_seenTime, .ref a_seenLate, .long i_this_seed, .ref a_isKept, .ref a_kept])), (a_text, .inl (cI, 40, .inl k_text)), (a_readNext, .inl (cI, 4, .inl k_readNext)), (a_now, .inl (cI, 32, .inl k_now)), (a_readOne, .inl (cI, 8, .inl k_readOne)), (a_readOther, .inl (cI, 8, .inl k_readOther))] sz [.ref a_this] rr [(a_this, .inr (10, [.int i_this_inputs, .int i_this_gates, .ref a_now, .ref a_one, .ref a_other, .ref a_next, .int o_this_readInputs, .int o_this_readGates, .ref a_readOne, .ref a_readOther, .ref a_readNext, .ref a_text, .int i_this_length, .int i_this_paths, .ref a_pathInput, .ref a_pathGates, .ref a_before, .ref a_after, .ref a_values, .ref a_taken, .ref a_waves, .int i_this_acts, .int i_this_turn, .ref a_row, .int i_this_seen, .ref a_seenPair, .ref a_seenTime, .ref a_seenLate, .long i_this_seed, .ref a_isKept, .ref a_kept])), (a_text, .inl (cI, 40, .inl k_text)), (a_readNext, .inl (cI, 4, .inl o_readNext)), (a_now, .inl (cI, 32, .inl o_now)), (a_readOne, .inl (cI, 8, .inl o_readOne)), (a_readOther, .inl (cI, 8, .inl o_readOther))] := by
  refine entI (cc := cX10_readText) (maxL := 6) (own := RX10) (by decide) rfl rfl (Nat.le_of_ble_eq_true rfl) ?_
  intro p e s m args below meth c A ls Q H locs S hr hw hl hQ
  have hx := S.1.1
  have hb := S.1.2.1
  have hts := S.1.2.2.2.2
  have hl : lv_has ls 6 [(0, .ref a_this)] := hl
  have hinX10 : ∀ w ∈ u_ws RX10 TX10 31, w ∈ wsX10_readText := (fun _ h => List.mem_cons_of_mem _ (List.mem_append_right _ h))
  have F7 : FLk s args wsX10_readText RX10 7 RX10 TX10 31 10 2 := ⟨hinX10, rfl, by decide, hts (.fieldLink RX10 7 "SlowPathsModel" "now" "[I") (List.mem_of_getElem? (i := 7) rfl)⟩
  have F22 : FLk s args wsX10_readText RX10 22 RX10 TX10 31 10 8 := ⟨hinX10, rfl, by decide, hts (.fieldLink RX10 22 "SlowPathsModel" "readOne" "[I") (List.mem_of_getElem? (i := 8) rfl)⟩
  have F25 : FLk s args wsX10_readText RX10 25 RX10 TX10 31 10 9 := ⟨hinX10, rfl, by decide, hts (.fieldLink RX10 25 "SlowPathsModel" "readOther" "[I") (List.mem_of_getElem? (i := 9) rfl)⟩
  have F31 : FLk s args wsX10_readText RX10 31 RX10 TX10 31 10 11 := ⟨hinX10, rfl, by decide, hts (.fieldLink RX10 31 "SlowPathsModel" "text" "[I") (List.mem_of_getElem? (i := 4) rfl)⟩
  have F80 : FLk s args wsX10_readText RX10 80 RX10 TX10 31 10 12 := ⟨hinX10, rfl, by decide, hts (.fieldLink RX10 80 "SlowPathsModel" "length" "I") (List.mem_of_getElem? (i := 3) rfl)⟩
  have F86 : FLk s args wsX10_readText RX10 86 RX10 TX10 31 10 6 := ⟨hinX10, rfl, by decide, hts (.fieldLink RX10 86 "SlowPathsModel" "readInputs" "I") (List.mem_of_getElem? (i := 2) rfl)⟩
  have F91 : FLk s args wsX10_readText RX10 91 RX10 TX10 31 10 7 := ⟨hinX10, rfl, by decide, hts (.fieldLink RX10 91 "SlowPathsModel" "readGates" "I") (List.mem_of_getElem? (i := 1) rfl)⟩
  have P86 : PLk TX10 31 6 tyX10 false .int := ⟨tyX10_ok, nmX10, rfl, rfl⟩
  have P91 : PLk TX10 31 7 tyX10 false .int := ⟨tyX10_ok, nmX10, rfl, rfl⟩
  have h := hf
  rw [f_X10_readText] at h
  refine lv_aload_n hx hb dX10_readText_0 rfl (lv_at hl 0 rfl) ?_
  refine lv_iconst (v := (0 : Int32)) hx hb dX10_readText_1 (by decide) ?_
  refine z_put S hw F91 P91 rfl rfl 0 rfl (Nat.le_of_ble_eq_true rfl) dX10_readText_2 (fun H locs hw => ?_)
  refine lv_aload_n hx hb dX10_readText_5 rfl (lv_at hl 0 rfl) ?_
  refine lv_iconst (v := (0 : Int32)) hx hb dX10_readText_6 (by decide) ?_
  refine z_put S hw F86 P86 rfl rfl 0 rfl (Nat.le_of_ble_eq_true rfl) dX10_readText_7 (fun H locs hw => ?_)
  refine lv_aload_n hx hb dX10_readText_10 rfl (lv_at hl 0 rfl) ?_
  refine z_get S hw F80 0 rfl rfl dX10_readText_11 ?_
  refine lv_if_eq (tgt := 28) hx hb dX10_readText_14 (by decide) (fun hc => ?_) (fun hc => ?_)
  · replace h := if_t hc h
    refine lv_iconst (v := (0 : Int32)) hx hb dX10_readText_28 (by decide) ?_
    cases h
    exact z_iret S hQ hr hw [0, 1, 2, 3, 4, 5] rfl rfl dX10_readText_29
  · replace h := if_f hc h
    refine lv_aload_n hx hb dX10_readText_17 rfl (lv_at hl 0 rfl) ?_
    refine z_get S hw F31 0 rfl rfl dX10_readText_18 ?_
    refine lv_iconst (v := (0 : Int32)) hx hb dX10_readText_21 (by decide) ?_
    obtain ⟨hg, h⟩ := grd_el h
    refine z_iald S hw 1 0 rfl rfl hg dX10_readText_22 ?_
    refine lv_bipush (v := (67 : Int32)) hx hb dX10_readText_23 (by decide) ?_
    refine lv_icmp_eq (tgt := 30) hx hb dX10_readText_25 (by decide) (fun hc => ?_) (fun hc => ?_)
    · replace h := if_t hc h
      refine lv_aload_n hx hb dX10_readText_30 rfl (lv_at hl 0 rfl) ?_
      refine z_get S hw F80 0 rfl rfl dX10_readText_31 ?_
      refine lv_iconst (v := (1 : Int32)) hx hb dX10_readText_34 (by decide) ?_
      refine lv_icmp_eq (tgt := 57) hx hb dX10_readText_35 (by decide) (fun hc => ?_) (fun hc => ?_)
      · replace h := if_t hc h
        refine lv_iconst (v := (1 : Int32)) hx hb dX10_readText_57 (by decide) ?_
        cases h
        exact z_iret S hQ hr hw [0, 1, 2, 3, 4, 5] rfl rfl dX10_readText_58
      · replace h := if_f hc h
        refine lv_aload_n hx hb dX10_readText_38 rfl (lv_at hl 0 rfl) ?_
        refine z_get S hw F31 0 rfl rfl dX10_readText_39 ?_
        refine lv_iconst (v := (1 : Int32)) hx hb dX10_readText_42 (by decide) ?_
        obtain ⟨hg, h⟩ := grd_el h
        refine z_iald S hw 1 0 rfl rfl hg dX10_readText_43 ?_
        refine lv_i2l hx hb dX10_readText_44 rfl ?_
        refine lv_ldc2 (v := (49 : Int64)) hx hb S.1.2.2.2.1 (hts (.constantLong RX10 94 (49)) (List.mem_of_getElem? (i := 5) rfl)) dX10_readText_45 ?_
        refine lv_ldc2 (v := (52 : Int64)) hx hb S.1.2.2.2.1 (hts (.constantLong RX10 96 (52)) (List.mem_of_getElem? (i := 6) rfl)) dX10_readText_48 ?_
        obtain ⟨r_1, e51_1, h⟩ := obd1_el h
        refine zr_SI (As := [.long ((k_text (1 : Int32).toNatClampNeg).toInt64), .long (49 : Int64), .long (52 : Int64)]) (rest := []) (q0 := 0) (ci := 0) (fs := []) (qc := (RX0, TX0, 4)) S hw (c_X10_in l D cI cJ cZ cS H.size N ((k_text (1 : Int32).toNatClampNeg).toInt64) (49 : Int64) (52 : Int64) r_1 e51_1) (va_cwS 3 hts gX10_readText_X10_in rfl rfl rfl ds_X10_in ⟨Nat.le_of_ble_eq_true rfl, Nat.le_of_ble_eq_true rfl⟩) [] rfl rfl rfl hl.1 rfl (Nat.le_of_ble_eq_true rfl) dX10_readText_51 ⟨Nat.zero_le _, Nat.zero_le _⟩ ?_
        refine lv_if_ne (tgt := 59) hx hb dX10_readText_54 (by decide) (fun hc => ?_) (fun hc => ?_)
        · replace h := if_f hc h
          refine lv_aload_n hx hb dX10_readText_59 rfl (lv_at hl 0 rfl) ?_
          refine lv_aload_n hx hb dX10_readText_60 rfl (lv_at hl 0 rfl) ?_
          refine z_get S hw F31 0 rfl rfl dX10_readText_61 ?_
          refine lv_iconst (v := (1 : Int32)) hx hb dX10_readText_64 (by decide) ?_
          obtain ⟨hg, h⟩ := grd_el h
          refine z_iald S hw 1 0 rfl rfl hg dX10_readText_65 ?_
          refine lv_bipush (v := (48 : Int32)) hx hb dX10_readText_66 (by decide) ?_
          refine lv_isub hx hb dX10_readText_68 ?_
          refine lv_topi (fun i_readInputs_2 ei_readInputs_2 => ?_)
          replace h := bnd_at ei_readInputs_2 h
          refine z_put S hw F86 P86 rfl rfl 0 rfl (Nat.le_of_ble_eq_true rfl) dX10_readText_69 (fun H locs hw => ?_)
          refine lv_iconst (v := (2 : Int32)) hx hb dX10_readText_72 (by decide) ?_
          refine lv_istore_n (lv' := [(1, .int (2 : Int32)), (0, .ref a_this)]) hx hb dX10_readText_73 rfl hl (by decide) rfl (fun ls hl => ?_)
          obtain ⟨j271_1, ej271_1, h⟩ := bnd_ex h
          have hj271_1 : ∀ (x1_3 : Int32) (i_this_readGates_4 : Int32) (k_now_5 : (Nat → Int32)) (k_readOne_6 : (Nat → Int32)) (k_readOther_7 : (Nat → Int32)) (H : Heap) (locs : List Loc) (ls : Array Slot), j271_1 x1_3 i_this_readGates_4 k_now_5 k_readOne_6 k_readOther_7 = some (rr, o_this_readInputs, o_this_readGates, o_readNext, o_now, o_readOne, o_readOther) → Wd D (tyA cI cJ cZ cS) A s [(a_this, .inr (10, [.int i_this_inputs, .int i_this_gates, .ref a_now, .ref a_one, .ref a_other, .ref a_next, .int i_readInputs_2, .int i_this_readGates_4, .ref a_readOne, .ref a_readOther, .ref a_readNext, .ref a_text, .int i_this_length, .int i_this_paths, .ref a_pathInput, .ref a_pathGates, .ref a_before, .ref a_after, .ref a_values, .ref a_taken, .ref a_waves, .int i_this_acts, .int i_this_turn, .ref a_row, .int i_this_seen, .ref a_seenPair, .ref a_seenTime, .ref a_seenLate, .long i_this_seed, .ref a_isKept, .ref a_kept])), (a_text, .inl (cI, 40, .inl k_text)), (a_readNext, .inl (cI, 4, .inl k_readNext)), (a_now, .inl (cI, 32, .inl k_now_5)), (a_readOne, .inl (cI, 8, .inl k_readOne_6)), (a_readOther, .inl (cI, 8, .inl k_readOther_7))] H locs → lv_has ls 6 [(0, .ref a_this), (1, .int x1_3)] → W p l e rmX10_readText s m args below meth c H locs 0 0 Q (F0 m 271 ls []) := by
            intro x1_3 i_this_readGates_4 k_now_5 k_readOne_6 k_readOther_7 H locs ls h hw hl
            replace h := ap5 ej271_1 h
            refine lv_iload_n hx hb dX10_readText_271 rfl (lv_at hl 1 rfl) ?_
            refine lv_aload_n hx hb dX10_readText_272 rfl (lv_at hl 0 rfl) ?_
            refine z_get S hw F80 0 rfl rfl dX10_readText_273 ?_
            refine lv_icmp_ge (tgt := 286) hx hb dX10_readText_276 (by decide) (fun hc => ?_) (fun hc => ?_)
            · replace h := if_t hc h
              refine lv_iload_n hx hb dX10_readText_286 rfl (lv_at hl 1 rfl) ?_
              cases h
              exact z_iret S hQ hr hw [0, 1, 2, 3, 4, 5] rfl rfl dX10_readText_287
            · replace h := if_f hc h
              refine lv_aload_n hx hb dX10_readText_279 rfl (lv_at hl 0 rfl) ?_
              refine z_get S hw F91 0 rfl rfl dX10_readText_280 ?_
              refine lv_if_ne (tgt := 288) hx hb dX10_readText_283 (by decide) (fun hc => ?_) (fun hc => ?_)
              · replace h := if_f hc h
                refine lv_aload_n hx hb dX10_readText_288 rfl (lv_at hl 0 rfl) ?_
                refine lv_iload_n hx hb dX10_readText_289 rfl (lv_at hl 1 rfl) ?_
                refine lv_iconst (v := (1 : Int32)) hx hb dX10_readText_290 (by decide) ?_
                refine lv_iadd hx hb dX10_readText_291 ?_
                obtain ⟨r_8, k_readNext_9, e292_1, h⟩ := obd2_el h
                refine zc_VI (As := [.int (x1_3 + (1 : Int32))]) (rest := []) (wr := [(a_now, .inl (cI, 32, .inl k_now_5)), (a_readOne, .inl (cI, 8, .inl k_readOne_6)), (a_readOther, .inl (cI, 8, .inl k_readOther_7))]) (q0 := 0) S hw (c_X10_readEnd l D cI cJ cZ cS H.size N a_this a_text a_readNext a_now a_one a_other a_next a_readOne a_readOther a_pathInput a_pathGates a_before a_after a_values a_taken a_waves a_row a_seenPair a_seenTime a_seenLate a_isKept a_kept i_this_inputs i_this_gates i_readInputs_2 i_this_readGates_4 i_this_length i_this_paths i_this_acts i_this_turn i_this_seen i_this_seed k_text k_readNext (x1_3 + (1 : Int32)) r_8 k_readNext_9 e292_1) (cwV 1 hts gX10_readText_X10_readEnd rfl rfl rfl dv_X10_readEnd ⟨Nat.le_of_ble_eq_true rfl, Nat.le_of_ble_eq_true rfl⟩) [0, 1, 2] [3, 4, 5] rfl rfl rfl rfl (by decide) rfl rfl rfl rfl hl.1 rfl (Nat.le_of_ble_eq_true rfl) dX10_readText_292 ⟨Nat.zero_le _, Nat.zero_le _⟩ (fun H locs hw => ?_)
                cases h
                exact z_iret S hQ hr hw [3, 4, 5, 0, 1, 2] rfl rfl dX10_readText_295
              · replace h := if_t hc h
                refine lv_iload_n hx hb dX10_readText_286 rfl (lv_at hl 1 rfl) ?_
                cases h
                exact z_iret S hQ hr hw [0, 1, 2, 3, 4, 5] rfl rfl dX10_readText_287
          have hL74_1 : ∀ (nf : Nat) (x1_10 : Int32) (i_this_readGates_11 : Int32) (k_now_12 : (Nat → Int32)) (k_readOne_13 : (Nat → Int32)) (k_readOther_14 : (Nat → Int32)) (H : Heap) (locs : List Loc) (ls : Array Slot), f_X10_readText_L74 N i_this_length k_text k_readNext i_readInputs_2 j271_1 nf x1_10 i_this_readGates_11 k_now_12 k_readOne_13 k_readOther_14 = some (rr, o_this_readInputs, o_this_readGates, o_readNext, o_now, o_readOne, o_readOther) → Wd D (tyA cI cJ cZ cS) A s [(a_this, .inr (10, [.int i_this_inputs, .int i_this_gates, .ref a_now, .ref a_one, .ref a_other, .ref a_next, .int i_readInputs_2, .int i_this_readGates_11, .ref a_readOne, .ref a_readOther, .ref a_readNext, .ref a_text, .int i_this_length, .int i_this_paths, .ref a_pathInput, .ref a_pathGates, .ref a_before, .ref a_after, .ref a_values, .ref a_taken, .ref a_waves, .int i_this_acts, .int i_this_turn, .ref a_row, .int i_this_seen, .ref a_seenPair, .ref a_seenTime, .ref a_seenLate, .long i_this_seed, .ref a_isKept, .ref a_kept])), (a_text, .inl (cI, 40, .inl k_text)), (a_readNext, .inl (cI, 4, .inl k_readNext)), (a_now, .inl (cI, 32, .inl k_now_12)), (a_readOne, .inl (cI, 8, .inl k_readOne_13)), (a_readOther, .inl (cI, 8, .inl k_readOther_14))] H locs → lv_has ls 6 [(0, .ref a_this), (1, .int x1_10)] → W p l e rmX10_readText s m args below meth c H locs 0 0 Q (F0 m 74 ls []) := by
            intro nf
            induction nf with
            | zero =>
              intro x1_10 i_this_readGates_11 k_now_12 k_readOne_13 k_readOther_14 H locs ls h
              rw [f_X10_readText_L74] at h
              cases h
            | succ n_74 ih_74 =>
              intro x1_10 i_this_readGates_11 k_now_12 k_readOne_13 k_readOther_14 H locs ls h hw hl
              rw [f_X10_readText_L74] at h
              refine lv_iload_n hx hb dX10_readText_74 rfl (lv_at hl 1 rfl) ?_
              refine lv_aload_n hx hb dX10_readText_75 rfl (lv_at hl 0 rfl) ?_
              refine z_get S hw F80 0 rfl rfl dX10_readText_76 ?_
              refine lv_icmp_ge (tgt := 271) hx hb dX10_readText_79 (by decide) (fun hc => ?_) (fun hc => ?_)
              · replace h := if_t hc h
                exact hj271_1 x1_10 i_this_readGates_11 k_now_12 k_readOne_13 k_readOther_14 H locs ls h hw hl
              · replace h := if_f hc h
                refine lv_aload_n hx hb dX10_readText_82 rfl (lv_at hl 0 rfl) ?_
                refine z_get S hw F31 0 rfl rfl dX10_readText_83 ?_
                refine lv_iload_n hx hb dX10_readText_86 rfl (lv_at hl 1 rfl) ?_
                obtain ⟨hg, h⟩ := grd_el h
                refine z_iald S hw 1 0 rfl rfl hg dX10_readText_87 ?_
                refine lv_bipush (v := (62 : Int32)) hx hb dX10_readText_88 (by decide) ?_
                refine lv_icmp_eq (tgt := 271) hx hb dX10_readText_90 (by decide) (fun hc => ?_) (fun hc => ?_)
                · replace h := if_t hc h
                  exact hj271_1 x1_10 i_this_readGates_11 k_now_12 k_readOne_13 k_readOther_14 H locs ls h hw hl
                · replace h := if_f hc h
                  refine lv_aload_n hx hb dX10_readText_93 rfl (lv_at hl 0 rfl) ?_
                  refine z_get S hw F31 0 rfl rfl dX10_readText_94 ?_
                  refine lv_iload_n hx hb dX10_readText_97 rfl (lv_at hl 1 rfl) ?_
                  obtain ⟨hg, h⟩ := grd_el h
                  refine z_iald S hw 1 0 rfl rfl hg dX10_readText_98 ?_
                  obtain ⟨r_15, e99_1, h⟩ := obd1_el h
                  refine zr_SI (As := [.int (k_text x1_10.toNatClampNeg)]) (rest := []) (q0 := 0) (ci := 0) (fs := []) (qc := (RX0, TX0, 4)) S hw (c_X10_kindOf l D cI cJ cZ cS H.size N (k_text x1_10.toNatClampNeg) r_15 e99_1) (va_cwS 1 hts gX10_readText_X10_kindOf rfl rfl rfl ds_X10_kindOf ⟨Nat.le_of_ble_eq_true rfl, Nat.le_of_ble_eq_true rfl⟩) [] rfl rfl rfl hl.1 rfl (Nat.le_of_ble_eq_true rfl) dX10_readText_99 ⟨Nat.zero_le _, Nat.zero_le _⟩ ?_
                  refine lv_istore_n (lv' := [(2, .int r_15), (0, .ref a_this), (1, .int x1_10)]) hx hb dX10_readText_102 rfl hl (by decide) rfl (fun ls hl => ?_)
                  refine lv_iload_n hx hb dX10_readText_103 rfl (lv_at hl 0 rfl) ?_
                  refine lv_iconst (v := (4 : Int32)) hx hb dX10_readText_104 (by decide) ?_
                  obtain ⟨j126_1, ej126_1, h⟩ := bnd_ex h
                  have hj126_1 : ∀ (t_16 : Int32) (H : Heap) (locs : List Loc) (ls : Array Slot), j126_1 t_16 = some (rr, o_this_readInputs, o_this_readGates, o_readNext, o_now, o_readOne, o_readOther) → Wd D (tyA cI cJ cZ cS) A s [(a_this, .inr (10, [.int i_this_inputs, .int i_this_gates, .ref a_now, .ref a_one, .ref a_other, .ref a_next, .int i_readInputs_2, .int i_this_readGates_11, .ref a_readOne, .ref a_readOther, .ref a_readNext, .ref a_text, .int i_this_length, .int i_this_paths, .ref a_pathInput, .ref a_pathGates, .ref a_before, .ref a_after, .ref a_values, .ref a_taken, .ref a_waves, .int i_this_acts, .int i_this_turn, .ref a_row, .int i_this_seen, .ref a_seenPair, .ref a_seenTime, .ref a_seenLate, .long i_this_seed, .ref a_isKept, .ref a_kept])), (a_text, .inl (cI, 40, .inl k_text)), (a_readNext, .inl (cI, 4, .inl k_readNext)), (a_now, .inl (cI, 32, .inl k_now_12)), (a_readOne, .inl (cI, 8, .inl k_readOne_13)), (a_readOther, .inl (cI, 8, .inl k_readOther_14))] H locs → lv_has ls 6 [(0, .ref a_this), (1, .int x1_10), (2, .int r_15)] → W p l e rmX10_readText s m args below meth c H locs 0 0 Q (F0 m 126 ls [.int t_16]) := by
                    intro t_16 H locs ls h hw hl
                    replace h := ap1 ej126_1 h
                    refine lv_istore_n (lv' := [(3, .int t_16), (0, .ref a_this), (1, .int x1_10), (2, .int r_15)]) hx hb dX10_readText_126 rfl hl (by decide) rfl (fun ls hl => ?_)
                    refine lv_iload_n hx hb dX10_readText_127 rfl (lv_at hl 3 rfl) ?_
                    refine lv_bipush (v := (-9 : Int32)) hx hb dX10_readText_128 (by decide) ?_
                    refine lv_icmp_eq (tgt := 146) hx hb dX10_readText_130 (by decide) (fun hc => ?_) (fun hc => ?_)
                    · replace h := if_t hc h
                      refine lv_iload_n hx hb dX10_readText_146 rfl (lv_at hl 2 rfl) ?_
                      cases h
                      exact z_iret S hQ hr hw [0, 1, 2, 3, 4, 5] rfl rfl dX10_readText_147
                    · replace h := if_f hc h
                      refine lv_iload_n hx hb dX10_readText_133 rfl (lv_at hl 0 rfl) ?_
                      refine lv_if_ne (tgt := 146) hx hb dX10_readText_134 (by decide) (fun hc => ?_) (fun hc => ?_)
                      · replace h := if_f hc h
                        refine lv_iload_n hx hb dX10_readText_146 rfl (lv_at hl 2 rfl) ?_
                        cases h
                        exact z_iret S hQ hr hw [0, 1, 2, 3, 4, 5] rfl rfl dX10_readText_147
                      · replace h := if_t hc h
                        refine lv_aload_n hx hb dX10_readText_137 rfl (lv_at hl 1 rfl) ?_
                        refine z_get S hw F91 0 rfl rfl dX10_readText_138 ?_
                        refine lv_bipush (v := (8 : Int32)) hx hb dX10_readText_141 (by decide) ?_
                        refine lv_icmp_ne (tgt := 148) hx hb dX10_readText_143 (by decide) (fun hc => ?_) (fun hc => ?_)
                        · replace h := if_f hc h
                          refine lv_aload_n hx hb dX10_readText_148 rfl (lv_at hl 1 rfl) ?_
                          refine lv_iload_n hx hb dX10_readText_149 rfl (lv_at hl 2 rfl) ?_
                          refine lv_iconst (v := (1 : Int32)) hx hb dX10_readText_150 (by decide) ?_
                          refine lv_iadd hx hb dX10_readText_151 ?_
                          obtain ⟨r_17, e152_1, h⟩ := obd1_el h
                          refine zr_VI (As := [.int (x1_10 + (1 : Int32))]) (rest := []) (q0 := 0) S hw (c_X10_signalAt l D cI cJ cZ cS H.size N a_this a_text a_now a_one a_other a_next a_readOne a_readOther a_readNext a_pathInput a_pathGates a_before a_after a_values a_taken a_waves a_row a_seenPair a_seenTime a_seenLate a_isKept a_kept i_this_inputs i_this_gates i_readInputs_2 i_this_readGates_11 i_this_length i_this_paths i_this_acts i_this_turn i_this_seen i_this_seed k_text (x1_10 + (1 : Int32)) r_17 e152_1) (cwV 1 hts gX10_readText_X10_signalAt rfl rfl rfl dv_X10_signalAt ⟨Nat.le_of_ble_eq_true rfl, Nat.le_of_ble_eq_true rfl⟩) [0, 1] rfl rfl rfl rfl rfl rfl hl.1 rfl (Nat.le_of_ble_eq_true rfl) dX10_readText_152 ⟨Nat.zero_le _, Nat.zero_le _⟩ ?_
                          refine lv_istore (lv' := [(4, .int r_17), (3, .int t_16), (0, .ref a_this), (1, .int x1_10), (2, .int r_15)]) hx hb dX10_readText_155 hl (by decide) rfl (fun ls hl => ?_)
                          refine lv_iload hx hb dX10_readText_157 (lv_at hl 0 rfl) ?_
                          refine lv_bipush (v := (-9 : Int32)) hx hb dX10_readText_159 (by decide) ?_
                          refine lv_icmp_ne (tgt := 168) hx hb dX10_readText_161 (by decide) (fun hc => ?_) (fun hc => ?_)
                          · replace h := if_f hc h
                            refine lv_iload_n hx hb dX10_readText_168 rfl (lv_at hl 4 rfl) ?_
                            refine lv_iconst (v := (4 : Int32)) hx hb dX10_readText_169 (by decide) ?_
                            obtain ⟨j185_1, ej185_1, h⟩ := bnd_ex h
                            have hj185_1 : ∀ (t_18 : Int32) (H : Heap) (locs : List Loc) (ls : Array Slot), j185_1 t_18 = some (rr, o_this_readInputs, o_this_readGates, o_readNext, o_now, o_readOne, o_readOther) → Wd D (tyA cI cJ cZ cS) A s [(a_this, .inr (10, [.int i_this_inputs, .int i_this_gates, .ref a_now, .ref a_one, .ref a_other, .ref a_next, .int i_readInputs_2, .int i_this_readGates_11, .ref a_readOne, .ref a_readOther, .ref a_readNext, .ref a_text, .int i_this_length, .int i_this_paths, .ref a_pathInput, .ref a_pathGates, .ref a_before, .ref a_after, .ref a_values, .ref a_taken, .ref a_waves, .int i_this_acts, .int i_this_turn, .ref a_row, .int i_this_seen, .ref a_seenPair, .ref a_seenTime, .ref a_seenLate, .long i_this_seed, .ref a_isKept, .ref a_kept])), (a_text, .inl (cI, 40, .inl k_text)), (a_readNext, .inl (cI, 4, .inl k_readNext)), (a_now, .inl (cI, 32, .inl k_now_12)), (a_readOne, .inl (cI, 8, .inl k_readOne_13)), (a_readOther, .inl (cI, 8, .inl k_readOther_14))] H locs → lv_has ls 6 [(0, .ref a_this), (1, .int x1_10), (2, .int r_15), (4, .int r_17)] → W p l e rmX10_readText s m args below meth c H locs 0 0 Q (F0 m 185 ls [.int t_18]) := by
                              intro t_18 H locs ls h hw hl
                              replace h := ap1 ej185_1 h
                              refine lv_istore (lv' := [(5, .int t_18), (0, .ref a_this), (1, .int x1_10), (2, .int r_15), (4, .int r_17)]) hx hb dX10_readText_185 hl (by decide) rfl (fun ls hl => ?_)
                              refine lv_iload_n hx hb dX10_readText_187 rfl (lv_at hl 3 rfl) ?_
                              refine lv_iconst (v := (4 : Int32)) hx hb dX10_readText_188 (by decide) ?_
                              obtain ⟨j210_1, ej210_1, h⟩ := bnd_ex h
                              have hj210_1 : ∀ (H : Heap) (locs : List Loc) (ls : Array Slot), j210_1 = some (rr, o_this_readInputs, o_this_readGates, o_readNext, o_now, o_readOne, o_readOther) → Wd D (tyA cI cJ cZ cS) A s [(a_this, .inr (10, [.int i_this_inputs, .int i_this_gates, .ref a_now, .ref a_one, .ref a_other, .ref a_next, .int i_readInputs_2, .int i_this_readGates_11, .ref a_readOne, .ref a_readOther, .ref a_readNext, .ref a_text, .int i_this_length, .int i_this_paths, .ref a_pathInput, .ref a_pathGates, .ref a_before, .ref a_after, .ref a_values, .ref a_taken, .ref a_waves, .int i_this_acts, .int i_this_turn, .ref a_row, .int i_this_seen, .ref a_seenPair, .ref a_seenTime, .ref a_seenLate, .long i_this_seed, .ref a_isKept, .ref a_kept])), (a_text, .inl (cI, 40, .inl k_text)), (a_readNext, .inl (cI, 4, .inl k_readNext)), (a_now, .inl (cI, 32, .inl k_now_12)), (a_readOne, .inl (cI, 8, .inl k_readOne_13)), (a_readOther, .inl (cI, 8, .inl k_readOther_14))] H locs → lv_has ls 6 [(0, .ref a_this), (1, .int x1_10), (2, .int r_15), (4, .int r_17), (5, .int t_18)] → W p l e rmX10_readText s m args below meth c H locs 0 0 Q (F0 m 210 ls []) := by
                                intro H locs ls h hw hl
                                replace h := ap0 ej210_1 h
                                refine lv_aload_n hx hb dX10_readText_210 rfl (lv_at hl 0 rfl) ?_
                                refine z_get S hw F7 0 rfl rfl dX10_readText_211 ?_
                                refine lv_bipush (v := (16 : Int32)) hx hb dX10_readText_214 (by decide) ?_
                                refine lv_aload_n hx hb dX10_readText_216 rfl (lv_at hl 0 rfl) ?_
                                refine z_get S hw F91 0 rfl rfl dX10_readText_217 ?_
                                refine lv_iadd hx hb dX10_readText_220 ?_
                                refine lv_iload_n hx hb dX10_readText_221 rfl (lv_at hl 2 rfl) ?_
                                obtain ⟨hg, h⟩ := grd_el h
                                obtain ⟨k_now_19, ek_now_19, h⟩ := bnd_ex h
                                refine z_iast S hw ek_now_19 3 0 rfl rfl hg dX10_readText_222 (fun H locs hw => ?_)
                                refine lv_aload_n hx hb dX10_readText_223 rfl (lv_at hl 0 rfl) ?_
                                refine z_get S hw F22 0 rfl rfl dX10_readText_224 ?_
                                refine lv_aload_n hx hb dX10_readText_227 rfl (lv_at hl 0 rfl) ?_
                                refine z_get S hw F91 0 rfl rfl dX10_readText_228 ?_
                                refine lv_iload hx hb dX10_readText_231 (lv_at hl 3 rfl) ?_
                                obtain ⟨hg, h⟩ := grd_el h
                                obtain ⟨k_readOne_20, ek_readOne_20, h⟩ := bnd_ex h
                                refine z_iast S hw ek_readOne_20 4 0 rfl rfl hg dX10_readText_233 (fun H locs hw => ?_)
                                refine lv_aload_n hx hb dX10_readText_234 rfl (lv_at hl 0 rfl) ?_
                                refine z_get S hw F25 0 rfl rfl dX10_readText_235 ?_
                                refine lv_aload_n hx hb dX10_readText_238 rfl (lv_at hl 0 rfl) ?_
                                refine z_get S hw F91 0 rfl rfl dX10_readText_239 ?_
                                refine lv_iload hx hb dX10_readText_242 (lv_at hl 4 rfl) ?_
                                obtain ⟨hg, h⟩ := grd_el h
                                obtain ⟨k_readOther_21, ek_readOther_21, h⟩ := bnd_ex h
                                refine z_iast S hw ek_readOther_21 5 0 rfl rfl hg dX10_readText_244 (fun H locs hw => ?_)
                                refine lv_aload_n hx hb dX10_readText_245 rfl (lv_at hl 0 rfl) ?_
                                refine lv_dup hx hb dX10_readText_246 rfl ?_
                                refine z_get S hw F91 0 rfl rfl dX10_readText_247 ?_
                                refine lv_iconst (v := (1 : Int32)) hx hb dX10_readText_250 (by decide) ?_
                                refine lv_iadd hx hb dX10_readText_251 ?_
                                refine lv_topi (fun i_readGates_22 ei_readGates_22 => ?_)
                                replace h := bnd_at ei_readGates_22 h
                                refine z_put S hw F91 P91 rfl rfl 0 rfl (Nat.le_of_ble_eq_true rfl) dX10_readText_252 (fun H locs hw => ?_)
                                refine lv_iload_n hx hb dX10_readText_255 rfl (lv_at hl 1 rfl) ?_
                                refine lv_iload_n hx hb dX10_readText_256 rfl (lv_at hl 2 rfl) ?_
                                refine lv_iconst (v := (4 : Int32)) hx hb dX10_readText_257 (by decide) ?_
                                obtain ⟨j266_1, ej266_1, h⟩ := bnd_ex h
                                have hj266_1 : ∀ (t_23 : Int32) (t_24 : Int32) (H : Heap) (locs : List Loc) (ls : Array Slot), j266_1 t_23 t_24 = some (rr, o_this_readInputs, o_this_readGates, o_readNext, o_now, o_readOne, o_readOther) → Wd D (tyA cI cJ cZ cS) A s [(a_this, .inr (10, [.int i_this_inputs, .int i_this_gates, .ref a_now, .ref a_one, .ref a_other, .ref a_next, .int i_readInputs_2, .int i_readGates_22, .ref a_readOne, .ref a_readOther, .ref a_readNext, .ref a_text, .int i_this_length, .int i_this_paths, .ref a_pathInput, .ref a_pathGates, .ref a_before, .ref a_after, .ref a_values, .ref a_taken, .ref a_waves, .int i_this_acts, .int i_this_turn, .ref a_row, .int i_this_seen, .ref a_seenPair, .ref a_seenTime, .ref a_seenLate, .long i_this_seed, .ref a_isKept, .ref a_kept])), (a_text, .inl (cI, 40, .inl k_text)), (a_readNext, .inl (cI, 4, .inl k_readNext)), (a_now, .inl (cI, 32, .inl k_now_19)), (a_readOne, .inl (cI, 8, .inl k_readOne_20)), (a_readOther, .inl (cI, 8, .inl k_readOther_21))] H locs → lv_has ls 6 [(0, .ref a_this)] → W p l e rmX10_readText s m args below meth c H locs 0 0 Q (F0 m 266 ls [.int t_23, .int t_24]) := by
                                  intro t_23 t_24 H locs ls h hw hl
                                  replace h := ap2 ej266_1 h
                                  refine lv_iadd hx hb dX10_readText_266 ?_
                                  refine lv_topi (fun x1_25 ex1_25 => ?_)
                                  replace h := bnd_at ex1_25 h
                                  refine lv_istore_n (lv' := [(1, .int x1_25), (0, .ref a_this)]) hx hb dX10_readText_267 rfl hl (by decide) rfl (fun ls hl => ?_)
                                  refine lv_goto (tgt := 74) hx hb dX10_readText_268 (by decide) ?_
                                  exact ih_74 x1_25 i_readGates_22 k_now_19 k_readOne_20 k_readOther_21 H locs ls h hw (lv_sub hl [1, 0] rfl)
                                refine lv_icmp_ne (tgt := 265) hx hb dX10_readText_258 (by decide) (fun hc => ?_) (fun hc => ?_)
                                · replace h := if_f hc h
                                  refine lv_iconst (v := (3 : Int32)) hx hb dX10_readText_265 (by decide) ?_
                                  exact hj266_1 ((3 : Int32)) x1_10 H locs ls h hw (lv_sub hl [0] rfl)
                                · replace h := if_t hc h
                                  refine lv_iconst (v := (2 : Int32)) hx hb dX10_readText_261 (by decide) ?_
                                  refine lv_goto (tgt := 266) hx hb dX10_readText_262 (by decide) ?_
                                  exact hj266_1 ((2 : Int32)) x1_10 H locs ls h hw (lv_sub hl [0] rfl)
                              refine lv_icmp_eq (tgt := 210) hx hb dX10_readText_189 (by decide) (fun hc => ?_) (fun hc => ?_)
                              · replace h := if_t hc h
                                exact hj210_1  H locs ls h hw (lv_sub hl [1, 2, 3, 4, 0] rfl)
                              · replace h := if_f hc h
                                refine lv_iload hx hb dX10_readText_192 (lv_at hl 0 rfl) ?_
                                refine lv_bipush (v := (-9 : Int32)) hx hb dX10_readText_194 (by decide) ?_
                                obtain ⟨j206_1, ej206_1, h⟩ := bnd_ex h
                                have hj206_1 : ∀ (H : Heap) (locs : List Loc) (ls : Array Slot), j206_1 = some (rr, o_this_readInputs, o_this_readGates, o_readNext, o_now, o_readOne, o_readOther) → Wd D (tyA cI cJ cZ cS) A s [(a_this, .inr (10, [.int i_this_inputs, .int i_this_gates, .ref a_now, .ref a_one, .ref a_other, .ref a_next, .int i_readInputs_2, .int i_this_readGates_11, .ref a_readOne, .ref a_readOther, .ref a_readNext, .ref a_text, .int i_this_length, .int i_this_paths, .ref a_pathInput, .ref a_pathGates, .ref a_before, .ref a_after, .ref a_values, .ref a_taken, .ref a_waves, .int i_this_acts, .int i_this_turn, .ref a_row, .int i_this_seen, .ref a_seenPair, .ref a_seenTime, .ref a_seenLate, .long i_this_seed, .ref a_isKept, .ref a_kept])), (a_text, .inl (cI, 40, .inl k_text)), (a_readNext, .inl (cI, 4, .inl k_readNext)), (a_now, .inl (cI, 32, .inl k_now_12)), (a_readOne, .inl (cI, 8, .inl k_readOne_13)), (a_readOther, .inl (cI, 8, .inl k_readOther_14))] H locs → lv_has ls 6 [(1, .int x1_10)] → W p l e rmX10_readText s m args below meth c H locs 0 0 Q (F0 m 206 ls []) := by
                                  intro H locs ls h hw hl
                                  replace h := ap0 ej206_1 h
                                  refine lv_iload_n hx hb dX10_readText_206 rfl (lv_at hl 0 rfl) ?_
                                  refine lv_iconst (v := (2 : Int32)) hx hb dX10_readText_207 (by decide) ?_
                                  refine lv_iadd hx hb dX10_readText_208 ?_
                                  cases h
                                  exact z_iret S hQ hr hw [0, 1, 2, 3, 4, 5] rfl rfl dX10_readText_209
                                refine lv_icmp_eq (tgt := 206) hx hb dX10_readText_196 (by decide) (fun hc => ?_) (fun hc => ?_)
                                · replace h := if_t hc h
                                  exact hj206_1  H locs ls h hw (lv_sub hl [2] rfl)
                                · replace h := if_f hc h
                                  refine lv_iload hx hb dX10_readText_199 (lv_at hl 0 rfl) ?_
                                  refine lv_iload hx hb dX10_readText_201 (lv_at hl 4 rfl) ?_
                                  refine lv_icmp_ne (tgt := 210) hx hb dX10_readText_203 (by decide) (fun hc => ?_) (fun hc => ?_)
                                  · replace h := if_f hc h
                                    exact hj210_1  H locs ls h hw (lv_sub hl [1, 2, 3, 4, 0] rfl)
                                  · replace h := if_t hc h
                                    exact hj206_1  H locs ls h hw (lv_sub hl [2] rfl)
                            refine lv_icmp_ne (tgt := 178) hx hb dX10_readText_170 (by decide) (fun hc => ?_) (fun hc => ?_)
                            · replace h := if_f hc h
                              refine lv_aload_n hx hb dX10_readText_178 rfl (lv_at hl 2 rfl) ?_
                              refine lv_iload_n hx hb dX10_readText_179 rfl (lv_at hl 3 rfl) ?_
                              refine lv_iconst (v := (2 : Int32)) hx hb dX10_readText_180 (by decide) ?_
                              refine lv_iadd hx hb dX10_readText_181 ?_
                              obtain ⟨r_26, e182_1, h⟩ := obd1_el h
                              refine zr_VI (As := [.int (x1_10 + (2 : Int32))]) (rest := []) (q0 := 0) S hw (c_X10_signalAt l D cI cJ cZ cS H.size N a_this a_text a_now a_one a_other a_next a_readOne a_readOther a_readNext a_pathInput a_pathGates a_before a_after a_values a_taken a_waves a_row a_seenPair a_seenTime a_seenLate a_isKept a_kept i_this_inputs i_this_gates i_readInputs_2 i_this_readGates_11 i_this_length i_this_paths i_this_acts i_this_turn i_this_seen i_this_seed k_text (x1_10 + (2 : Int32)) r_26 e182_1) (cwV 1 hts gX10_readText_X10_signalAt rfl rfl rfl dv_X10_signalAt ⟨Nat.le_of_ble_eq_true rfl, Nat.le_of_ble_eq_true rfl⟩) [0, 1] rfl rfl rfl rfl rfl rfl hl.1 rfl (Nat.le_of_ble_eq_true rfl) dX10_readText_182 ⟨Nat.zero_le _, Nat.zero_le _⟩ ?_
                              exact hj185_1 r_26 H locs ls h hw (lv_sub hl [2, 3, 4, 0] rfl)
                            · replace h := if_t hc h
                              refine lv_bipush (v := (-9 : Int32)) hx hb dX10_readText_173 (by decide) ?_
                              refine lv_goto (tgt := 185) hx hb dX10_readText_175 (by decide) ?_
                              exact hj185_1 ((-9 : Int32)) H locs ls h hw (lv_sub hl [2, 3, 4, 0] rfl)
                          · replace h := if_t hc h
                            refine lv_iload_n hx hb dX10_readText_164 rfl (lv_at hl 3 rfl) ?_
                            refine lv_iconst (v := (1 : Int32)) hx hb dX10_readText_165 (by decide) ?_
                            refine lv_iadd hx hb dX10_readText_166 ?_
                            cases h
                            exact z_iret S hQ hr hw [0, 1, 2, 3, 4, 5] rfl rfl dX10_readText_167
                        · replace h := if_t hc h
                          refine lv_iload_n hx hb dX10_readText_146 rfl (lv_at hl 2 rfl) ?_
                          cases h
                          exact z_iret S hQ hr hw [0, 1, 2, 3, 4, 5] rfl rfl dX10_readText_147
                  obtain ⟨j125_1, ej125_1, h⟩ := bnd_ex h
                  have hj125_1 : ∀ (H : Heap) (locs : List Loc) (ls : Array Slot), j125_1 = some (rr, o_this_readInputs, o_this_readGates, o_readNext, o_now, o_readOne, o_readOther) → Wd D (tyA cI cJ cZ cS) A s [(a_this, .inr (10, [.int i_this_inputs, .int i_this_gates, .ref a_now, .ref a_one, .ref a_other, .ref a_next, .int i_readInputs_2, .int i_this_readGates_11, .ref a_readOne, .ref a_readOther, .ref a_readNext, .ref a_text, .int i_this_length, .int i_this_paths, .ref a_pathInput, .ref a_pathGates, .ref a_before, .ref a_after, .ref a_values, .ref a_taken, .ref a_waves, .int i_this_acts, .int i_this_turn, .ref a_row, .int i_this_seen, .ref a_seenPair, .ref a_seenTime, .ref a_seenLate, .long i_this_seed, .ref a_isKept, .ref a_kept])), (a_text, .inl (cI, 40, .inl k_text)), (a_readNext, .inl (cI, 4, .inl k_readNext)), (a_now, .inl (cI, 32, .inl k_now_12)), (a_readOne, .inl (cI, 8, .inl k_readOne_13)), (a_readOther, .inl (cI, 8, .inl k_readOther_14))] H locs → lv_has ls 6 [(0, .ref a_this), (1, .int x1_10), (2, .int r_15)] → W p l e rmX10_readText s m args below meth c H locs 0 0 Q (F0 m 125 ls []) := by
                    intro H locs ls h hw hl
                    replace h := ap0 ej125_1 h
                    refine lv_iconst (v := (0 : Int32)) hx hb dX10_readText_125 (by decide) ?_
                    exact hj126_1 ((0 : Int32)) H locs ls h hw hl
                  refine lv_icmp_eq (tgt := 125) hx hb dX10_readText_105 (by decide) (fun hc => ?_) (fun hc => ?_)
                  · replace h := if_t hc h
                    exact hj125_1  H locs ls h hw (lv_sub hl [1, 2, 0] rfl)
                  · replace h := if_f hc h
                    refine lv_aload_n hx hb dX10_readText_108 rfl (lv_at hl 1 rfl) ?_
                    refine z_get S hw F86 0 rfl rfl dX10_readText_109 ?_
                    refine lv_aload_n hx hb dX10_readText_112 rfl (lv_at hl 1 rfl) ?_
                    refine z_get S hw F91 0 rfl rfl dX10_readText_113 ?_
                    refine lv_iadd hx hb dX10_readText_116 ?_
                    refine lv_iconst (v := (2 : Int32)) hx hb dX10_readText_117 (by decide) ?_
                    refine lv_icmp_ge (tgt := 125) hx hb dX10_readText_118 (by decide) (fun hc => ?_) (fun hc => ?_)
                    · replace h := if_t hc h
                      exact hj125_1  H locs ls h hw (lv_sub hl [1, 2, 0] rfl)
                    · replace h := if_f hc h
                      refine lv_iconst (v := (1 : Int32)) hx hb dX10_readText_121 (by decide) ?_
                      refine lv_goto (tgt := 126) hx hb dX10_readText_122 (by decide) ?_
                      exact hj126_1 ((1 : Int32)) H locs ls h hw (lv_sub hl [1, 2, 0] rfl)
          exact hL74_1 N ((2 : Int32)) ((0 : Int32)) k_now k_readOne k_readOther H locs ls h hw (lv_sub hl [1, 0] rfl)
        · replace h := if_t hc h
          refine lv_iconst (v := (1 : Int32)) hx hb dX10_readText_57 (by decide) ?_
          cases h
          exact z_iret S hQ hr hw [0, 1, 2, 3, 4, 5] rfl rfl dX10_readText_58
    · replace h := if_f hc h
      refine lv_iconst (v := (0 : Int32)) hx hb dX10_readText_28 (by decide) ?_
      cases h
      exact z_iret S hQ hr hw [0, 1, 2, 3, 4, 5] rfl rfl dX10_readText_29
abbrev rmX10_fault : Room := { frames := 4, cells := 0, slots := 0, locals := 93 }
theorem dv_X10_fault : yX10_fault.cls = RX10 ∧ yX10_fault.cls ≠ "java/lang/invoke/MethodHandle" ∧ yX10_fault.cls ≠ "java/lang/invoke/VarHandle" ∧ (parseMethodDescriptor yX10_fault.desc).map (fun d => d.parameters.length) = some 0 := by decide +kernel
noncomputable def f_X10_fault (N : Nat)  (i_this_readInputs : Int32) (i_this_readGates : Int32) (i_this_length : Int32) (k_text : (Nat → Int32)) (k_readNext : (Nat → Int32)) (k_now : (Nat → Int32)) (k_readOne : (Nat → Int32)) (k_readOther : (Nat → Int32)) : Option (Int32 × Int32 × Int32 × (Nat → Int32) × (Nat → Int32) × (Nat → Int32) × (Nat → Int32)) :=
  obd7 (f_X10_readText N i_this_readInputs i_this_readGates i_this_length k_text k_readNext k_now k_readOne k_readOther) fun (r_1 : Int32) (i_this_readInputs_2 : Int32) (i_this_readGates_3 : Int32) (k_readNext_4 : (Nat → Int32)) (k_now_5 : (Nat → Int32)) (k_readOne_6 : (Nat → Int32)) (k_readOther_7 : (Nat → Int32)) => some (r_1, i_this_readInputs_2, i_this_readGates_3, k_readNext_4, k_now_5, k_readOne_6, k_readOther_7)
set_option maxHeartbeats 4000000 in
set_option maxRecDepth 100000 in
theorem c_X10_fault (l : Launch) (D : va_G) (cI cJ cZ cS : ClassId) (sz N : Nat) (a_this a_text a_readNext a_now a_readOne a_readOther a_one a_other a_next a_pathInput a_pathGates a_before a_after a_values a_taken a_waves a_row a_seenPair a_seenTime a_seenLate a_isKept a_kept : Nat) (i_this_inputs : Int32) (i_this_gates : Int32) (i_this_readInputs : Int32) (i_this_readGates : Int32) (i_this_length : Int32) (i_this_paths : Int32) (i_this_acts : Int32) (i_this_turn : Int32) (i_this_seen : Int32) (i_this_seed : Int64) (k_text : (Nat → Int32)) (k_readNext : (Nat → Int32)) (k_now : (Nat → Int32)) (k_readOne : (Nat → Int32)) (k_readOther : (Nat → Int32))  (rr : Int32) (o_this_readInputs : Int32) (o_this_readGates : Int32) (o_readNext : (Nat → Int32)) (o_now : (Nat → Int32)) (o_readOne : (Nat → Int32)) (o_readOther : (Nat → Int32)) (hf : f_X10_fault N i_this_readInputs i_this_readGates i_this_length k_text k_readNext k_now k_readOne k_readOther = some (rr, o_this_readInputs, o_this_readGates, o_readNext, o_now, o_readOne, o_readOther)) : MetI l yX10_fault wsX10_fault rmX10_fault D (tyA cI cJ cZ cS) [(a_this, .inr (10, [.int i_this_inputs, .int i_this_gates, .ref a_now, .ref a_one, .ref a_other, .ref a_next, .int i_this_readInputs, .int i_this_readGates, .ref a_readOne, .ref a_readOther, .ref a_readNext, .ref a_text, .int i_this_length, .int i_this_paths, .ref a_pathInput, .ref a_pathGates, .ref a_before, .ref a_after, .ref a_values, .ref a_taken, .ref a_waves, .int i_this_acts, .int i_this_turn, .ref a_row, .int i_this_seen, .ref a_seenPair, .ref a_seenTime, .ref a_seenLate, .long i_this_seed, .ref a_isKept, .ref a_kept])), (a_text, .inl (cI, 40, .inl k_text)), (a_readNext, .inl (cI, 4, .inl k_readNext)), (a_now, .inl (cI, 32, .inl k_now)), (a_readOne, .inl (cI, 8, .inl k_readOne)), (a_readOther, .inl (cI, 8, .inl k_readOther))] sz [.ref a_this] rr [(a_this, .inr (10, [.int i_this_inputs, .int i_this_gates, .ref a_now, .ref a_one, .ref a_other, .ref a_next, .int o_this_readInputs, .int o_this_readGates, .ref a_readOne, .ref a_readOther, .ref a_readNext, .ref a_text, .int i_this_length, .int i_this_paths, .ref a_pathInput, .ref a_pathGates, .ref a_before, .ref a_after, .ref a_values, .ref a_taken, .ref a_waves, .int i_this_acts, .int i_this_turn, .ref a_row, .int i_this_seen, .ref a_seenPair, .ref a_seenTime, .ref a_seenLate, .long i_this_seed, .ref a_isKept, .ref a_kept])), (a_text, .inl (cI, 40, .inl k_text)), (a_readNext, .inl (cI, 4, .inl o_readNext)), (a_now, .inl (cI, 32, .inl o_now)), (a_readOne, .inl (cI, 8, .inl o_readOne)), (a_readOther, .inl (cI, 8, .inl o_readOther))] := by
  refine entI (cc := cX10_fault) (maxL := 1) (own := RX10) (by decide) rfl rfl (Nat.le_of_ble_eq_true rfl) ?_
  intro p e s m args below meth c A ls Q H locs S hr hw hl hQ
  have hx := S.1.1
  have hb := S.1.2.1
  have hts := S.1.2.2.2.2
  have hl : lv_has ls 1 [(0, .ref a_this)] := hl
  have h := hf
  rw [f_X10_fault] at h
  refine lv_aload_n hx hb dX10_fault_0 rfl (lv_at hl 0 rfl) ?_
  obtain ⟨r_1, i_this_readInputs_2, i_this_readGates_3, k_readNext_4, k_now_5, k_readOne_6, k_readOther_7, e1_1, h⟩ := obd7_el h
  refine zc_VI (As := []) (rest := []) (wr := []) (q0 := 0) S hw (c_X10_readText l D cI cJ cZ cS H.size N a_this a_text a_readNext a_now a_readOne a_readOther a_one a_other a_next a_pathInput a_pathGates a_before a_after a_values a_taken a_waves a_row a_seenPair a_seenTime a_seenLate a_isKept a_kept i_this_inputs i_this_gates i_this_readInputs i_this_readGates i_this_length i_this_paths i_this_acts i_this_turn i_this_seen i_this_seed k_text k_readNext k_now k_readOne k_readOther r_1 i_this_readInputs_2 i_this_readGates_3 k_readNext_4 k_now_5 k_readOne_6 k_readOther_7 e1_1) (cwV 0 hts gX10_fault_X10_readText rfl rfl rfl dv_X10_readText ⟨Nat.le_of_ble_eq_true rfl, Nat.le_of_ble_eq_true rfl⟩) [0, 1, 2, 3, 4, 5] [] rfl rfl rfl rfl (by decide) rfl rfl rfl rfl hl.1 rfl (Nat.le_of_ble_eq_true rfl) dX10_fault_1 ⟨Nat.zero_le _, Nat.zero_le _⟩ (fun H locs hw => ?_)
  cases h
  exact z_iret S hQ hr hw [0, 1, 2, 3, 4, 5] rfl rfl dX10_fault_4
abbrev rmX10_turned : Room := { frames := 1, cells := 0, slots := 0, locals := 21 }
theorem ds_X10_turned : yX10_turned.cls ≠ "java/lang/invoke/MethodHandle" ∧ yX10_turned.cls ≠ "java/lang/invoke/VarHandle" ∧ (parseMethodDescriptor yX10_turned.desc).map (fun d => d.parameters.length) = some 1 := by decide +kernel
noncomputable def f_X10_turned_L4 (N : Nat) (y0 : Int32) (j36_1 : Int32 → Option (Int32)) : Nat → Int32 → Int32 → Option (Int32)
  | 0, _, _ => none
  | n_4 + 1, x1_2, x2_3 =>
    (if (8 : Int32) ≤ x2_3 then (j36_1 x1_2) else (obd1 (f_X10_has N y0 x2_3) fun (r_4 : Int32) => bnd (fun (t_5 : Int32) (t_6 : Int32) => (bnd ((t_6 ||| t_5)) fun (x1_7 : Int32) => bnd (x2_3 + (1 : Int32)) fun (x2_8 : Int32) => f_X10_turned_L4 N y0 j36_1 n_4 x1_7 x2_8)) fun (j28_1 : Int32 → Int32 → Option (Int32)) => (if r_4 = (0 : Int32) then (j28_1 ((0 : Int32)) x1_2) else (j28_1 (((128 : Int32) >>> (x2_3 &&& 31))) x1_2))))
noncomputable def f_X10_turned (N : Nat) (y0 : Int32)  : Option (Int32) :=
  bnd (fun (x1_1 : Int32) => (some (x1_1))) fun (j36_1 : Int32 → Option (Int32)) => f_X10_turned_L4 N y0 j36_1 N ((0 : Int32)) ((0 : Int32))
set_option maxHeartbeats 4000000 in
set_option maxRecDepth 100000 in
theorem c_X10_turned (l : Launch) (D : va_G) (cI cJ cZ cS : ClassId) (sz N : Nat)   (y0 : Int32) (rr : Int32) (hf : f_X10_turned N y0 = some (rr)) : MetIr l yX10_turned wsX10_turned rmX10_turned D (tyA cI cJ cZ cS) [] sz [.int y0] rr := by
  refine entIr (cc := cX10_turned) (maxL := 3) (own := RX10) (by decide) rfl rfl (Nat.le_of_ble_eq_true rfl) ?_
  intro p e s m args below meth c A ls Q S hr hw hl hQ
  have hx := S.1.1
  have hb := S.1.2.1
  have hts := S.1.2.2.2.2
  have hl : lv_has ls 3 [(0, .int y0)] := hl
  have h := hf
  rw [f_X10_turned] at h
  refine lv_iconst (v := (0 : Int32)) hx hb dX10_turned_0 (by decide) ?_
  refine lv_istore_n (lv' := [(1, .int (0 : Int32)), (0, .int y0)]) hx hb dX10_turned_1 rfl hl (by decide) rfl (fun ls hl => ?_)
  refine lv_iconst (v := (0 : Int32)) hx hb dX10_turned_2 (by decide) ?_
  refine lv_istore_n (lv' := [(2, .int (0 : Int32)), (1, .int (0 : Int32)), (0, .int y0)]) hx hb dX10_turned_3 rfl hl (by decide) rfl (fun ls hl => ?_)
  obtain ⟨j36_1, ej36_1, h⟩ := bnd_ex h
  have hj36_1 : ∀ (x1_1 : Int32) (ls : Array Slot), j36_1 x1_1 = some (rr) → lv_has ls 3 [(1, .int x1_1)] → W p l e rmX10_turned s m args below meth c s.heap [] 0 0 Q (F0 m 36 ls []) := by
    intro x1_1 ls h hl
    replace h := ap1 ej36_1 h
    refine lv_iload_n hx hb dX10_turned_36 rfl (lv_at hl 0 rfl) ?_
    cases h
    exact z_iretr S hQ hr dX10_turned_37
  have hL4_1 : ∀ (nf : Nat) (x1_2 : Int32) (x2_3 : Int32) (ls : Array Slot), f_X10_turned_L4 N y0 j36_1 nf x1_2 x2_3 = some (rr) → lv_has ls 3 [(0, .int y0), (1, .int x1_2), (2, .int x2_3)] → W p l e rmX10_turned s m args below meth c s.heap [] 0 0 Q (F0 m 4 ls []) := by
    intro nf
    induction nf with
    | zero =>
      intro x1_2 x2_3 ls h
      rw [f_X10_turned_L4] at h
      cases h
    | succ n_4 ih_4 =>
      intro x1_2 x2_3 ls h hl
      rw [f_X10_turned_L4] at h
      refine lv_iload_n hx hb dX10_turned_4 rfl (lv_at hl 2 rfl) ?_
      refine lv_bipush (v := (8 : Int32)) hx hb dX10_turned_5 (by decide) ?_
      refine lv_icmp_ge (tgt := 36) hx hb dX10_turned_7 (by decide) (fun hc => ?_) (fun hc => ?_)
      · replace h := if_t hc h
        exact hj36_1 x1_2 ls h (lv_sub hl [1] rfl)
      · replace h := if_f hc h
        refine lv_iload_n hx hb dX10_turned_10 rfl (lv_at hl 1 rfl) ?_
        refine lv_iload_n hx hb dX10_turned_11 rfl (lv_at hl 0 rfl) ?_
        refine lv_iload_n hx hb dX10_turned_12 rfl (lv_at hl 2 rfl) ?_
        obtain ⟨r_4, e13_1, h⟩ := obd1_el h
        refine zr_SI (As := [.int y0, .int x2_3]) (rest := [.int x1_2]) (q0 := 0) (ci := 0) (fs := []) (qc := (RX0, TX0, 4)) S hw (c_X10_has l D cI cJ cZ cS s.heap.size N y0 x2_3 r_4 e13_1) (va_cwS 2 hts gX10_turned_X10_has rfl rfl rfl ds_X10_has ⟨Nat.le_of_ble_eq_true rfl, Nat.le_of_ble_eq_true rfl⟩) [] rfl rfl rfl hl.1 rfl (Nat.le_of_ble_eq_true rfl) dX10_turned_13 ⟨Nat.zero_le _, Nat.zero_le _⟩ ?_
        obtain ⟨j28_1, ej28_1, h⟩ := bnd_ex h
        have hj28_1 : ∀ (t_5 : Int32) (t_6 : Int32) (ls : Array Slot), j28_1 t_5 t_6 = some (rr) → lv_has ls 3 [(0, .int y0), (2, .int x2_3)] → W p l e rmX10_turned s m args below meth c s.heap [] 0 0 Q (F0 m 28 ls [.int t_5, .int t_6]) := by
          intro t_5 t_6 ls h hl
          replace h := ap2 ej28_1 h
          refine lv_ior hx hb dX10_turned_28 ?_
          refine lv_topi (fun x1_7 ex1_7 => ?_)
          replace h := bnd_at ex1_7 h
          refine lv_istore_n (lv' := [(1, .int x1_7), (0, .int y0), (2, .int x2_3)]) hx hb dX10_turned_29 rfl hl (by decide) rfl (fun ls hl => ?_)
          obtain ⟨x2_8, ex2_8, h⟩ := bnd_ex h
          refine lv_iinc (v := x2_8) (lv' := [(2, .int x2_8), (1, .int x1_7), (0, .int y0)]) hx hb dX10_turned_30 hl (k := 2) rfl (by rw [ex2_8]; rfl) (by decide) rfl (fun ls hl => ?_)
          refine lv_goto (tgt := 4) hx hb dX10_turned_33 (by decide) ?_
          exact ih_4 x1_7 x2_8 ls h (lv_sub hl [2, 1, 0] rfl)
        refine lv_if_eq (tgt := 27) hx hb dX10_turned_16 (by decide) (fun hc => ?_) (fun hc => ?_)
        · replace h := if_t hc h
          refine lv_iconst (v := (0 : Int32)) hx hb dX10_turned_27 (by decide) ?_
          exact hj28_1 ((0 : Int32)) x1_2 ls h (lv_sub hl [0, 2] rfl)
        · replace h := if_f hc h
          refine lv_sipush (v := (128 : Int32)) hx hb dX10_turned_19 (by decide) ?_
          refine lv_iload_n hx hb dX10_turned_22 rfl (lv_at hl 2 rfl) ?_
          refine lv_ishr hx hb dX10_turned_23 ?_
          refine lv_goto (tgt := 28) hx hb dX10_turned_24 (by decide) ?_
          exact hj28_1 (((128 : Int32) >>> (x2_3 &&& 31))) x1_2 ls h (lv_sub hl [0, 2] rfl)
  exact hL4_1 N ((0 : Int32)) ((0 : Int32)) ls h (lv_sub hl [2, 1, 0] rfl)
