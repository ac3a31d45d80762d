abbrev rmX9_slower : Room := { frames := 3, cells := 0, slots := 0, locals := 75 }
theorem dv_X9_slower : yX9_slower.cls = RX9 ∧ yX9_slower.cls ≠ "java/lang/invoke/MethodHandle" ∧ yX9_slower.cls ≠ "java/lang/invoke/VarHandle" ∧ (parseMethodDescriptor yX9_slower.desc).map (fun d => d.parameters.length) = some 1 := by decide +kernel
noncomputable def f_X9_slower_L46 (N : Nat) (i_net_inputs : Int32) (i_net_gates : Int32) (i_sightings_size : Int32) (k_now_delays : (Nat → Int32)) (k_sightings_pairs : (Nat → Int32)) (k_net_lefts : (Nat → Int32)) (k_net_rights : (Nat → Int32)) (k_sightings_times : (Nat → Int32)) (k_sightings_lates : (Nat → Int32)) (k_trial_kinds_1 : (Nat → Int32)) (x4_12 : Int32) (j109_1 : Int32 → Int32 → (Nat → Int32) → (Nat → Int64) → (Nat → Int64) → (Nat → Int64) → (Nat → Int64) → Option (Int32 × (Nat → Int32) × (Nat → Int32) × (Nat → Int64) × (Nat → Int64) × (Nat → Int64) × (Nat → Int64))) : Nat → Int32 → Int32 → Int32 → (Nat → Int32) → (Nat → Int64) → (Nat → Int64) → (Nat → Int64) → (Nat → Int64) → Option (Int32 × (Nat → Int32) × (Nat → Int32) × (Nat → Int64) × (Nat → Int64) × (Nat → Int64) × (Nat → Int64))
  | 0, _, _, _, _, _, _, _, _ => none
  | n_46 + 1, x2_27, x3_28, x5_29, k_trial_delays_30, k_waves_before_31, k_waves_after_32, k_waves_low_33, k_waves_high_34 =>
    (if (9 : Int32) < x5_29 then (j109_1 x2_27 x3_28 k_trial_delays_30 k_waves_before_31 k_waves_after_32 k_waves_low_33 k_waves_high_34) else (grd (inb x4_12 8) <| grd (inb x4_12 8) <| bnd (upd k_trial_delays_30 x4_12.toNatClampNeg ((k_now_delays x4_12.toNatClampNeg) + x5_29)) fun (k_trial_delays_35 : (Nat → Int32)) => obd5 (f_X9_agreesWithSeen N i_sightings_size i_net_inputs i_net_gates k_sightings_pairs k_trial_kinds_1 k_trial_delays_35 k_net_lefts k_net_rights k_waves_before_31 k_waves_after_32 k_waves_low_33 k_waves_high_34 k_sightings_times k_sightings_lates) fun (r_36 : Int32) (k_waves_before_37 : (Nat → Int64)) (k_waves_after_38 : (Nat → Int64)) (k_waves_low_39 : (Nat → Int64)) (k_waves_high_40 : (Nat → Int64)) => bnd (fun (x2_41 : Int32) (x3_42 : Int32) => (bnd (x5_29 + (1 : Int32)) fun (x5_43 : Int32) => f_X9_slower_L46 N i_net_inputs i_net_gates i_sightings_size k_now_delays k_sightings_pairs k_net_lefts k_net_rights k_sightings_times k_sightings_lates k_trial_kinds_1 x4_12 j109_1 n_46 x2_41 x3_42 x5_43 k_trial_delays_35 k_waves_before_37 k_waves_after_38 k_waves_low_39 k_waves_high_40)) fun (j103_1 : Int32 → Int32 → Option (Int32 × (Nat → Int32) × (Nat → Int32) × (Nat → Int64) × (Nat → Int64) × (Nat → Int64) × (Nat → Int64))) => (if r_36 = (0 : Int32) then (j103_1 x2_27 x3_28) else (bnd (fun (t_44 : Int32) => (bnd (x3_28 + (1 : Int32)) fun (x3_45 : Int32) => j103_1 t_44 x3_45)) fun (j99_1 : Int32 → Option (Int32 × (Nat → Int32) × (Nat → Int32) × (Nat → Int64) × (Nat → Int64) × (Nat → Int64) × (Nat → Int64))) => (if x3_28 = (0 : Int32) then (j99_1 ((((10 : Int32) * x4_12) + x5_29))) else (j99_1 x2_27))))))
noncomputable def f_X9_slower_L31 (N : Nat) (i_net_inputs : Int32) (i_net_gates : Int32) (i_sightings_size : Int32) (k_now_delays : (Nat → Int32)) (k_sightings_pairs : (Nat → Int32)) (k_net_lefts : (Nat → Int32)) (k_net_rights : (Nat → Int32)) (k_sightings_times : (Nat → Int32)) (k_sightings_lates : (Nat → Int32)) (k_trial_kinds_1 : (Nat → Int32)) (j135_1 : Int32 → Int32 → (Nat → Int32) → (Nat → Int64) → (Nat → Int64) → (Nat → Int64) → (Nat → Int64) → Option (Int32 × (Nat → Int32) × (Nat → Int32) × (Nat → Int64) × (Nat → Int64) × (Nat → Int64) × (Nat → Int64))) : Nat → Int32 → Int32 → Int32 → (Nat → Int32) → (Nat → Int64) → (Nat → Int64) → (Nat → Int64) → (Nat → Int64) → Option (Int32 × (Nat → Int32) × (Nat → Int32) × (Nat → Int64) × (Nat → Int64) × (Nat → Int64) × (Nat → Int64))
  | 0, _, _, _, _, _, _, _, _ => none
  | n_31 + 1, x2_10, x3_11, x4_12, k_trial_delays_13, k_waves_before_14, k_waves_after_15, k_waves_low_16, k_waves_high_17 =>
    (if i_net_gates ≤ x4_12 then (j135_1 x2_10 x3_11 k_trial_delays_13 k_waves_before_14 k_waves_after_15 k_waves_low_16 k_waves_high_17) else (bnd (fun (x2_18 : Int32) (x3_19 : Int32) (k_trial_delays_20 : (Nat → Int32)) (k_waves_before_21 : (Nat → Int64)) (k_waves_after_22 : (Nat → Int64)) (k_waves_low_23 : (Nat → Int64)) (k_waves_high_24 : (Nat → Int64)) => (grd (inb x4_12 8) <| grd (inb x4_12 8) <| bnd (upd k_trial_delays_20 x4_12.toNatClampNeg (k_now_delays x4_12.toNatClampNeg)) fun (k_trial_delays_25 : (Nat → Int32)) => bnd (x4_12 + (1 : Int32)) fun (x4_26 : Int32) => f_X9_slower_L31 N i_net_inputs i_net_gates i_sightings_size k_now_delays k_sightings_pairs k_net_lefts k_net_rights k_sightings_times k_sightings_lates k_trial_kinds_1 j135_1 n_31 x2_18 x3_19 x4_26 k_trial_delays_25 k_waves_before_21 k_waves_after_22 k_waves_low_23 k_waves_high_24)) fun (j109_1 : Int32 → Int32 → (Nat → Int32) → (Nat → Int64) → (Nat → Int64) → (Nat → Int64) → (Nat → Int64) → Option (Int32 × (Nat → Int32) × (Nat → Int32) × (Nat → Int64) × (Nat → Int64) × (Nat → Int64) × (Nat → Int64))) => f_X9_slower_L46 N i_net_inputs i_net_gates i_sightings_size k_now_delays k_sightings_pairs k_net_lefts k_net_rights k_sightings_times k_sightings_lates k_trial_kinds_1 x4_12 j109_1 N x2_10 x3_11 ((1 : Int32)) k_trial_delays_13 k_waves_before_14 k_waves_after_15 k_waves_low_16 k_waves_high_17))
noncomputable def f_X9_slower (N : Nat) (y1 : Int32) (i_net_inputs : Int32) (i_net_gates : Int32) (i_sightings_size : Int32) (k_now_kinds : (Nat → Int32)) (k_trial_kinds : (Nat → Int32)) (k_now_delays : (Nat → Int32)) (k_trial_delays : (Nat → Int32)) (k_sightings_pairs : (Nat → Int32)) (k_net_lefts : (Nat → Int32)) (k_net_rights : (Nat → Int32)) (k_waves_before : (Nat → Int64)) (k_waves_after : (Nat → Int64)) (k_waves_low : (Nat → Int64)) (k_waves_high : (Nat → Int64)) (k_sightings_times : (Nat → Int32)) (k_sightings_lates : (Nat → Int32)) : Option (Int32 × (Nat → Int32) × (Nat → Int32) × (Nat → Int64) × (Nat → Int64) × (Nat → Int64) × (Nat → Int64)) :=
  (if y1 < (0 : Int32) then (some ((-2 : Int32), k_trial_kinds, k_trial_delays, k_waves_before, k_waves_after, k_waves_low, k_waves_high)) else ((if y1 ≤ (1 : Int32) then (obd2 (f_X5_copyFrom N k_now_kinds k_trial_kinds k_now_delays k_trial_delays) fun (k_trial_kinds_1 : (Nat → Int32)) (k_trial_delays_2 : (Nat → Int32)) => bnd (fun (x2_3 : Int32) (x3_4 : Int32) (k_trial_delays_5 : (Nat → Int32)) (k_waves_before_6 : (Nat → Int64)) (k_waves_after_7 : (Nat → Int64)) (k_waves_low_8 : (Nat → Int64)) (k_waves_high_9 : (Nat → Int64)) => ((if y1 = (0 : Int32) then (some (x3_4, k_trial_kinds_1, k_trial_delays_5, k_waves_before_6, k_waves_after_7, k_waves_low_8, k_waves_high_9)) else (some (x2_3, k_trial_kinds_1, k_trial_delays_5, k_waves_before_6, k_waves_after_7, k_waves_low_8, k_waves_high_9))))) fun (j135_1 : Int32 → Int32 → (Nat → Int32) → (Nat → Int64) → (Nat → Int64) → (Nat → Int64) → (Nat → Int64) → Option (Int32 × (Nat → Int32) × (Nat → Int32) × (Nat → Int64) × (Nat → Int64) × (Nat → Int64) × (Nat → Int64))) => f_X9_slower_L31 N i_net_inputs i_net_gates i_sightings_size k_now_delays k_sightings_pairs k_net_lefts k_net_rights k_sightings_times k_sightings_lates k_trial_kinds_1 j135_1 N ((-9 : Int32)) ((0 : Int32)) ((0 : Int32)) k_trial_delays_2 k_waves_before k_waves_after k_waves_low k_waves_high) else (some ((-2 : Int32), k_trial_kinds, k_trial_delays, k_waves_before, k_waves_after, k_waves_low, k_waves_high)))))
set_option maxHeartbeats 4000000 in
set_option maxRecDepth 100000 in
theorem c_X9_slower (l : Launch) (D : va_G) (cI cJ cZ cS : ClassId) (sz N : Nat) (a_this a_now a_trial a_net a_sightings a_waves a_now_kinds a_trial_kinds a_now_delays a_trial_delays a_sightings_pairs a_net_lefts a_net_rights a_waves_before a_waves_after a_waves_low a_waves_high a_sightings_times a_sightings_lates a_script a_acts a_slots a_levels a_table a_spans a_draft a_net_told a_net_nexts a_net_starts a_net_sizes a_net_steps a_net_links : Nat) (i_this_lastDraw : Int64) (i_now_held : Int32) (i_trial_held : Int32) (i_net_inputs : Int32) (i_net_gates : Int32) (i_net_paths : Int32) (i_sightings_size : Int32) (k_now_kinds : (Nat → Int32)) (k_trial_kinds : (Nat → Int32)) (k_now_delays : (Nat → Int32)) (k_trial_delays : (Nat → Int32)) (k_sightings_pairs : (Nat → Int32)) (k_net_lefts : (Nat → Int32)) (k_net_rights : (Nat → Int32)) (k_waves_before : (Nat → Int64)) (k_waves_after : (Nat → Int64)) (k_waves_low : (Nat → Int64)) (k_waves_high : (Nat → Int64)) (k_sightings_times : (Nat → Int32)) (k_sightings_lates : (Nat → Int32)) (y1 : Int32) (rr : Int32) (o_trial_kinds : (Nat → Int32)) (o_trial_delays : (Nat → Int32)) (o_waves_before : (Nat → Int64)) (o_waves_after : (Nat → Int64)) (o_waves_low : (Nat → Int64)) (o_waves_high : (Nat → Int64)) (hf : f_X9_slower N y1 i_net_inputs i_net_gates i_sightings_size k_now_kinds k_trial_kinds k_now_delays k_trial_delays k_sightings_pairs k_net_lefts k_net_rights k_waves_before k_waves_after k_waves_low k_waves_high k_sightings_times k_sightings_lates = some (rr, o_trial_kinds, o_trial_delays, o_waves_before, o_waves_after, o_waves_low, o_waves_high)) : MetI l yX9_slower wsX9_slower rmX9_slower D (tyA cI cJ cZ cS) [(a_this, .inr (9, [.ref a_script, .ref a_acts, .ref a_sightings, .ref a_now, .ref a_trial, .ref a_slots, .ref a_levels, .ref a_table, .ref a_waves, .ref a_spans, .ref a_net, .ref a_draft, .long i_this_lastDraw])), (a_now, .inr (5, [.ref a_now_kinds, .ref a_now_delays, .int i_now_held])), (a_trial, .inr (5, [.ref a_trial_kinds, .ref a_trial_delays, .int i_trial_held])), (a_net, .inr (2, [.int i_net_inputs, .int i_net_gates, .int i_net_paths, .ref a_net_told, .ref a_net_lefts, .ref a_net_rights, .ref a_net_nexts, .ref a_net_starts, .ref a_net_sizes, .ref a_net_steps, .ref a_net_links])), (a_sightings, .inr (6, [.ref a_sightings_pairs, .ref a_sightings_times, .ref a_sightings_lates, .int i_sightings_size])), (a_waves, .inr (8, [.ref a_waves_before, .ref a_waves_after, .ref a_waves_low, .ref a_waves_high])), (a_now_kinds, .inl (cI, 8, .inl k_now_kinds)), (a_trial_kinds, .inl (cI, 8, .inl k_trial_kinds)), (a_now_delays, .inl (cI, 8, .inl k_now_delays)), (a_trial_delays, .inl (cI, 8, .inl k_trial_delays)), (a_sightings_pairs, .inl (cI, 6, .inl k_sightings_pairs)), (a_net_lefts, .inl (cI, 8, .inl k_net_lefts)), (a_net_rights, .inl (cI, 8, .inl k_net_rights)), (a_waves_before, .inl (cJ, 18, .inr (.inl k_waves_before))), (a_waves_after, .inl (cJ, 18, .inr (.inl k_waves_after))), (a_waves_low, .inl (cJ, 18, .inr (.inl k_waves_low))), (a_waves_high, .inl (cJ, 18, .inr (.inl k_waves_high))), (a_sightings_times, .inl (cI, 6, .inl k_sightings_times)), (a_sightings_lates, .inl (cI, 6, .inl k_sightings_lates))] sz [.ref a_this, .int y1] rr [(a_this, .inr (9, [.ref a_script, .ref a_acts, .ref a_sightings, .ref a_now, .ref a_trial, .ref a_slots, .ref a_levels, .ref a_table, .ref a_waves, .ref a_spans, .ref a_net, .ref a_draft, .long i_this_lastDraw])), (a_now, .inr (5, [.ref a_now_kinds, .ref a_now_delays, .int i_now_held])), (a_trial, .inr (5, [.ref a_trial_kinds, .ref a_trial_delays, .int i_trial_held])), (a_net, .inr (2, [.int i_net_inputs, .int i_net_gates, .int i_net_paths, .ref a_net_told, .ref a_net_lefts, .ref a_net_rights, .ref a_net_nexts, .ref a_net_starts, .ref a_net_sizes, .ref a_net_steps, .ref a_net_links])), (a_sightings, .inr (6, [.ref a_sightings_pairs, .ref a_sightings_times, .ref a_sightings_lates, .int i_sightings_size])), (a_waves, .inr (8, [.ref a_waves_before, .ref a_waves_after, .ref a_waves_low, .ref a_waves_high])), (a_now_kinds, .inl (cI, 8, .inl k_now_kinds)), (a_trial_kinds, .inl (cI, 8, .inl o_trial_kinds)), (a_now_delays, .inl (cI, 8, .inl k_now_delays)), (a_trial_delays, .inl (cI, 8, .inl o_trial_delays)), (a_sightings_pairs, .inl (cI, 6, .inl k_sightings_pairs)), (a_net_lefts, .inl (cI, 8, .inl k_net_lefts)), (a_net_rights, .inl (cI, 8, .inl k_net_rights)), (a_waves_before, .inl (cJ, 18, .inr (.inl o_waves_before))), (a_waves_after, .inl (cJ, 18, .inr (.inl o_waves_after))), (a_waves_low, .inl (cJ, 18, .inr (.inl o_waves_low))), (a_waves_high, .inl (cJ, 18, .inr (.inl o_waves_high))), (a_sightings_times, .inl (cI, 6, .inl k_sightings_times)), (a_sightings_lates, .inl (cI, 6, .inl k_sightings_lates))] := by
  refine entI (cc := cX9_slower) (maxL := 6) (own := RX9) (by decide) rfl rfl (Nat.le_of_ble_eq_true rfl) ?_
  intro p e s m args below meth c A ls Q H locs S hr hw hl hQ
  have hx := S.1.1
  have hb := S.1.2.1
  have hts := S.1.2.2.2.2
  have hl : lv_has ls 6 [(0, .ref a_this), (1, .int y1)] := hl
  have hinX9 : ∀ w ∈ u_ws RX9 TX9 13, w ∈ wsX9_slower := (fun _ h => List.mem_cons_of_mem _ (List.mem_append_left _ (List.mem_append_left _ (List.mem_append_left _ (List.mem_append_left _ (List.mem_append_right _ h))))))
  have F33 : FLk s args wsX9_slower RX9 33 RX9 TX9 13 9 3 := ⟨hinX9, rfl, by decide, hts (.fieldLink RX9 33 "SlowPaths" "now" "LSlowPaths$Setting;") (List.mem_of_getElem? (i := 2) rfl)⟩
  have F37 : FLk s args wsX9_slower RX9 37 RX9 TX9 13 9 4 := ⟨hinX9, rfl, by decide, hts (.fieldLink RX9 37 "SlowPaths" "trial" "LSlowPaths$Setting;") (List.mem_of_getElem? (i := 1) rfl)⟩
  have F75 : FLk s args wsX9_slower RX9 75 RX9 TX9 13 9 10 := ⟨hinX9, rfl, by decide, hts (.fieldLink RX9 75 "SlowPaths" "net" "LSlowPaths$Net;") (List.mem_of_getElem? (i := 3) rfl)⟩
  have hinX5 : ∀ w ∈ u_ws RX5 TX5 3, w ∈ wsX9_slower := (fun _ h => List.mem_cons_of_mem _ (List.mem_append_left _ (List.mem_append_left _ (List.mem_append_right _ h))))
  have F129 : FLk s args wsX9_slower RX9 129 RX5 TX5 3 5 1 := ⟨hinX5, rfl, by decide, hts (.fieldLink RX9 129 "SlowPaths$Setting" "delays" "[I") (List.mem_of_getElem? (i := 5) rfl)⟩
  have hinX2 : ∀ w ∈ u_ws RX2 TX2 11, w ∈ wsX9_slower := (fun _ h => List.mem_cons_of_mem _ (List.mem_append_left _ (List.mem_append_left _ (List.mem_append_left _ (List.mem_append_right _ h)))))
  have F197 : FLk s args wsX9_slower RX9 197 RX2 TX2 11 2 1 := ⟨hinX2, rfl, by decide, hts (.fieldLink RX9 197 "SlowPaths$Net" "gates" "I") (List.mem_of_getElem? (i := 4) rfl)⟩
  have h := hf
  rw [f_X9_slower] at h
  refine lv_iload_n hx hb dX9_slower_0 rfl (lv_at hl 1 rfl) ?_
  refine lv_if_lt (tgt := 9) hx hb dX9_slower_1 (by decide) (fun hc => ?_) (fun hc => ?_)
  · replace h := if_t hc h
    refine lv_bipush (v := (-2 : Int32)) hx hb dX9_slower_9 (by decide) ?_
    cases h
    exact z_iret S hQ hr hw [0, 1, 2, 3, 4, 5, 6, 7, 8, 9, 10, 11, 12, 13, 14, 15, 16, 17, 18] rfl rfl dX9_slower_11
  · replace h := if_f hc h
    refine lv_iload_n hx hb dX9_slower_4 rfl (lv_at hl 1 rfl) ?_
    refine lv_iconst (v := (1 : Int32)) hx hb dX9_slower_5 (by decide) ?_
    refine lv_icmp_le (tgt := 12) hx hb dX9_slower_6 (by decide) (fun hc => ?_) (fun hc => ?_)
    · replace h := if_t hc h
      refine lv_bipush (v := (-9 : Int32)) hx hb dX9_slower_12 (by decide) ?_
      refine lv_istore_n (lv' := [(2, .int (-9 : Int32)), (0, .ref a_this), (1, .int y1)]) hx hb dX9_slower_14 rfl hl (by decide) rfl (fun ls hl => ?_)
      refine lv_iconst (v := (0 : Int32)) hx hb dX9_slower_15 (by decide) ?_
      refine lv_istore_n (lv' := [(3, .int (0 : Int32)), (2, .int (-9 : Int32)), (0, .ref a_this), (1, .int y1)]) hx hb dX9_slower_16 rfl hl (by decide) rfl (fun ls hl => ?_)
      refine lv_aload_n hx hb dX9_slower_17 rfl (lv_at hl 2 rfl) ?_
      refine z_get S hw F37 0 rfl rfl dX9_slower_18 ?_
      refine lv_aload_n hx hb dX9_slower_21 rfl (lv_at hl 2 rfl) ?_
      refine z_get S hw F33 0 rfl rfl dX9_slower_22 ?_
      obtain ⟨k_trial_kinds_1, k_trial_delays_2, e25_1, h⟩ := obd2_el h
      refine zc_VV (As := [.ref a_now]) (rest := []) (wr := [(a_this, .inr (9, [.ref a_script, .ref a_acts, .ref a_sightings, .ref a_now, .ref a_trial, .ref a_slots, .ref a_levels, .ref a_table, .ref a_waves, .ref a_spans, .ref a_net, .ref a_draft, .long i_this_lastDraw])), (a_net, .inr (2, [.int i_net_inputs, .int i_net_gates, .int i_net_paths, .ref a_net_told, .ref a_net_lefts, .ref a_net_rights, .ref a_net_nexts, .ref a_net_starts, .ref a_net_sizes, .ref a_net_steps, .ref a_net_links])), (a_sightings, .inr (6, [.ref a_sightings_pairs, .ref a_sightings_times, .ref a_sightings_lates, .int i_sightings_size])), (a_waves, .inr (8, [.ref a_waves_before, .ref a_waves_after, .ref a_waves_low, .ref a_waves_high])), (a_sightings_pairs, .inl (cI, 6, .inl k_sightings_pairs)), (a_net_lefts, .inl (cI, 8, .inl k_net_lefts)), (a_net_rights, .inl (cI, 8, .inl k_net_rights)), (a_waves_before, .inl (cJ, 18, .inr (.inl k_waves_before))), (a_waves_after, .inl (cJ, 18, .inr (.inl k_waves_after))), (a_waves_low, .inl (cJ, 18, .inr (.inl k_waves_low))), (a_waves_high, .inl (cJ, 18, .inr (.inl k_waves_high))), (a_sightings_times, .inl (cI, 6, .inl k_sightings_times)), (a_sightings_lates, .inl (cI, 6, .inl k_sightings_lates))]) (q0 := 0) S hw (c_X5_copyFrom l D cI cJ cZ cS H.size N a_trial a_now a_now_kinds a_trial_kinds a_now_delays a_trial_delays i_trial_held i_now_held k_now_kinds k_trial_kinds k_now_delays k_trial_delays k_trial_kinds_1 k_trial_delays_2 e25_1) (cwV 1 hts gX9_slower_X5_copyFrom rfl rfl rfl dv_X5_copyFrom ⟨Nat.le_of_ble_eq_true rfl, Nat.le_of_ble_eq_true rfl⟩) [2, 1, 6, 7, 8, 9] [0, 3, 4, 5, 10, 11, 12, 13, 14, 15, 16, 17, 18] rfl rfl rfl rfl (by decide) rfl rfl rfl rfl hl.1 rfl (Nat.le_of_ble_eq_true rfl) dX9_slower_25 ⟨Nat.zero_le _, Nat.zero_le _⟩ (fun H locs hw => ?_)
      refine lv_iconst (v := (0 : Int32)) hx hb dX9_slower_28 (by decide) ?_
      refine lv_istore (lv' := [(4, .int (0 : Int32)), (3, .int (0 : Int32)), (2, .int (-9 : Int32)), (0, .ref a_this), (1, .int y1)]) hx hb dX9_slower_29 hl (by decide) rfl (fun ls hl => ?_)
      obtain ⟨j135_1, ej135_1, h⟩ := bnd_ex h
      have hj135_1 : ∀ (x2_3 : Int32) (x3_4 : Int32) (k_trial_delays_5 : (Nat → Int32)) (k_waves_before_6 : (Nat → Int64)) (k_waves_after_7 : (Nat → Int64)) (k_waves_low_8 : (Nat → Int64)) (k_waves_high_9 : (Nat → Int64)) (H : Heap) (locs : List Loc) (ls : Array Slot), j135_1 x2_3 x3_4 k_trial_delays_5 k_waves_before_6 k_waves_after_7 k_waves_low_8 k_waves_high_9 = some (rr, o_trial_kinds, o_trial_delays, o_waves_before, o_waves_after, o_waves_low, o_waves_high) → Wd D (tyA cI cJ cZ cS) A s [(a_this, .inr (9, [.ref a_script, .ref a_acts, .ref a_sightings, .ref a_now, .ref a_trial, .ref a_slots, .ref a_levels, .ref a_table, .ref a_waves, .ref a_spans, .ref a_net, .ref a_draft, .long i_this_lastDraw])), (a_now, .inr (5, [.ref a_now_kinds, .ref a_now_delays, .int i_now_held])), (a_trial, .inr (5, [.ref a_trial_kinds, .ref a_trial_delays, .int i_trial_held])), (a_net, .inr (2, [.int i_net_inputs, .int i_net_gates, .int i_net_paths, .ref a_net_told, .ref a_net_lefts, .ref a_net_rights, .ref a_net_nexts, .ref a_net_starts, .ref a_net_sizes, .ref a_net_steps, .ref a_net_links])), (a_sightings, .inr (6, [.ref a_sightings_pairs, .ref a_sightings_times, .ref a_sightings_lates, .int i_sightings_size])), (a_waves, .inr (8, [.ref a_waves_before, .ref a_waves_after, .ref a_waves_low, .ref a_waves_high])), (a_now_kinds, .inl (cI, 8, .inl k_now_kinds)), (a_trial_kinds, .inl (cI, 8, .inl k_trial_kinds_1)), (a_now_delays, .inl (cI, 8, .inl k_now_delays)), (a_trial_delays, .inl (cI, 8, .inl k_trial_delays_5)), (a_sightings_pairs, .inl (cI, 6, .inl k_sightings_pairs)), (a_net_lefts, .inl (cI, 8, .inl k_net_lefts)), (a_net_rights, .inl (cI, 8, .inl k_net_rights)), (a_waves_before, .inl (cJ, 18, .inr (.inl k_waves_before_6))), (a_waves_after, .inl (cJ, 18, .inr (.inl k_waves_after_7))), (a_waves_low, .inl (cJ, 18, .inr (.inl k_waves_low_8))), (a_waves_high, .inl (cJ, 18, .inr (.inl k_waves_high_9))), (a_sightings_times, .inl (cI, 6, .inl k_sightings_times)), (a_sightings_lates, .inl (cI, 6, .inl k_sightings_lates))] H locs → lv_has ls 6 [(1, .int y1), (2, .int x2_3), (3, .int x3_4)] → W p l e rmX9_slower s m args below meth c H locs 0 0 Q (F0 m 135 ls []) := by
        intro x2_3 x3_4 k_trial_delays_5 k_waves_before_6 k_waves_after_7 k_waves_low_8 k_waves_high_9 H locs ls h hw hl
        replace h := ap7 ej135_1 h
        refine lv_iload_n hx hb dX9_slower_135 rfl (lv_at hl 0 rfl) ?_
        refine lv_if_ne (tgt := 143) hx hb dX9_slower_136 (by decide) (fun hc => ?_) (fun hc => ?_)
        · replace h := if_f hc h
          refine lv_iload_n hx hb dX9_slower_143 rfl (lv_at hl 1 rfl) ?_
          cases h
          exact z_iret S hQ hr hw [0, 1, 2, 3, 4, 5, 6, 7, 8, 9, 10, 11, 12, 13, 14, 15, 16, 17, 18] rfl rfl dX9_slower_144
        · replace h := if_t hc h
          refine lv_iload_n hx hb dX9_slower_139 rfl (lv_at hl 2 rfl) ?_
          refine lv_goto (tgt := 144) hx hb dX9_slower_140 (by decide) ?_
          cases h
          exact z_iret S hQ hr hw [0, 1, 2, 3, 4, 5, 6, 7, 8, 9, 10, 11, 12, 13, 14, 15, 16, 17, 18] rfl rfl dX9_slower_144
      have hL31_1 : ∀ (nf : Nat) (x2_10 : Int32) (x3_11 : Int32) (x4_12 : Int32) (k_trial_delays_13 : (Nat → Int32)) (k_waves_before_14 : (Nat → Int64)) (k_waves_after_15 : (Nat → Int64)) (k_waves_low_16 : (Nat → Int64)) (k_waves_high_17 : (Nat → Int64)) (H : Heap) (locs : List Loc) (ls : Array Slot), f_X9_slower_L31 N i_net_inputs i_net_gates i_sightings_size k_now_delays k_sightings_pairs k_net_lefts k_net_rights k_sightings_times k_sightings_lates k_trial_kinds_1 j135_1 nf x2_10 x3_11 x4_12 k_trial_delays_13 k_waves_before_14 k_waves_after_15 k_waves_low_16 k_waves_high_17 = some (rr, o_trial_kinds, o_trial_delays, o_waves_before, o_waves_after, o_waves_low, o_waves_high) → Wd D (tyA cI cJ cZ cS) A s [(a_this, .inr (9, [.ref a_script, .ref a_acts, .ref a_sightings, .ref a_now, .ref a_trial, .ref a_slots, .ref a_levels, .ref a_table, .ref a_waves, .ref a_spans, .ref a_net, .ref a_draft, .long i_this_lastDraw])), (a_now, .inr (5, [.ref a_now_kinds, .ref a_now_delays, .int i_now_held])), (a_trial, .inr (5, [.ref a_trial_kinds, .ref a_trial_delays, .int i_trial_held])), (a_net, .inr (2, [.int i_net_inputs, .int i_net_gates, .int i_net_paths, .ref a_net_told, .ref a_net_lefts, .ref a_net_rights, .ref a_net_nexts, .ref a_net_starts, .ref a_net_sizes, .ref a_net_steps, .ref a_net_links])), (a_sightings, .inr (6, [.ref a_sightings_pairs, .ref a_sightings_times, .ref a_sightings_lates, .int i_sightings_size])), (a_waves, .inr (8, [.ref a_waves_before, .ref a_waves_after, .ref a_waves_low, .ref a_waves_high])), (a_now_kinds, .inl (cI, 8, .inl k_now_kinds)), (a_trial_kinds, .inl (cI, 8, .inl k_trial_kinds_1)), (a_now_delays, .inl (cI, 8, .inl k_now_delays)), (a_trial_delays, .inl (cI, 8, .inl k_trial_delays_13)), (a_sightings_pairs, .inl (cI, 6, .inl k_sightings_pairs)), (a_net_lefts, .inl (cI, 8, .inl k_net_lefts)), (a_net_rights, .inl (cI, 8, .inl k_net_rights)), (a_waves_before, .inl (cJ, 18, .inr (.inl k_waves_before_14))), (a_waves_after, .inl (cJ, 18, .inr (.inl k_waves_after_15))), (a_waves_low, .inl (cJ, 18, .inr (.inl k_waves_low_16))), (a_waves_high, .inl (cJ, 18, .inr (.inl k_waves_high_17))), (a_sightings_times, .inl (cI, 6, .inl k_sightings_times)), (a_sightings_lates, .inl (cI, 6, .inl k_sightings_lates))] H locs → lv_has ls 6 [(0, .ref a_this), (1, .int y1), (2, .int x2_10), (3, .int x3_11), (4, .int x4_12)] → W p l e rmX9_slower s m args below meth c H locs 0 0 Q (F0 m 31 ls []) := by
        intro nf
        induction nf with
        | zero =>
          intro x2_10 x3_11 x4_12 k_trial_delays_13 k_waves_before_14 k_waves_after_15 k_waves_low_16 k_waves_high_17 H locs ls h
          rw [f_X9_slower_L31] at h
          cases h
        | succ n_31 ih_31 =>
          intro x2_10 x3_11 x4_12 k_trial_delays_13 k_waves_before_14 k_waves_after_15 k_waves_low_16 k_waves_high_17 H locs ls h hw hl
          rw [f_X9_slower_L31] at h
          refine lv_iload hx hb dX9_slower_31 (lv_at hl 4 rfl) ?_
          refine lv_aload_n hx hb dX9_slower_33 rfl (lv_at hl 0 rfl) ?_
          refine z_get S hw F75 0 rfl rfl dX9_slower_34 ?_
          refine z_get S hw F197 3 rfl rfl dX9_slower_37 ?_
          refine lv_icmp_ge (tgt := 135) hx hb dX9_slower_40 (by decide) (fun hc => ?_) (fun hc => ?_)
          · replace h := if_t hc h
            exact hj135_1 x2_10 x3_11 k_trial_delays_13 k_waves_before_14 k_waves_after_15 k_waves_low_16 k_waves_high_17 H locs ls h hw (lv_sub hl [1, 2, 3] rfl)
          · replace h := if_f hc h
            refine lv_iconst (v := (1 : Int32)) hx hb dX9_slower_43 (by decide) ?_
            refine lv_istore (lv' := [(5, .int (1 : Int32)), (0, .ref a_this), (1, .int y1), (2, .int x2_10), (3, .int x3_11), (4, .int x4_12)]) hx hb dX9_slower_44 hl (by decide) rfl (fun ls hl => ?_)
            obtain ⟨j109_1, ej109_1, h⟩ := bnd_ex h
            have hj109_1 : ∀ (x2_18 : Int32) (x3_19 : Int32) (k_trial_delays_20 : (Nat → Int32)) (k_waves_before_21 : (Nat → Int64)) (k_waves_after_22 : (Nat → Int64)) (k_waves_low_23 : (Nat → Int64)) (k_waves_high_24 : (Nat → Int64)) (H : Heap) (locs : List Loc) (ls : Array Slot), j109_1 x2_18 x3_19 k_trial_delays_20 k_waves_before_21 k_waves_after_22 k_waves_low_23 k_waves_high_24 = some (rr, o_trial_kinds, o_trial_delays, o_waves_before, o_waves_after, o_waves_low, o_waves_high) → Wd D (tyA cI cJ cZ cS) A s [(a_this, .inr (9, [.ref a_script, .ref a_acts, .ref a_sightings, .ref a_now, .ref a_trial, .ref a_slots, .ref a_levels, .ref a_table, .ref a_waves, .ref a_spans, .ref a_net, .ref a_draft, .long i_this_lastDraw])), (a_now, .inr (5, [.ref a_now_kinds, .ref a_now_delays, .int i_now_held])), (a_trial, .inr (5, [.ref a_trial_kinds, .ref a_trial_delays, .int i_trial_held])), (a_net, .inr (2, [.int i_net_inputs, .int i_net_gates, .int i_net_paths, .ref a_net_told, .ref a_net_lefts, .ref a_net_rights, .ref a_net_nexts, .ref a_net_starts, .ref a_net_sizes, .ref a_net_steps, .ref a_net_links])), (a_sightings, .inr (6, [.ref a_sightings_pairs, .ref a_sightings_times, .ref a_sightings_lates, .int i_sightings_size])), (a_waves, .inr (8, [.ref a_waves_before, .ref a_waves_after, .ref a_waves_low, .ref a_waves_high])), (a_now_kinds, .inl (cI, 8, .inl k_now_kinds)), (a_trial_kinds, .inl (cI, 8, .inl k_trial_kinds_1)), (a_now_delays, .inl (cI, 8, .inl k_now_delays)), (a_trial_delays, .inl (cI, 8, .inl k_trial_delays_20)), (a_sightings_pairs, .inl (cI, 6, .inl k_sightings_pairs)), (a_net_lefts, .inl (cI, 8, .inl k_net_lefts)), (a_net_rights, .inl (cI, 8, .inl k_net_rights)), (a_waves_before, .inl (cJ, 18, .inr (.inl k_waves_before_21))), (a_waves_after, .inl (cJ, 18, .inr (.inl k_waves_after_22))), (a_waves_low, .inl (cJ, 18, .inr (.inl k_waves_low_23))), (a_waves_high, .inl (cJ, 18, .inr (.inl k_waves_high_24))), (a_sightings_times, .inl (cI, 6, .inl k_sightings_times)), (a_sightings_lates, .inl (cI, 6, .inl k_sightings_lates))] H locs → lv_has ls 6 [(0, .ref a_this), (1, .int y1), (2, .int x2_18), (3, .int x3_19), (4, .int x4_12)] → W p l e rmX9_slower s m args below meth c H locs 0 0 Q (F0 m 109 ls []) := by
              intro x2_18 x3_19 k_trial_delays_20 k_waves_before_21 k_waves_after_22 k_waves_low_23 k_waves_high_24 H locs ls h hw hl
              replace h := ap7 ej109_1 h
              refine lv_aload_n hx hb dX9_slower_109 rfl (lv_at hl 0 rfl) ?_
              refine z_get S hw F37 0 rfl rfl dX9_slower_110 ?_
              refine z_get S hw F129 2 rfl rfl dX9_slower_113 ?_
              refine lv_iload hx hb dX9_slower_116 (lv_at hl 4 rfl) ?_
              refine lv_aload_n hx hb dX9_slower_118 rfl (lv_at hl 0 rfl) ?_
              refine z_get S hw F33 0 rfl rfl dX9_slower_119 ?_
              refine z_get S hw F129 1 rfl rfl dX9_slower_122 ?_
              refine lv_iload hx hb dX9_slower_125 (lv_at hl 4 rfl) ?_
              obtain ⟨hg, h⟩ := grd_el h
              refine z_iald S hw 8 0 rfl rfl hg dX9_slower_127 ?_
              obtain ⟨hg, h⟩ := grd_el h
              obtain ⟨k_trial_delays_25, ek_trial_delays_25, h⟩ := bnd_ex h
              refine z_iast S hw ek_trial_delays_25 9 0 rfl rfl hg dX9_slower_128 (fun H locs hw => ?_)
              obtain ⟨x4_26, ex4_26, h⟩ := bnd_ex h
              refine lv_iinc (v := x4_26) (lv' := [(4, .int x4_26), (0, .ref a_this), (1, .int y1), (2, .int x2_18), (3, .int x3_19)]) hx hb dX9_slower_129 hl (k := 4) rfl (by rw [ex4_26]; rfl) (by decide) rfl (fun ls hl => ?_)
              refine lv_goto (tgt := 31) hx hb dX9_slower_132 (by decide) ?_
              exact ih_31 x2_18 x3_19 x4_26 k_trial_delays_25 k_waves_before_21 k_waves_after_22 k_waves_low_23 k_waves_high_24 H locs ls h hw (lv_sub hl [1, 2, 3, 4, 0] rfl)
            have hL46_1 : ∀ (nf : Nat) (x2_27 : Int32) (x3_28 : Int32) (x5_29 : Int32) (k_trial_delays_30 : (Nat → Int32)) (k_waves_before_31 : (Nat → Int64)) (k_waves_after_32 : (Nat → Int64)) (k_waves_low_33 : (Nat → Int64)) (k_waves_high_34 : (Nat → Int64)) (H : Heap) (locs : List Loc) (ls : Array Slot), f_X9_slower_L46 N i_net_inputs i_net_gates i_sightings_size k_now_delays k_sightings_pairs k_net_lefts k_net_rights k_sightings_times k_sightings_lates k_trial_kinds_1 x4_12 j109_1 nf x2_27 x3_28 x5_29 k_trial_delays_30 k_waves_before_31 k_waves_after_32 k_waves_low_33 k_waves_high_34 = some (rr, o_trial_kinds, o_trial_delays, o_waves_before, o_waves_after, o_waves_low, o_waves_high) → Wd D (tyA cI cJ cZ cS) A s [(a_this, .inr (9, [.ref a_script, .ref a_acts, .ref a_sightings, .ref a_now, .ref a_trial, .ref a_slots, .ref a_levels, .ref a_table, .ref a_waves, .ref a_spans, .ref a_net, .ref a_draft, .long i_this_lastDraw])), (a_now, .inr (5, [.ref a_now_kinds, .ref a_now_delays, .int i_now_held])), (a_trial, .inr (5, [.ref a_trial_kinds, .ref a_trial_delays, .int i_trial_held])), (a_net, .inr (2, [.int i_net_inputs, .int i_net_gates, .int i_net_paths, .ref a_net_told, .ref a_net_lefts, .ref a_net_rights, .ref a_net_nexts, .ref a_net_starts, .ref a_net_sizes, .ref a_net_steps, .ref a_net_links])), (a_sightings, .inr (6, [.ref a_sightings_pairs, .ref a_sightings_times, .ref a_sightings_lates, .int i_sightings_size])), (a_waves, .inr (8, [.ref a_waves_before, .ref a_waves_after, .ref a_waves_low, .ref a_waves_high])), (a_now_kinds, .inl (cI, 8, .inl k_now_kinds)), (a_trial_kinds, .inl (cI, 8, .inl k_trial_kinds_1)), (a_now_delays, .inl (cI, 8, .inl k_now_delays)), (a_trial_delays, .inl (cI, 8, .inl k_trial_delays_30)), (a_sightings_pairs, .inl (cI, 6, .inl k_sightings_pairs)), (a_net_lefts, .inl (cI, 8, .inl k_net_lefts)), (a_net_rights, .inl (cI, 8, .inl k_net_rights)), (a_waves_before, .inl (cJ, 18, .inr (.inl k_waves_before_31))), (a_waves_after, .inl (cJ, 18, .inr (.inl k_waves_after_32))), (a_waves_low, .inl (cJ, 18, .inr (.inl k_waves_low_33))), (a_waves_high, .inl (cJ, 18, .inr (.inl k_waves_high_34))), (a_sightings_times, .inl (cI, 6, .inl k_sightings_times)), (a_sightings_lates, .inl (cI, 6, .inl k_sightings_lates))] H locs → lv_has ls 6 [(0, .ref a_this), (1, .int y1), (2, .int x2_27), (3, .int x3_28), (4, .int x4_12), (5, .int x5_29)] → W p l e rmX9_slower s m args below meth c H locs 0 0 Q (F0 m 46 ls []) := by
              intro nf
              induction nf with
              | zero =>
                intro x2_27 x3_28 x5_29 k_trial_delays_30 k_waves_before_31 k_waves_after_32 k_waves_low_33 k_waves_high_34 H locs ls h
                rw [f_X9_slower_L46] at h
                cases h
              | succ n_46 ih_46 =>
                intro x2_27 x3_28 x5_29 k_trial_delays_30 k_waves_before_31 k_waves_after_32 k_waves_low_33 k_waves_high_34 H locs ls h hw hl
                rw [f_X9_slower_L46] at h
                refine lv_iload hx hb dX9_slower_46 (lv_at hl 5 rfl) ?_
                refine lv_bipush (v := (9 : Int32)) hx hb dX9_slower_48 (by decide) ?_
                refine lv_icmp_gt (tgt := 109) hx hb dX9_slower_50 (by decide) (fun hc => ?_) (fun hc => ?_)
                · replace h := if_t hc h
                  exact hj109_1 x2_27 x3_28 k_trial_delays_30 k_waves_before_31 k_waves_after_32 k_waves_low_33 k_waves_high_34 H locs ls h hw (lv_sub hl [0, 1, 2, 3, 4] rfl)
                · replace h := if_f hc h
                  refine lv_aload_n hx hb dX9_slower_53 rfl (lv_at hl 0 rfl) ?_
                  refine z_get S hw F37 0 rfl rfl dX9_slower_54 ?_
                  refine z_get S hw F129 2 rfl rfl dX9_slower_57 ?_
                  refine lv_iload hx hb dX9_slower_60 (lv_at hl 4 rfl) ?_
                  refine lv_aload_n hx hb dX9_slower_62 rfl (lv_at hl 0 rfl) ?_
                  refine z_get S hw F33 0 rfl rfl dX9_slower_63 ?_
                  refine z_get S hw F129 1 rfl rfl dX9_slower_66 ?_
                  refine lv_iload hx hb dX9_slower_69 (lv_at hl 4 rfl) ?_
                  obtain ⟨hg, h⟩ := grd_el h
                  refine z_iald S hw 8 0 rfl rfl hg dX9_slower_71 ?_
                  refine lv_iload hx hb dX9_slower_72 (lv_at hl 5 rfl) ?_
                  refine lv_iadd hx hb dX9_slower_74 ?_
                  obtain ⟨hg, h⟩ := grd_el h
                  obtain ⟨k_trial_delays_35, ek_trial_delays_35, h⟩ := bnd_ex h
                  refine z_iast S hw ek_trial_delays_35 9 0 rfl rfl hg dX9_slower_75 (fun H locs hw => ?_)
                  refine lv_aload_n hx hb dX9_slower_76 rfl (lv_at hl 0 rfl) ?_
                  obtain ⟨r_36, k_waves_before_37, k_waves_after_38, k_waves_low_39, k_waves_high_40, e77_1, h⟩ := obd5_el h
                  refine zc_VI (As := []) (rest := []) (wr := [(a_now, .inr (5, [.ref a_now_kinds, .ref a_now_delays, .int i_now_held])), (a_now_kinds, .inl (cI, 8, .inl k_now_kinds)), (a_now_delays, .inl (cI, 8, .inl k_now_delays))]) (q0 := 0) S hw (c_X9_agreesWithSeen l D cI cJ cZ cS H.size N a_this a_sightings a_trial a_net a_waves a_sightings_pairs a_trial_kinds a_trial_delays a_net_lefts a_net_rights a_waves_before a_waves_after a_waves_low a_waves_high a_sightings_times a_sightings_lates a_script a_acts a_now a_slots a_levels a_table a_spans a_draft a_net_told a_net_nexts a_net_starts a_net_sizes a_net_steps a_net_links i_this_lastDraw i_sightings_size i_trial_held i_net_inputs i_net_gates i_net_paths k_sightings_pairs k_trial_kinds_1 k_trial_delays_35 k_net_lefts k_net_rights k_waves_before_31 k_waves_after_32 k_waves_low_33 k_waves_high_34 k_sightings_times k_sightings_lates r_36 k_waves_before_37 k_waves_after_38 k_waves_low_39 k_waves_high_40 e77_1) (cwV 0 hts gX9_slower_X9_agreesWithSeen rfl rfl rfl dv_X9_agreesWithSeen ⟨Nat.le_of_ble_eq_true rfl, Nat.le_of_ble_eq_true rfl⟩) [0, 4, 2, 3, 5, 10, 7, 9, 11, 12, 13, 14, 15, 16, 17, 18] [1, 6, 8] rfl rfl rfl rfl (by decide) rfl rfl rfl rfl hl.1 rfl (Nat.le_of_ble_eq_true rfl) dX9_slower_77 ⟨Nat.zero_le _, Nat.zero_le _⟩ (fun H locs hw => ?_)
                  obtain ⟨j103_1, ej103_1, h⟩ := bnd_ex h
                  have hj103_1 : ∀ (x2_41 : Int32) (x3_42 : Int32) (H : Heap) (locs : List Loc) (ls : Array Slot), j103_1 x2_41 x3_42 = some (rr, o_trial_kinds, o_trial_delays, o_waves_before, o_waves_after, o_waves_low, o_waves_high) → Wd D (tyA cI cJ cZ cS) A s [(a_this, .inr (9, [.ref a_script, .ref a_acts, .ref a_sightings, .ref a_now, .ref a_trial, .ref a_slots, .ref a_levels, .ref a_table, .ref a_waves, .ref a_spans, .ref a_net, .ref a_draft, .long i_this_lastDraw])), (a_now, .inr (5, [.ref a_now_kinds, .ref a_now_delays, .int i_now_held])), (a_trial, .inr (5, [.ref a_trial_kinds, .ref a_trial_delays, .int i_trial_held])), (a_net, .inr (2, [.int i_net_inputs, .int i_net_gates, .int i_net_paths, .ref a_net_told, .ref a_net_lefts, .ref a_net_rights, .ref a_net_nexts, .ref a_net_starts, .ref a_net_sizes, .ref a_net_steps, .ref a_net_links])), (a_sightings, .inr (6, [.ref a_sightings_pairs, .ref a_sightings_times, .ref a_sightings_lates, .int i_sightings_size])), (a_waves, .inr (8, [.ref a_waves_before, .ref a_waves_after, .ref a_waves_low, .ref a_waves_high])), (a_now_kinds, .inl (cI, 8, .inl k_now_kinds)), (a_trial_kinds, .inl (cI, 8, .inl k_trial_kinds_1)), (a_now_delays, .inl (cI, 8, .inl k_now_delays)), (a_trial_delays, .inl (cI, 8, .inl k_trial_delays_35)), (a_sightings_pairs, .inl (cI, 6, .inl k_sightings_pairs)), (a_net_lefts, .inl (cI, 8, .inl k_net_lefts)), (a_net_rights, .inl (cI, 8, .inl k_net_rights)), (a_waves_before, .inl (cJ, 18, .inr (.inl k_waves_before_37))), (a_waves_after, .inl (cJ, 18, .inr (.inl k_waves_after_38))), (a_waves_low, .inl (cJ, 18, .inr (.inl k_waves_low_39))), (a_waves_high, .inl (cJ, 18, .inr (.inl k_waves_high_40))), (a_sightings_times, .inl (cI, 6, .inl k_sightings_times)), (a_sightings_lates, .inl (cI, 6, .inl k_sightings_lates))] H locs → lv_has ls 6 [(0, .ref a_this), (1, .int y1), (2, .int x2_41), (3, .int x3_42), (4, .int x4_12), (5, .int x5_29)] → W p l e rmX9_slower s m args below meth c H locs 0 0 Q (F0 m 103 ls []) := by
                    intro x2_41 x3_42 H locs ls h hw hl
                    replace h := ap2 ej103_1 h
                    obtain ⟨x5_43, ex5_43, h⟩ := bnd_ex h
                    refine lv_iinc (v := x5_43) (lv' := [(5, .int x5_43), (0, .ref a_this), (1, .int y1), (2, .int x2_41), (3, .int x3_42), (4, .int x4_12)]) hx hb dX9_slower_103 hl (k := 5) rfl (by rw [ex5_43]; rfl) (by decide) rfl (fun ls hl => ?_)
                    refine lv_goto (tgt := 46) hx hb dX9_slower_106 (by decide) ?_
                    exact ih_46 x2_41 x3_42 x5_43 k_trial_delays_35 k_waves_before_37 k_waves_after_38 k_waves_low_39 k_waves_high_40 H locs ls h hw (lv_sub hl [1, 2, 3, 4, 5, 0] rfl)
                  refine lv_if_eq (tgt := 103) hx hb dX9_slower_80 (by decide) (fun hc => ?_) (fun hc => ?_)
                  · replace h := if_t hc h
                    exact hj103_1 x2_27 x3_28 H locs ls h (hw.sub [3, 0, 5, 6, 4, 7, 1, 9, 2, 10, 8, 11, 12, 13, 14, 15, 16, 17, 18] rfl rfl) hl
                  · replace h := if_f hc h
                    refine lv_iload_n hx hb dX9_slower_83 rfl (lv_at hl 3 rfl) ?_
                    obtain ⟨j99_1, ej99_1, h⟩ := bnd_ex h
                    have hj99_1 : ∀ (t_44 : Int32) (H : Heap) (locs : List Loc) (ls : Array Slot), j99_1 t_44 = some (rr, o_trial_kinds, o_trial_delays, o_waves_before, o_waves_after, o_waves_low, o_waves_high) → Wd D (tyA cI cJ cZ cS) A s [(a_this, .inr (9, [.ref a_script, .ref a_acts, .ref a_sightings, .ref a_now, .ref a_trial, .ref a_slots, .ref a_levels, .ref a_table, .ref a_waves, .ref a_spans, .ref a_net, .ref a_draft, .long i_this_lastDraw])), (a_now, .inr (5, [.ref a_now_kinds, .ref a_now_delays, .int i_now_held])), (a_trial, .inr (5, [.ref a_trial_kinds, .ref a_trial_delays, .int i_trial_held])), (a_net, .inr (2, [.int i_net_inputs, .int i_net_gates, .int i_net_paths, .ref a_net_told, .ref a_net_lefts, .ref a_net_rights, .ref a_net_nexts, .ref a_net_starts, .ref a_net_sizes, .ref a_net_steps, .ref a_net_links])), (a_sightings, .inr (6, [.ref a_sightings_pairs, .ref a_sightings_times, .ref a_sightings_lates, .int i_sightings_size])), (a_waves, .inr (8, [.ref a_waves_before, .ref a_waves_after, .ref a_waves_low, .ref a_waves_high])), (a_now_kinds, .inl (cI, 8, .inl k_now_kinds)), (a_trial_kinds, .inl (cI, 8, .inl k_trial_kinds_1)), (a_now_delays, .inl (cI, 8, .inl k_now_delays)), (a_trial_delays, .inl (cI, 8, .inl k_trial_delays_35)), (a_sightings_pairs, .inl (cI, 6, .inl k_sightings_pairs)), (a_net_lefts, .inl (cI, 8, .inl k_net_lefts)), (a_net_rights, .inl (cI, 8, .inl k_net_rights)), (a_waves_before, .inl (cJ, 18, .inr (.inl k_waves_before_37))), (a_waves_after, .inl (cJ, 18, .inr (.inl k_waves_after_38))), (a_waves_low, .inl (cJ, 18, .inr (.inl k_waves_low_39))), (a_waves_high, .inl (cJ, 18, .inr (.inl k_waves_high_40))), (a_sightings_times, .inl (cI, 6, .inl k_sightings_times)), (a_sightings_lates, .inl (cI, 6, .inl k_sightings_lates))] H locs → lv_has ls 6 [(0, .ref a_this), (1, .int y1), (3, .int x3_28), (4, .int x4_12), (5, .int x5_29)] → W p l e rmX9_slower s m args below meth c H locs 0 0 Q (F0 m 99 ls [.int t_44]) := by
                      intro t_44 H locs ls h hw hl
                      replace h := ap1 ej99_1 h
                      refine lv_istore_n (lv' := [(2, .int t_44), (0, .ref a_this), (1, .int y1), (3, .int x3_28), (4, .int x4_12), (5, .int x5_29)]) hx hb dX9_slower_99 rfl hl (by decide) rfl (fun ls hl => ?_)
                      obtain ⟨x3_45, ex3_45, h⟩ := bnd_ex h
                      refine lv_iinc (v := x3_45) (lv' := [(3, .int x3_45), (2, .int t_44), (0, .ref a_this), (1, .int y1), (4, .int x4_12), (5, .int x5_29)]) hx hb dX9_slower_100 hl (k := 3) rfl (by rw [ex3_45]; rfl) (by decide) rfl (fun ls hl => ?_)
                      exact hj103_1 t_44 x3_45 H locs ls h hw (lv_sub hl [2, 3, 1, 0, 4, 5] rfl)
                    refine lv_if_ne (tgt := 98) hx hb dX9_slower_84 (by decide) (fun hc => ?_) (fun hc => ?_)
                    · replace h := if_f hc h
                      refine lv_iload_n hx hb dX9_slower_98 rfl (lv_at hl 2 rfl) ?_
                      exact hj99_1 x2_27 H locs ls h (hw.sub [3, 0, 5, 6, 4, 7, 1, 9, 2, 10, 8, 11, 12, 13, 14, 15, 16, 17, 18] rfl rfl) (lv_sub hl [0, 1, 3, 4, 5] rfl)
                    · replace h := if_t hc h
                      refine lv_bipush (v := (10 : Int32)) hx hb dX9_slower_87 (by decide) ?_
                      refine lv_iload hx hb dX9_slower_89 (lv_at hl 4 rfl) ?_
                      refine lv_imul hx hb dX9_slower_91 ?_
                      refine lv_iload hx hb dX9_slower_92 (lv_at hl 5 rfl) ?_
                      refine lv_iadd hx hb dX9_slower_94 ?_
                      refine lv_goto (tgt := 99) hx hb dX9_slower_95 (by decide) ?_
                      exact hj99_1 ((((10 : Int32) * x4_12) + x5_29)) H locs ls h (hw.sub [3, 0, 5, 6, 4, 7, 1, 9, 2, 10, 8, 11, 12, 13, 14, 15, 16, 17, 18] rfl rfl) (lv_sub hl [0, 1, 3, 4, 5] rfl)
            exact hL46_1 N x2_10 x3_11 ((1 : Int32)) k_trial_delays_13 k_waves_before_14 k_waves_after_15 k_waves_low_16 k_waves_high_17 H locs ls h hw (lv_sub hl [1, 2, 3, 4, 5, 0] rfl)
      exact hL31_1 N ((-9 : Int32)) ((0 : Int32)) ((0 : Int32)) k_trial_delays_2 k_waves_before k_waves_after k_waves_low k_waves_high H locs ls h (hw.sub [0, 14, 13, 1, 2, 3, 15, 16, 17, 18, 4, 5, 6, 7, 8, 9, 10, 11, 12] rfl rfl) (lv_sub hl [3, 4, 2, 1, 0] rfl)
    · replace h := if_f hc h
      refine lv_bipush (v := (-2 : Int32)) hx hb dX9_slower_9 (by decide) ?_
      cases h
      exact z_iret S hQ hr hw [0, 1, 2, 3, 4, 5, 6, 7, 8, 9, 10, 11, 12, 13, 14, 15, 16, 17, 18] rfl rfl dX9_slower_11
abbrev rmJ6_bitCount_0f7a4 : Room := { frames := 0, cells := 0, slots := 0, locals := 0 }
theorem ds_J6_bitCount_0f7a4 : yJ6_bitCount_0f7a4.cls ≠ "java/lang/invoke/MethodHandle" ∧ yJ6_bitCount_0f7a4.cls ≠ "java/lang/invoke/VarHandle" ∧ (parseMethodDescriptor yJ6_bitCount_0f7a4.desc).map (fun d => d.parameters.length) = some 1 := by decide +kernel
noncomputable def f_J6_bitCount_0f7a4 (N : Nat) (y0 : Int32)  : Option (Int32) :=
  bnd ((y0 - (((y0.toUInt32 >>> ((1 : Int32).toUInt32 &&& Int32.toUInt32 31)).toInt32) &&& (1431655765 : Int32)))) fun (x0_1 : Int32) => bnd (((x0_1 &&& (858993459 : Int32)) + (((x0_1.toUInt32 >>> ((2 : Int32).toUInt32 &&& Int32.toUInt32 31)).toInt32) &&& (858993459 : Int32)))) fun (x0_2 : Int32) => bnd (((x0_2 + ((x0_2.toUInt32 >>> ((4 : Int32).toUInt32 &&& Int32.toUInt32 31)).toInt32)) &&& (252645135 : Int32))) fun (x0_3 : Int32) => bnd ((x0_3 + ((x0_3.toUInt32 >>> ((8 : Int32).toUInt32 &&& Int32.toUInt32 31)).toInt32))) fun (x0_4 : Int32) => bnd ((x0_4 + ((x0_4.toUInt32 >>> ((16 : Int32).toUInt32 &&& Int32.toUInt32 31)).toInt32))) fun (x0_5 : Int32) => some ((x0_5 &&& (63 : Int32)))
set_option maxHeartbeats 4000000 in
set_option maxRecDepth 100000 in
theorem c_J6_bitCount_0f7a4 (l : Launch) (D : va_G) (cI cJ cZ cS : ClassId) (sz N : Nat)   (y0 : Int32) (rr : Int32) (hf : f_J6_bitCount_0f7a4 N y0 = some (rr)) : MetIr l yJ6_bitCount_0f7a4 wsJ6_bitCount_0f7a4 rmJ6_bitCount_0f7a4 D (tyA cI cJ cZ cS) [] sz [.int y0] rr := by
  refine entIr (cc := cJ6_bitCount_0f7a4) (maxL := 1) (own := RJ6) (by decide) rfl rfl (Nat.le_of_ble_eq_true rfl) ?_
  intro p e s m args below meth c A ls Q S hr hw hl hQ
  have hx := S.1.1
  have hb := S.1.2.1
  have hts := S.1.2.2.2.2
  have hl : lv_has ls 1 [(0, .int y0)] := hl
  have h := hf
  rw [f_J6_bitCount_0f7a4] at h
  refine lv_iload_n hx hb dJ6_bitCount_0f7a4_0 rfl (lv_at hl 0 rfl) ?_
  refine lv_iload_n hx hb dJ6_bitCount_0f7a4_1 rfl (lv_at hl 0 rfl) ?_
  refine lv_iconst (v := (1 : Int32)) hx hb dJ6_bitCount_0f7a4_2 (by decide) ?_
  refine lv_iushr hx hb dJ6_bitCount_0f7a4_3 rfl ?_
  refine lv_ldcw (v := (1431655765 : Int32)) hx hb S.1.2.2.2.1 (hts (.constant RJ6 265 (1431655765)) (List.mem_of_getElem? (i := 1) rfl)) dJ6_bitCount_0f7a4_4 ?_
  refine lv_iand hx hb dJ6_bitCount_0f7a4_7 ?_
  refine lv_isub hx hb dJ6_bitCount_0f7a4_8 ?_
  refine lv_topi (fun x0_1 ex0_1 => ?_)
  replace h := bnd_at ex0_1 h
  refine lv_istore_n (lv' := [(0, .int x0_1)]) hx hb dJ6_bitCount_0f7a4_9 rfl hl (by decide) rfl (fun ls hl => ?_)
  refine lv_iload_n hx hb dJ6_bitCount_0f7a4_10 rfl (lv_at hl 0 rfl) ?_
  refine lv_ldcw (v := (858993459 : Int32)) hx hb S.1.2.2.2.1 (hts (.constant RJ6 266 (858993459)) (List.mem_of_getElem? (i := 2) rfl)) dJ6_bitCount_0f7a4_11 ?_
  refine lv_iand hx hb dJ6_bitCount_0f7a4_14 ?_
  refine lv_iload_n hx hb dJ6_bitCount_0f7a4_15 rfl (lv_at hl 0 rfl) ?_
  refine lv_iconst (v := (2 : Int32)) hx hb dJ6_bitCount_0f7a4_16 (by decide) ?_
  refine lv_iushr hx hb dJ6_bitCount_0f7a4_17 rfl ?_
  refine lv_ldcw (v := (858993459 : Int32)) hx hb S.1.2.2.2.1 (hts (.constant RJ6 266 (858993459)) (List.mem_of_getElem? (i := 2) rfl)) dJ6_bitCount_0f7a4_18 ?_
  refine lv_iand hx hb dJ6_bitCount_0f7a4_21 ?_
  refine lv_iadd hx hb dJ6_bitCount_0f7a4_22 ?_
  refine lv_topi (fun x0_2 ex0_2 => ?_)
  replace h := bnd_at ex0_2 h
  refine lv_istore_n (lv' := [(0, .int x0_2)]) hx hb dJ6_bitCount_0f7a4_23 rfl hl (by decide) rfl (fun ls hl => ?_)
  refine lv_iload_n hx hb dJ6_bitCount_0f7a4_24 rfl (lv_at hl 0 rfl) ?_
  refine lv_iload_n hx hb dJ6_bitCount_0f7a4_25 rfl (lv_at hl 0 rfl) ?_
  refine lv_iconst (v := (4 : Int32)) hx hb dJ6_bitCount_0f7a4_26 (by decide) ?_
  refine lv_iushr hx hb dJ6_bitCount_0f7a4_27 rfl ?_
  refine lv_iadd hx hb dJ6_bitCount_0f7a4_28 ?_
  refine lv_ldcw (v := (252645135 : Int32)) hx hb S.1.2.2.2.1 (hts (.constant RJ6 267 (252645135)) (List.mem_of_getElem? (i := 3) rfl)) dJ6_bitCount_0f7a4_29 ?_
  refine lv_iand hx hb dJ6_bitCount_0f7a4_32 ?_
  refine lv_topi (fun x0_3 ex0_3 => ?_)
  replace h := bnd_at ex0_3 h
  refine lv_istore_n (lv' := [(0, .int x0_3)]) hx hb dJ6_bitCount_0f7a4_33 rfl hl (by decide) rfl (fun ls hl => ?_)
  refine lv_iload_n hx hb dJ6_bitCount_0f7a4_34 rfl (lv_at hl 0 rfl) ?_
  refine lv_iload_n hx hb dJ6_bitCount_0f7a4_35 rfl (lv_at hl 0 rfl) ?_
  refine lv_bipush (v := (8 : Int32)) hx hb dJ6_bitCount_0f7a4_36 (by decide) ?_
  refine lv_iushr hx hb dJ6_bitCount_0f7a4_38 rfl ?_
  refine lv_iadd hx hb dJ6_bitCount_0f7a4_39 ?_
  refine lv_topi (fun x0_4 ex0_4 => ?_)
  replace h := bnd_at ex0_4 h
  refine lv_istore_n (lv' := [(0, .int x0_4)]) hx hb dJ6_bitCount_0f7a4_40 rfl hl (by decide) rfl (fun ls hl => ?_)
  refine lv_iload_n hx hb dJ6_bitCount_0f7a4_41 rfl (lv_at hl 0 rfl) ?_
  refine lv_iload_n hx hb dJ6_bitCount_0f7a4_42 rfl (lv_at hl 0 rfl) ?_
  refine lv_bipush (v := (16 : Int32)) hx hb dJ6_bitCount_0f7a4_43 (by decide) ?_
  refine lv_iushr hx hb dJ6_bitCount_0f7a4_45 rfl ?_
  refine lv_iadd hx hb dJ6_bitCount_0f7a4_46 ?_
  refine lv_topi (fun x0_5 ex0_5 => ?_)
  replace h := bnd_at ex0_5 h
  refine lv_istore_n (lv' := [(0, .int x0_5)]) hx hb dJ6_bitCount_0f7a4_47 rfl hl (by decide) rfl (fun ls hl => ?_)
  refine lv_iload_n hx hb dJ6_bitCount_0f7a4_48 rfl (lv_at hl 0 rfl) ?_
  refine lv_bipush (v := (63 : Int32)) hx hb dJ6_bitCount_0f7a4_49 (by decide) ?_
  refine lv_iand hx hb dJ6_bitCount_0f7a4_51 ?_
  cases h
  exact z_iretr S hQ hr dJ6_bitCount_0f7a4_52
abbrev rmX9_ordersOf : Room := { frames := 0, cells := 0, slots := 0, locals := 0 }
theorem ds_X9_ordersOf : yX9_ordersOf.cls ≠ "java/lang/invoke/MethodHandle" ∧ yX9_ordersOf.cls ≠ "java/lang/invoke/VarHandle" ∧ (parseMethodDescriptor yX9_ordersOf.desc).map (fun d => d.parameters.length) = some 1 := by decide +kernel
noncomputable def f_X9_ordersOf (N : Nat) (y0 : Int32)  : Option (Int32) :=
  bnd (α := Option (Int32)) (some ((1 : Int32))) fun (j12_1 : Option (Int32)) => (if y0 < (0 : Int32) then (j12_1) else ((if y0 < (9 : Int32) then (grd (inb y0 9) <| some ((ordN y0.toNatClampNeg))) else (j12_1))))
set_option maxHeartbeats 4000000 in
set_option maxRecDepth 100000 in
theorem c_X9_ordersOf (l : Launch) (D : va_G) (cI cJ cZ cS : ClassId) (sz N : Nat)   (y0 : Int32) (rr : Int32) (hf : f_X9_ordersOf N y0 = some (rr)) : MetIr l yX9_ordersOf wsX9_ordersOf rmX9_ordersOf D (tyA cI cJ cZ cS) [] sz [.int y0] rr := by
  refine entIr (cc := cX9_ordersOf) (maxL := 1) (own := RX9) (by decide) rfl rfl (Nat.le_of_ble_eq_true rfl) ?_
  intro p e s m args below meth c A ls Q S hr hw hl hQ
  have hx := S.1.1
  have hb := S.1.2.1
  have hts := S.1.2.2.2.2
  have hl : lv_has ls 1 [(0, .int y0)] := hl
  have h := hf
  rw [f_X9_ordersOf] at h
  refine lv_iload_n hx hb dX9_ordersOf_0 rfl (lv_at hl 0 rfl) ?_
  obtain ⟨j12_1, ej12_1, h⟩ := bnd_ex h
  have hj12_1 : ∀ (ls : Array Slot), j12_1 = some (rr) → lv_has ls 1 [] → W p l e rmX9_ordersOf s m args below meth c s.heap [] 0 0 Q (F0 m 12 ls []) := by
    intro ls h hl
    replace h := ap0 ej12_1 h
    refine lv_iconst (v := (1 : Int32)) hx hb dX9_ordersOf_12 (by decide) ?_
    refine lv_goto (tgt := 21) hx hb dX9_ordersOf_13 (by decide) ?_
    cases h
    exact z_iretr S hQ hr dX9_ordersOf_21
  refine lv_if_lt (tgt := 12) hx hb dX9_ordersOf_1 (by decide) (fun hc => ?_) (fun hc => ?_)
  · replace h := if_t hc h
    exact hj12_1  ls h (lv_sub hl [] rfl)
  · replace h := if_f hc h
    refine lv_iload_n hx hb dX9_ordersOf_4 rfl (lv_at hl 0 rfl) ?_
    refine z_gets S hw (hts (.fieldLink RX9 293 "SlowPaths" "ORDERS" "[I") (List.mem_of_getElem? (i := 1) rfl)) dX9_ordersOf_5 (fun tS hT => ?_)
    refine z_tlen S hw hT dX9_ordersOf_8 ?_
    refine lv_icmp_lt (tgt := 16) hx hb dX9_ordersOf_9 (by decide) (fun hc => ?_) (fun hc => ?_)
    · replace h := if_t hc h
      refine z_gets S hw (hts (.fieldLink RX9 293 "SlowPaths" "ORDERS" "[I") (List.mem_of_getElem? (i := 1) rfl)) dX9_ordersOf_16 (fun tS hT => ?_)
      refine lv_iload_n hx hb dX9_ordersOf_19 rfl (lv_at hl 0 rfl) ?_
      obtain ⟨hg, h⟩ := grd_el h
      refine z_tald S hw hT hg dX9_ordersOf_20 ?_
      cases h
      exact z_iretr S hQ hr dX9_ordersOf_21
    · replace h := if_f hc h
      exact hj12_1  ls h (lv_sub hl [] rfl)
abbrev rmX9_fraction : Room := { frames := 0, cells := 0, slots := 0, locals := 0 }
theorem ds_X9_fraction : yX9_fraction.cls ≠ "java/lang/invoke/MethodHandle" ∧ yX9_fraction.cls ≠ "java/lang/invoke/VarHandle" ∧ (parseMethodDescriptor yX9_fraction.desc).map (fun d => d.parameters.length) = some 3 := by decide +kernel
noncomputable def f_X9_fraction_L8 (N : Nat) (j39_1 : Int32 → Option (Int32)) : Nat → Int32 → Int32 → Int32 → Option (Int32)
  | 0, _, _, _ => none
  | n_8 + 1, x3_3, x4_4, x5_5 =>
    (if (64 : Int32) ≤ x5_5 then (j39_1 x3_3) else ((if x4_4 = (0 : Int32) then (j39_1 x3_3) else (grd (nzI x4_4) <| bnd ((x3_3 - x3_3 / x4_4 * x4_4)) fun (x6_6 : Int32) => bnd (x5_5 + (1 : Int32)) fun (x5_7 : Int32) => f_X9_fraction_L8 N j39_1 n_8 x4_4 x6_6 x5_7))))
noncomputable def f_X9_fraction (N : Nat) (y0 : Int32) (y1 : Int32) (y2 : Int32)  : Option (Int32) :=
  bnd (fun (x3_1 : Int32) => (bnd (fun (x3_2 : Int32) => ((if y2 = (0 : Int32) then (grd (nzI x3_2) <| some ((y1 / x3_2))) else (grd (nzI x3_2) <| some ((y0 / x3_2)))))) fun (j45_1 : Int32 → Option (Int32)) => (if x3_1 = (0 : Int32) then (j45_1 ((1 : Int32))) else (j45_1 x3_1)))) fun (j39_1 : Int32 → Option (Int32)) => f_X9_fraction_L8 N j39_1 N y0 y1 ((0 : Int32))
set_option maxHeartbeats 4000000 in
set_option maxRecDepth 100000 in
theorem c_X9_fraction (l : Launch) (D : va_G) (cI cJ cZ cS : ClassId) (sz N : Nat)   (y0 : Int32) (y1 : Int32) (y2 : Int32) (rr : Int32) (hf : f_X9_fraction N y0 y1 y2 = some (rr)) : MetIr l yX9_fraction wsX9_fraction rmX9_fraction D (tyA cI cJ cZ cS) [] sz [.int y0, .int y1, .int y2] rr := by
  refine entIr (cc := cX9_fraction) (maxL := 7) (own := RX9) (by decide) rfl rfl (Nat.le_of_ble_eq_true rfl) ?_
  intro p e s m args below meth c A ls Q S hr hw hl hQ
  have hx := S.1.1
  have hb := S.1.2.1
  have hts := S.1.2.2.2.2
  have hl : lv_has ls 7 [(0, .int y0), (1, .int y1), (2, .int y2)] := hl
  have h := hf
  rw [f_X9_fraction] at h
  refine lv_iload_n hx hb dX9_fraction_0 rfl (lv_at hl 0 rfl) ?_
  refine lv_istore_n (lv' := [(3, .int y0), (0, .int y0), (1, .int y1), (2, .int y2)]) hx hb dX9_fraction_1 rfl hl (by decide) rfl (fun ls hl => ?_)
  refine lv_iload_n hx hb dX9_fraction_2 rfl (lv_at hl 2 rfl) ?_
  refine lv_istore (lv' := [(4, .int y1), (3, .int y0), (0, .int y0), (1, .int y1), (2, .int y2)]) hx hb dX9_fraction_3 hl (by decide) rfl (fun ls hl => ?_)
  refine lv_iconst (v := (0 : Int32)) hx hb dX9_fraction_5 (by decide) ?_
  refine lv_istore (lv' := [(5, .int (0 : Int32)), (4, .int y1), (3, .int y0), (0, .int y0), (1, .int y1), (2, .int y2)]) hx hb dX9_fraction_6 hl (by decide) rfl (fun ls hl => ?_)
  obtain ⟨j39_1, ej39_1, h⟩ := bnd_ex h
  have hj39_1 : ∀ (x3_1 : Int32) (ls : Array Slot), j39_1 x3_1 = some (rr) → lv_has ls 7 [(0, .int y0), (1, .int y1), (2, .int y2), (3, .int x3_1)] → W p l e rmX9_fraction s m args below meth c s.heap [] 0 0 Q (F0 m 39 ls []) := by
    intro x3_1 ls h hl
    replace h := ap1 ej39_1 h
    refine lv_iload_n hx hb dX9_fraction_39 rfl (lv_at hl 3 rfl) ?_
    obtain ⟨j45_1, ej45_1, h⟩ := bnd_ex h
    have hj45_1 : ∀ (x3_2 : Int32) (ls : Array Slot), j45_1 x3_2 = some (rr) → lv_has ls 7 [(0, .int y0), (1, .int y1), (2, .int y2), (3, .int x3_2)] → W p l e rmX9_fraction s m args below meth c s.heap [] 0 0 Q (F0 m 45 ls []) := by
      intro x3_2 ls h hl
      replace h := ap1 ej45_1 h
      refine lv_iload_n hx hb dX9_fraction_45 rfl (lv_at hl 2 rfl) ?_
      refine lv_if_eq (tgt := 55) hx hb dX9_fraction_46 (by decide) (fun hc => ?_) (fun hc => ?_)
      · replace h := if_t hc h
        refine lv_iload_n hx hb dX9_fraction_55 rfl (lv_at hl 1 rfl) ?_
        refine lv_iload_n hx hb dX9_fraction_56 rfl (lv_at hl 3 rfl) ?_
        obtain ⟨hg, h⟩ := grd_el h
        refine lv_idiv hx hb dX9_fraction_57 (nzI_ne hg) ?_
        cases h
        exact z_iretr S hQ hr dX9_fraction_58
      · replace h := if_f hc h
        refine lv_iload_n hx hb dX9_fraction_49 rfl (lv_at hl 0 rfl) ?_
        refine lv_iload_n hx hb dX9_fraction_50 rfl (lv_at hl 3 rfl) ?_
        obtain ⟨hg, h⟩ := grd_el h
        refine lv_idiv hx hb dX9_fraction_51 (nzI_ne hg) ?_
        refine lv_goto (tgt := 58) hx hb dX9_fraction_52 (by decide) ?_
        cases h
        exact z_iretr S hQ hr dX9_fraction_58
    refine lv_if_ne (tgt := 45) hx hb dX9_fraction_40 (by decide) (fun hc => ?_) (fun hc => ?_)
    · replace h := if_f hc h
      exact hj45_1 x3_1 ls h hl
    · replace h := if_t hc h
      refine lv_iconst (v := (1 : Int32)) hx hb dX9_fraction_43 (by decide) ?_
      refine lv_istore_n (lv' := [(3, .int (1 : Int32)), (0, .int y0), (1, .int y1), (2, .int y2)]) hx hb dX9_fraction_44 rfl hl (by decide) rfl (fun ls hl => ?_)
      exact hj45_1 ((1 : Int32)) ls h (lv_sub hl [1, 2, 3, 0] rfl)
  have hL8_1 : ∀ (nf : Nat) (x3_3 : Int32) (x4_4 : Int32) (x5_5 : Int32) (ls : Array Slot), f_X9_fraction_L8 N j39_1 nf x3_3 x4_4 x5_5 = some (rr) → lv_has ls 7 [(0, .int y0), (1, .int y1), (2, .int y2), (3, .int x3_3), (4, .int x4_4), (5, .int x5_5)] → W p l e rmX9_fraction s m args below meth c s.heap [] 0 0 Q (F0 m 8 ls []) := by
    intro nf
    induction nf with
    | zero =>
      intro x3_3 x4_4 x5_5 ls h
      rw [f_X9_fraction_L8] at h
      cases h
    | succ n_8 ih_8 =>
      intro x3_3 x4_4 x5_5 ls h hl
      rw [f_X9_fraction_L8] at h
      refine lv_iload hx hb dX9_fraction_8 (lv_at hl 5 rfl) ?_
      refine lv_bipush (v := (64 : Int32)) hx hb dX9_fraction_10 (by decide) ?_
      refine lv_icmp_ge (tgt := 39) hx hb dX9_fraction_12 (by decide) (fun hc => ?_) (fun hc => ?_)
      · replace h := if_t hc h
        exact hj39_1 x3_3 ls h (lv_sub hl [0, 1, 2, 3] rfl)
      · replace h := if_f hc h
        refine lv_iload hx hb dX9_fraction_15 (lv_at hl 4 rfl) ?_
        refine lv_if_eq (tgt := 39) hx hb dX9_fraction_17 (by decide) (fun hc => ?_) (fun hc => ?_)
        · replace h := if_t hc h
          exact hj39_1 x3_3 ls h (lv_sub hl [0, 1, 2, 3] rfl)
        · replace h := if_f hc h
          refine lv_iload_n hx hb dX9_fraction_20 rfl (lv_at hl 3 rfl) ?_
          refine lv_iload hx hb dX9_fraction_21 (lv_at hl 4 rfl) ?_
          obtain ⟨hg, h⟩ := grd_el h
          refine lv_irem hx hb dX9_fraction_23 (nzI_ne hg) ?_
          refine lv_topi (fun x6_6 ex6_6 => ?_)
          replace h := bnd_at ex6_6 h
          refine lv_istore (lv' := [(6, .int x6_6), (0, .int y0), (1, .int y1), (2, .int y2), (3, .int x3_3), (4, .int x4_4), (5, .int x5_5)]) hx hb dX9_fraction_24 hl (by decide) rfl (fun ls hl => ?_)
          refine lv_iload hx hb dX9_fraction_26 (lv_at hl 5 rfl) ?_
          refine lv_istore_n (lv' := [(3, .int x4_4), (6, .int x6_6), (0, .int y0), (1, .int y1), (2, .int y2), (4, .int x4_4), (5, .int x5_5)]) hx hb dX9_fraction_28 rfl hl (by decide) rfl (fun ls hl => ?_)
          refine lv_iload hx hb dX9_fraction_29 (lv_at hl 1 rfl) ?_
          refine lv_istore (lv' := [(4, .int x6_6), (3, .int x4_4), (6, .int x6_6), (0, .int y0), (1, .int y1), (2, .int y2), (5, .int x5_5)]) hx hb dX9_fraction_31 hl (by decide) rfl (fun ls hl => ?_)
          obtain ⟨x5_7, ex5_7, h⟩ := bnd_ex h
          refine lv_iinc (v := x5_7) (lv' := [(5, .int x5_7), (4, .int x6_6), (3, .int x4_4), (6, .int x6_6), (0, .int y0), (1, .int y1), (2, .int y2)]) hx hb dX9_fraction_33 hl (k := 6) rfl (by rw [ex5_7]; rfl) (by decide) rfl (fun ls hl => ?_)
          refine lv_goto (tgt := 8) hx hb dX9_fraction_36 (by decide) ?_
          exact ih_8 x4_4 x6_6 x5_7 ls h (lv_sub hl [4, 5, 6, 2, 1, 0] rfl)
  exact hL8_1 N y0 y1 ((0 : Int32)) ls h (lv_sub hl [3, 4, 5, 2, 1, 0] rfl)
abbrev rmX9_share : Room := { frames := 2, cells := 0, slots := 0, locals := 48 }
theorem dv_X9_share : yX9_share.cls = RX9 ∧ yX9_share.cls ≠ "java/lang/invoke/MethodHandle" ∧ yX9_share.cls ≠ "java/lang/invoke/VarHandle" ∧ (parseMethodDescriptor yX9_share.desc).map (fun d => d.parameters.length) = some 2 := by decide +kernel
noncomputable def f_X9_share_L29 (N : Nat) (y1 : Int32) (i_net_inputs : Int32) (i_net_gates : Int32) (k_now_delays : (Nat → Int32)) (k_net_lefts : (Nat → Int32)) (k_net_rights : (Nat → Int32)) (x4_2 : Int32) (j132_1 : Int32 → (Nat → Int32) → Option (Int32 × (Nat → Int32))) : Nat → Int32 → Int32 → (Nat → Int32) → Option (Int32 × (Nat → Int32))
  | 0, _, _, _ => none
  | n_29 + 1, x3_7, x5_8, k_spans_upTo_9 =>
    (if x4_2 ≤ x5_8 then (j132_1 x3_7 k_spans_upTo_9) else (bnd (fun (x3_10 : Int32) (k_spans_upTo_11 : (Nat → Int32)) => (bnd (x5_8 + (1 : Int32)) fun (x5_12 : Int32) => f_X9_share_L29 N y1 i_net_inputs i_net_gates k_now_delays k_net_lefts k_net_rights x4_2 j132_1 n_29 x3_10 x5_12 k_spans_upTo_11)) fun (j126_1 : Int32 → (Nat → Int32) → Option (Int32 × (Nat → Int32))) => (if ((x5_8 >>> (y1 &&& 31)) &&& (1 : Int32)) = (0 : Int32) then (obd1 (f_J6_bitCount_0f7a4 N x5_8) fun (r_13 : Int32) => obd2 (f_X7_greatest N (x5_8 ||| ((1 : Int32) <<< (y1 &&& 31))) i_net_inputs i_net_gates k_now_delays k_net_lefts k_spans_upTo_9 k_net_rights) fun (r_14 : Int32) (k_spans_upTo_15 : (Nat → Int32)) => obd2 (f_X7_greatest N x5_8 i_net_inputs i_net_gates k_now_delays k_net_lefts k_spans_upTo_15 k_net_rights) fun (r_16 : Int32) (k_spans_upTo_17 : (Nat → Int32)) => bnd ((r_14 - r_16)) fun (x7_18 : Int32) => obd1 (f_X9_ordersOf N r_13) fun (r_19 : Int32) => obd1 (f_X9_ordersOf N ((i_net_gates - (1 : Int32)) - r_13)) fun (r_20 : Int32) => bnd ((x3_7 + ((x7_18 * r_19) * r_20))) fun (x3_21 : Int32) => j126_1 x3_21 k_spans_upTo_17) else (j126_1 x3_7 k_spans_upTo_9))))
noncomputable def f_X9_share (N : Nat) (y1 : Int32) (y2 : Int32) (i_net_inputs : Int32) (i_net_gates : Int32) (k_now_delays : (Nat → Int32)) (k_net_lefts : (Nat → Int32)) (k_spans_upTo : (Nat → Int32)) (k_net_rights : (Nat → Int32)) : Option (Int32 × (Nat → Int32)) :=
  obd1 (f_X2_hasGate N y1 i_net_gates) fun (r_1 : Int32) => (if r_1 = (0 : Int32) then (some ((-1 : Int32), k_spans_upTo)) else (bnd (((1 : Int32) <<< (i_net_gates &&& 31))) fun (x4_2 : Int32) => bnd (fun (x3_3 : Int32) (k_spans_upTo_4 : (Nat → Int32)) => (obd1 (f_X9_ordersOf N i_net_gates) fun (r_5 : Int32) => obd1 (f_X9_fraction N x3_3 r_5 y2) fun (r_6 : Int32) => some (r_6, k_spans_upTo_4))) fun (j132_1 : Int32 → (Nat → Int32) → Option (Int32 × (Nat → Int32))) => f_X9_share_L29 N y1 i_net_inputs i_net_gates k_now_delays k_net_lefts k_net_rights x4_2 j132_1 N ((0 : Int32)) ((0 : Int32)) k_spans_upTo))
set_option maxHeartbeats 4000000 in
set_option maxRecDepth 100000 in
theorem c_X9_share (l : Launch) (D : va_G) (cI cJ cZ cS : ClassId) (sz N : Nat) (a_this a_net a_now a_spans a_now_delays a_net_lefts a_spans_upTo a_net_rights a_script a_acts a_sightings a_trial a_slots a_levels a_table a_waves a_draft a_net_told a_net_nexts a_net_starts a_net_sizes a_net_steps a_net_links a_now_kinds : Nat) (i_this_lastDraw : Int64) (i_net_inputs : Int32) (i_net_gates : Int32) (i_net_paths : Int32) (i_now_held : Int32) (k_now_delays : (Nat → Int32)) (k_net_lefts : (Nat → Int32)) (k_spans_upTo : (Nat → Int32)) (k_net_rights : (Nat → Int32)) (y1 : Int32) (y2 : Int32) (rr : Int32) (o_spans_upTo : (Nat → Int32)) (hf : f_X9_share N y1 y2 i_net_inputs i_net_gates k_now_delays k_net_lefts k_spans_upTo k_net_rights = some (rr, o_spans_upTo)) : MetI l yX9_share wsX9_share rmX9_share D (tyA cI cJ cZ cS) [(a_this, .inr (9, [.ref a_script, .ref a_acts, .ref a_sightings, .ref a_now, .ref a_trial, .ref a_slots, .ref a_levels, .ref a_table, .ref a_waves, .ref a_spans, .ref a_net, .ref a_draft, .long i_this_lastDraw])), (a_net, .inr (2, [.int i_net_inputs, .int i_net_gates, .int i_net_paths, .ref a_net_told, .ref a_net_lefts, .ref a_net_rights, .ref a_net_nexts, .ref a_net_starts, .ref a_net_sizes, .ref a_net_steps, .ref a_net_links])), (a_now, .inr (5, [.ref a_now_kinds, .ref a_now_delays, .int i_now_held])), (a_spans, .inr (7, [.ref a_spans_upTo])), (a_now_delays, .inl (cI, 8, .inl k_now_delays)), (a_net_lefts, .inl (cI, 8, .inl k_net_lefts)), (a_spans_upTo, .inl (cI, 18, .inl k_spans_upTo)), (a_net_rights, .inl (cI, 8, .inl k_net_rights))] sz [.ref a_this, .int y1, .int y2] rr [(a_this, .inr (9, [.ref a_script, .ref a_acts, .ref a_sightings, .ref a_now, .ref a_trial, .ref a_slots, .ref a_levels, .ref a_table, .ref a_waves, .ref a_spans, .ref a_net, .ref a_draft, .long i_this_lastDraw])), (a_net, .inr (2, [.int i_net_inputs, .int i_net_gates, .int i_net_paths, .ref a_net_told, .ref a_net_lefts, .ref a_net_rights, .ref a_net_nexts, .ref a_net_starts, .ref a_net_sizes, .ref a_net_steps, .ref a_net_links])), (a_now, .inr (5, [.ref a_now_kinds, .ref a_now_delays, .int i_now_held])), (a_spans, .inr (7, [.ref a_spans_upTo])), (a_now_delays, .inl (cI, 8, .inl k_now_delays)), (a_net_lefts, .inl (cI, 8, .inl k_net_lefts)), (a_spans_upTo, .inl (cI, 18, .inl o_spans_upTo)), (a_net_rights, .inl (cI, 8, .inl k_net_rights))] := by
  refine entI (cc := cX9_share) (maxL := 8) (own := RX9) (by decide) rfl rfl (Nat.le_of_ble_eq_true rfl) ?_
  intro p e s m args below meth c A ls Q H locs S hr hw hl hQ
  have hx := S.1.1
  have hb := S.1.2.1
  have hts := S.1.2.2.2.2
  have hl : lv_has ls 8 [(0, .ref a_this), (1, .int y1), (2, .int y2)] := hl
  have hinX9 : ∀ w ∈ u_ws RX9 TX9 13, w ∈ wsX9_share := (fun _ h => List.mem_cons_of_mem _ (List.mem_append_left _ (List.mem_append_left _ (List.mem_append_left _ (List.mem_append_right _ h)))))
  have F33 : FLk s args wsX9_share RX9 33 RX9 TX9 13 9 3 := ⟨hinX9, rfl, by decide, hts (.fieldLink RX9 33 "SlowPaths" "now" "LSlowPaths$Setting;") (List.mem_of_getElem? (i := 4) rfl)⟩
  have F68 : FLk s args wsX9_share RX9 68 RX9 TX9 13 9 9 := ⟨hinX9, rfl, by decide, hts (.fieldLink RX9 68 "SlowPaths" "spans" "LSlowPaths$Spans;") (List.mem_of_getElem? (i := 3) rfl)⟩
  have F75 : FLk s args wsX9_share RX9 75 RX9 TX9 13 9 10 := ⟨hinX9, rfl, by decide, hts (.fieldLink RX9 75 "SlowPaths" "net" "LSlowPaths$Net;") (List.mem_of_getElem? (i := 1) rfl)⟩
  have hinX5 : ∀ w ∈ u_ws RX5 TX5 3, w ∈ wsX9_share := (fun _ h => List.mem_cons_of_mem _ (List.mem_append_left _ (List.mem_append_right _ h)))
  have F129 : FLk s args wsX9_share RX9 129 RX5 TX5 3 5 1 := ⟨hinX5, rfl, by decide, hts (.fieldLink RX9 129 "SlowPaths$Setting" "delays" "[I") (List.mem_of_getElem? (i := 5) rfl)⟩
  have hinX2 : ∀ w ∈ u_ws RX2 TX2 11, w ∈ wsX9_share := (fun _ h => List.mem_cons_of_mem _ (List.mem_append_left _ (List.mem_append_left _ (List.mem_append_right _ h))))
  have F197 : FLk s args wsX9_share RX9 197 RX2 TX2 11 2 1 := ⟨hinX2, rfl, by decide, hts (.fieldLink RX9 197 "SlowPaths$Net" "gates" "I") (List.mem_of_getElem? (i := 2) rfl)⟩
  have h := hf
  rw [f_X9_share] at h
  refine lv_aload_n hx hb dX9_share_0 rfl (lv_at hl 0 rfl) ?_
  refine z_get S hw F75 0 rfl rfl dX9_share_1 ?_
  refine lv_iload_n hx hb dX9_share_4 rfl (lv_at hl 1 rfl) ?_
  obtain ⟨r_1, e5_1, h⟩ := obd1_el h
  refine zr_VI (As := [.int y1]) (rest := []) (q0 := 0) S hw (c_X2_hasGate l D cI cJ cZ cS H.size N a_net a_net_told a_net_lefts a_net_rights a_net_nexts a_net_starts a_net_sizes a_net_steps a_net_links i_net_inputs i_net_gates i_net_paths y1 r_1 e5_1) (cwV 1 hts gX9_share_X2_hasGate rfl rfl rfl dv_X2_hasGate ⟨Nat.le_of_ble_eq_true rfl, Nat.le_of_ble_eq_true rfl⟩) [1] rfl rfl rfl rfl rfl rfl hl.1 rfl (Nat.le_of_ble_eq_true rfl) dX9_share_5 ⟨Nat.zero_le _, Nat.zero_le _⟩ ?_
  refine lv_if_ne (tgt := 13) hx hb dX9_share_8 (by decide) (fun hc => ?_) (fun hc => ?_)
  · replace h := if_f hc h
    refine lv_iconst (v := (0 : Int32)) hx hb dX9_share_13 (by decide) ?_
    refine lv_istore_n (lv' := [(3, .int (0 : Int32)), (0, .ref a_this), (1, .int y1), (2, .int y2)]) hx hb dX9_share_14 rfl hl (by decide) rfl (fun ls hl => ?_)
    refine lv_iconst (v := (1 : Int32)) hx hb dX9_share_15 (by decide) ?_
    refine lv_aload_n hx hb dX9_share_16 rfl (lv_at hl 1 rfl) ?_
    refine z_get S hw F75 0 rfl rfl dX9_share_17 ?_
    refine z_get S hw F197 1 rfl rfl dX9_share_20 ?_
    refine lv_ishl hx hb dX9_share_23 ?_
    refine lv_topi (fun x4_2 ex4_2 => ?_)
    replace h := bnd_at ex4_2 h
    refine lv_istore (lv' := [(4, .int x4_2), (3, .int (0 : Int32)), (0, .ref a_this), (1, .int y1), (2, .int y2)]) hx hb dX9_share_24 hl (by decide) rfl (fun ls hl => ?_)
    refine lv_iconst (v := (0 : Int32)) hx hb dX9_share_26 (by decide) ?_
    refine lv_istore (lv' := [(5, .int (0 : Int32)), (4, .int x4_2), (3, .int (0 : Int32)), (0, .ref a_this), (1, .int y1), (2, .int y2)]) hx hb dX9_share_27 hl (by decide) rfl (fun ls hl => ?_)
    obtain ⟨j132_1, ej132_1, h⟩ := bnd_ex h
    have hj132_1 : ∀ (x3_3 : Int32) (k_spans_upTo_4 : (Nat → Int32)) (H : Heap) (locs : List Loc) (ls : Array Slot), j132_1 x3_3 k_spans_upTo_4 = some (rr, o_spans_upTo) → Wd D (tyA cI cJ cZ cS) A s [(a_this, .inr (9, [.ref a_script, .ref a_acts, .ref a_sightings, .ref a_now, .ref a_trial, .ref a_slots, .ref a_levels, .ref a_table, .ref a_waves, .ref a_spans, .ref a_net, .ref a_draft, .long i_this_lastDraw])), (a_net, .inr (2, [.int i_net_inputs, .int i_net_gates, .int i_net_paths, .ref a_net_told, .ref a_net_lefts, .ref a_net_rights, .ref a_net_nexts, .ref a_net_starts, .ref a_net_sizes, .ref a_net_steps, .ref a_net_links])), (a_now, .inr (5, [.ref a_now_kinds, .ref a_now_delays, .int i_now_held])), (a_spans, .inr (7, [.ref a_spans_upTo])), (a_now_delays, .inl (cI, 8, .inl k_now_delays)), (a_net_lefts, .inl (cI, 8, .inl k_net_lefts)), (a_spans_upTo, .inl (cI, 18, .inl k_spans_upTo_4)), (a_net_rights, .inl (cI, 8, .inl k_net_rights))] H locs → lv_has ls 8 [(0, .ref a_this), (2, .int y2), (3, .int x3_3)] → W p l e rmX9_share s m args below meth c H locs 0 0 Q (F0 m 132 ls []) := by
      intro x3_3 k_spans_upTo_4 H locs ls h hw hl
      replace h := ap2 ej132_1 h
      refine lv_iload_n hx hb dX9_share_132 rfl (lv_at hl 2 rfl) ?_
      refine lv_aload_n hx hb dX9_share_133 rfl (lv_at hl 0 rfl) ?_
      refine z_get S hw F75 0 rfl rfl dX9_share_134 ?_
      refine z_get S hw F197 1 rfl rfl dX9_share_137 ?_
      obtain ⟨r_5, e140_1, h⟩ := obd1_el h
      refine zr_SI (As := [.int i_net_gates]) (rest := [.int x3_3]) (q0 := 0) (ci := 0) (fs := []) (qc := (RX0, TX0, 4)) S hw (c_X9_ordersOf l D cI cJ cZ cS H.size N i_net_gates r_5 e140_1) (va_cwS 1 hts gX9_share_X9_ordersOf rfl rfl rfl ds_X9_ordersOf ⟨Nat.le_of_ble_eq_true rfl, Nat.le_of_ble_eq_true rfl⟩) [] rfl rfl rfl hl.1 rfl (Nat.le_of_ble_eq_true rfl) dX9_share_140 ⟨Nat.zero_le _, Nat.zero_le _⟩ ?_
      refine lv_iload_n hx hb dX9_share_143 rfl (lv_at hl 1 rfl) ?_
      obtain ⟨r_6, e144_1, h⟩ := obd1_el h
      refine zr_SI (As := [.int x3_3, .int r_5, .int y2]) (rest := []) (q0 := 0) (ci := 0) (fs := []) (qc := (RX0, TX0, 4)) S hw (c_X9_fraction l D cI cJ cZ cS H.size N x3_3 r_5 y2 r_6 e144_1) (va_cwS 3 hts gX9_share_X9_fraction rfl rfl rfl ds_X9_fraction ⟨Nat.le_of_ble_eq_true rfl, Nat.le_of_ble_eq_true rfl⟩) [] rfl rfl rfl hl.1 rfl (Nat.le_of_ble_eq_true rfl) dX9_share_144 ⟨Nat.zero_le _, Nat.zero_le _⟩ ?_
      cases h
      exact z_iret S hQ hr hw [0, 1, 2, 3, 4, 5, 6, 7] rfl rfl dX9_share_147
    have hL29_1 : ∀ (nf : Nat) (x3_7 : Int32) (x5_8 : Int32) (k_spans_upTo_9 : (Nat → Int32)) (H : Heap) (locs : List Loc) (ls : Array Slot), f_X9_share_L29 N y1 i_net_inputs i_net_gates k_now_delays k_net_lefts k_net_rights x4_2 j132_1 nf x3_7 x5_8 k_spans_upTo_9 = some (rr, o_spans_upTo) → Wd D (tyA cI cJ cZ cS) A s [(a_this, .inr (9, [.ref a_script, .ref a_acts, .ref a_sightings, .ref a_now, .ref a_trial, .ref a_slots, .ref a_levels, .ref a_table, .ref a_waves, .ref a_spans, .ref a_net, .ref a_draft, .long i_this_lastDraw])), (a_net, .inr (2, [.int i_net_inputs, .int i_net_gates, .int i_net_paths, .ref a_net_told, .ref a_net_lefts, .ref a_net_rights, .ref a_net_nexts, .ref a_net_starts, .ref a_net_sizes, .ref a_net_steps, .ref a_net_links])), (a_now, .inr (5, [.ref a_now_kinds, .ref a_now_delays, .int i_now_held])), (a_spans, .inr (7, [.ref a_spans_upTo])), (a_now_delays, .inl (cI, 8, .inl k_now_delays)), (a_net_lefts, .inl (cI, 8, .inl k_net_lefts)), (a_spans_upTo, .inl (cI, 18, .inl k_spans_upTo_9)), (a_net_rights, .inl (cI, 8, .inl k_net_rights))] H locs → lv_has ls 8 [(0, .ref a_this), (1, .int y1), (2, .int y2), (3, .int x3_7), (4, .int x4_2), (5, .int x5_8)] → W p l e rmX9_share s m args below meth c H locs 0 0 Q (F0 m 29 ls []) := by
      intro nf
      induction nf with
      | zero =>
        intro x3_7 x5_8 k_spans_upTo_9 H locs ls h
        rw [f_X9_share_L29] at h
        cases h
      | succ n_29 ih_29 =>
        intro x3_7 x5_8 k_spans_upTo_9 H locs ls h hw hl
        rw [f_X9_share_L29] at h
        refine lv_iload hx hb dX9_share_29 (lv_at hl 5 rfl) ?_
        refine lv_iload hx hb dX9_share_31 (lv_at hl 4 rfl) ?_
        refine lv_icmp_ge (tgt := 132) hx hb dX9_share_33 (by decide) (fun hc => ?_) (fun hc => ?_)
        · replace h := if_t hc h
          exact hj132_1 x3_7 k_spans_upTo_9 H locs ls h hw (lv_sub hl [0, 2, 3] rfl)
        · replace h := if_f hc h
          refine lv_iload hx hb dX9_share_36 (lv_at hl 5 rfl) ?_
          refine lv_iload_n hx hb dX9_share_38 rfl (lv_at hl 1 rfl) ?_
          refine lv_ishr hx hb dX9_share_39 ?_
          refine lv_iconst (v := (1 : Int32)) hx hb dX9_share_40 (by decide) ?_
          refine lv_iand hx hb dX9_share_41 ?_
          obtain ⟨j126_1, ej126_1, h⟩ := bnd_ex h
          have hj126_1 : ∀ (x3_10 : Int32) (k_spans_upTo_11 : (Nat → Int32)) (H : Heap) (locs : List Loc) (ls : Array Slot), j126_1 x3_10 k_spans_upTo_11 = some (rr, o_spans_upTo) → Wd D (tyA cI cJ cZ cS) A s [(a_this, .inr (9, [.ref a_script, .ref a_acts, .ref a_sightings, .ref a_now, .ref a_trial, .ref a_slots, .ref a_levels, .ref a_table, .ref a_waves, .ref a_spans, .ref a_net, .ref a_draft, .long i_this_lastDraw])), (a_net, .inr (2, [.int i_net_inputs, .int i_net_gates, .int i_net_paths, .ref a_net_told, .ref a_net_lefts, .ref a_net_rights, .ref a_net_nexts, .ref a_net_starts, .ref a_net_sizes, .ref a_net_steps, .ref a_net_links])), (a_now, .inr (5, [.ref a_now_kinds, .ref a_now_delays, .int i_now_held])), (a_spans, .inr (7, [.ref a_spans_upTo])), (a_now_delays, .inl (cI, 8, .inl k_now_delays)), (a_net_lefts, .inl (cI, 8, .inl k_net_lefts)), (a_spans_upTo, .inl (cI, 18, .inl k_spans_upTo_11)), (a_net_rights, .inl (cI, 8, .inl k_net_rights))] H locs → lv_has ls 8 [(0, .ref a_this), (1, .int y1), (2, .int y2), (3, .int x3_10), (4, .int x4_2), (5, .int x5_8)] → W p l e rmX9_share s m args below meth c H locs 0 0 Q (F0 m 126 ls []) := by
            intro x3_10 k_spans_upTo_11 H locs ls h hw hl
            replace h := ap2 ej126_1 h
            obtain ⟨x5_12, ex5_12, h⟩ := bnd_ex h
            refine lv_iinc (v := x5_12) (lv' := [(5, .int x5_12), (0, .ref a_this), (1, .int y1), (2, .int y2), (3, .int x3_10), (4, .int x4_2)]) hx hb dX9_share_126 hl (k := 5) rfl (by rw [ex5_12]; rfl) (by decide) rfl (fun ls hl => ?_)
            refine lv_goto (tgt := 29) hx hb dX9_share_129 (by decide) ?_
            exact ih_29 x3_10 x5_12 k_spans_upTo_11 H locs ls h hw (lv_sub hl [1, 2, 3, 4, 5, 0] rfl)
          refine lv_if_ne (tgt := 126) hx hb dX9_share_42 (by decide) (fun hc => ?_) (fun hc => ?_)
          · replace h := if_f hc h
            exact hj126_1 x3_7 k_spans_upTo_9 H locs ls h hw hl
          · replace h := if_t hc h
            refine lv_iload hx hb dX9_share_45 (lv_at hl 5 rfl) ?_
            obtain ⟨r_13, e47_1, h⟩ := obd1_el h
            refine zr_SI (As := [.int x5_8]) (rest := []) (q0 := 0) (ci := 0) (fs := []) (qc := (RX0, TX0, 4)) S hw (c_J6_bitCount_0f7a4 l D cI cJ cZ cS H.size N x5_8 r_13 e47_1) (va_cwS 1 hts gX9_share_J6_bitCount_0f7a4 rfl rfl rfl ds_J6_bitCount_0f7a4 ⟨Nat.le_of_ble_eq_true rfl, Nat.le_of_ble_eq_true rfl⟩) [] rfl rfl rfl hl.1 rfl (Nat.le_of_ble_eq_true rfl) dX9_share_47 ⟨Nat.zero_le _, Nat.zero_le _⟩ ?_
            refine lv_istore (lv' := [(6, .int r_13), (0, .ref a_this), (1, .int y1), (2, .int y2), (3, .int x3_7), (4, .int x4_2), (5, .int x5_8)]) hx hb dX9_share_50 hl (by decide) rfl (fun ls hl => ?_)
            refine lv_aload_n hx hb dX9_share_52 rfl (lv_at hl 1 rfl) ?_
            refine z_get S hw F68 0 rfl rfl dX9_share_53 ?_
            refine lv_aload_n hx hb dX9_share_56 rfl (lv_at hl 1 rfl) ?_
            refine z_get S hw F75 0 rfl rfl dX9_share_57 ?_
            refine lv_aload_n hx hb dX9_share_60 rfl (lv_at hl 1 rfl) ?_
            refine z_get S hw F33 0 rfl rfl dX9_share_61 ?_
            refine z_get S hw F129 2 rfl rfl dX9_share_64 ?_
            refine lv_iload hx hb dX9_share_67 (lv_at hl 6 rfl) ?_
            refine lv_iconst (v := (1 : Int32)) hx hb dX9_share_69 (by decide) ?_
            refine lv_iload_n hx hb dX9_share_70 rfl (lv_at hl 2 rfl) ?_
            refine lv_ishl hx hb dX9_share_71 ?_
            refine lv_ior hx hb dX9_share_72 ?_
            obtain ⟨r_14, k_spans_upTo_15, e73_1, h⟩ := obd2_el h
            refine zc_VI (As := [.ref a_net, .ref a_now_delays, .int (x5_8 ||| ((1 : Int32) <<< (y1 &&& 31)))]) (rest := []) (wr := [(a_this, .inr (9, [.ref a_script, .ref a_acts, .ref a_sightings, .ref a_now, .ref a_trial, .ref a_slots, .ref a_levels, .ref a_table, .ref a_waves, .ref a_spans, .ref a_net, .ref a_draft, .long i_this_lastDraw])), (a_now, .inr (5, [.ref a_now_kinds, .ref a_now_delays, .int i_now_held]))]) (q0 := 1) S hw (c_X7_greatest l D cI cJ cZ cS H.size N a_net a_spans a_now_delays a_net_lefts a_spans_upTo a_net_rights a_net_told a_net_nexts a_net_starts a_net_sizes a_net_steps a_net_links i_net_inputs i_net_gates i_net_paths k_now_delays k_net_lefts k_spans_upTo_9 k_net_rights (x5_8 ||| ((1 : Int32) <<< (y1 &&& 31))) r_14 k_spans_upTo_15 e73_1) (cwV 3 hts gX9_share_X7_greatest rfl rfl rfl dv_X7_greatest ⟨Nat.le_of_ble_eq_true rfl, Nat.le_of_ble_eq_true rfl⟩) [1, 3, 4, 5, 6, 7] [0, 2] rfl rfl rfl rfl (by decide) rfl rfl rfl rfl hl.1 rfl (Nat.le_of_ble_eq_true rfl) dX9_share_73 ⟨Nat.zero_le _, Nat.zero_le _⟩ (fun H locs hw => ?_)
            refine lv_aload_n hx hb dX9_share_76 rfl (lv_at hl 1 rfl) ?_
            refine z_get S hw F68 0 rfl rfl dX9_share_77 ?_
            refine lv_aload_n hx hb dX9_share_80 rfl (lv_at hl 1 rfl) ?_
            refine z_get S hw F75 0 rfl rfl dX9_share_81 ?_
            refine lv_aload_n hx hb dX9_share_84 rfl (lv_at hl 1 rfl) ?_
            refine z_get S hw F33 0 rfl rfl dX9_share_85 ?_
            refine z_get S hw F129 1 rfl rfl dX9_share_88 ?_
            refine lv_iload hx hb dX9_share_91 (lv_at hl 6 rfl) ?_
            obtain ⟨r_16, k_spans_upTo_17, e93_1, h⟩ := obd2_el h
            refine zc_VI (As := [.ref a_net, .ref a_now_delays, .int x5_8]) (rest := [.int r_14]) (wr := [(a_this, .inr (9, [.ref a_script, .ref a_acts, .ref a_sightings, .ref a_now, .ref a_trial, .ref a_slots, .ref a_levels, .ref a_table, .ref a_waves, .ref a_spans, .ref a_net, .ref a_draft, .long i_this_lastDraw])), (a_now, .inr (5, [.ref a_now_kinds, .ref a_now_delays, .int i_now_held]))]) (q0 := 1) S hw (c_X7_greatest l D cI cJ cZ cS H.size N a_net a_spans a_now_delays a_net_lefts a_spans_upTo a_net_rights a_net_told a_net_nexts a_net_starts a_net_sizes a_net_steps a_net_links i_net_inputs i_net_gates i_net_paths k_now_delays k_net_lefts k_spans_upTo_15 k_net_rights x5_8 r_16 k_spans_upTo_17 e93_1) (cwV 3 hts gX9_share_X7_greatest rfl rfl rfl dv_X7_greatest ⟨Nat.le_of_ble_eq_true rfl, Nat.le_of_ble_eq_true rfl⟩) [2, 3, 4, 5, 6, 7] [0, 1] rfl rfl rfl rfl (by decide) rfl rfl rfl rfl hl.1 rfl (Nat.le_of_ble_eq_true rfl) dX9_share_93 ⟨Nat.zero_le _, Nat.zero_le _⟩ (fun H locs hw => ?_)
            refine lv_isub hx hb dX9_share_96 ?_
            refine lv_topi (fun x7_18 ex7_18 => ?_)
            replace h := bnd_at ex7_18 h
            refine lv_istore (lv' := [(7, .int x7_18), (6, .int r_13), (0, .ref a_this), (1, .int y1), (2, .int y2), (3, .int x3_7), (4, .int x4_2), (5, .int x5_8)]) hx hb dX9_share_97 hl (by decide) rfl (fun ls hl => ?_)
            refine lv_iload_n hx hb dX9_share_99 rfl (lv_at hl 5 rfl) ?_
            refine lv_iload hx hb dX9_share_100 (lv_at hl 0 rfl) ?_
            refine lv_iload hx hb dX9_share_102 (lv_at hl 1 rfl) ?_
            obtain ⟨r_19, e104_1, h⟩ := obd1_el h
            refine zr_SI (As := [.int r_13]) (rest := [.int x7_18, .int x3_7]) (q0 := 0) (ci := 0) (fs := []) (qc := (RX0, TX0, 4)) S hw (c_X9_ordersOf l D cI cJ cZ cS H.size N r_13 r_19 e104_1) (va_cwS 1 hts gX9_share_X9_ordersOf rfl rfl rfl ds_X9_ordersOf ⟨Nat.le_of_ble_eq_true rfl, Nat.le_of_ble_eq_true rfl⟩) [] rfl rfl rfl hl.1 rfl (Nat.le_of_ble_eq_true rfl) dX9_share_104 ⟨Nat.zero_le _, Nat.zero_le _⟩ ?_
            refine lv_imul hx hb dX9_share_107 ?_
            refine lv_aload_n hx hb dX9_share_108 rfl (lv_at hl 2 rfl) ?_
            refine z_get S hw F75 0 rfl rfl dX9_share_109 ?_
            refine z_get S hw F197 2 rfl rfl dX9_share_112 ?_
            refine lv_iconst (v := (1 : Int32)) hx hb dX9_share_115 (by decide) ?_
            refine lv_isub hx hb dX9_share_116 ?_
            refine lv_iload hx hb dX9_share_117 (lv_at hl 1 rfl) ?_
            refine lv_isub hx hb dX9_share_119 ?_
            obtain ⟨r_20, e120_1, h⟩ := obd1_el h
            refine zr_SI (As := [.int ((i_net_gates - (1 : Int32)) - r_13)]) (rest := [.int (x7_18 * r_19), .int x3_7]) (q0 := 0) (ci := 0) (fs := []) (qc := (RX0, TX0, 4)) S hw (c_X9_ordersOf l D cI cJ cZ cS H.size N ((i_net_gates - (1 : Int32)) - r_13) r_20 e120_1) (va_cwS 1 hts gX9_share_X9_ordersOf rfl rfl rfl ds_X9_ordersOf ⟨Nat.le_of_ble_eq_true rfl, Nat.le_of_ble_eq_true rfl⟩) [] rfl rfl rfl hl.1 rfl (Nat.le_of_ble_eq_true rfl) dX9_share_120 ⟨Nat.zero_le _, Nat.zero_le _⟩ ?_
            refine lv_imul hx hb dX9_share_123 ?_
            refine lv_iadd hx hb dX9_share_124 ?_
            refine lv_topi (fun x3_21 ex3_21 => ?_)
            replace h := bnd_at ex3_21 h
            refine lv_istore_n (lv' := [(3, .int x3_21), (7, .int x7_18), (6, .int r_13), (0, .ref a_this), (1, .int y1), (2, .int y2), (4, .int x4_2), (5, .int x5_8)]) hx hb dX9_share_125 rfl hl (by decide) rfl (fun ls hl => ?_)
            exact hj126_1 x3_21 k_spans_upTo_17 H locs ls h (hw.sub [0, 2, 1, 3, 4, 5, 6, 7] rfl rfl) (lv_sub hl [3, 4, 5, 0, 6, 7] rfl)
    exact hL29_1 N ((0 : Int32)) ((0 : Int32)) k_spans_upTo H locs ls h hw (lv_sub hl [3, 4, 5, 2, 1, 0] rfl)
  · replace h := if_t hc h
    refine lv_iconst (v := (-1 : Int32)) hx hb dX9_share_11 (by decide) ?_
    cases h
    exact z_iret S hQ hr hw [0, 1, 2, 3, 4, 5, 6, 7] rfl rfl dX9_share_12
abbrev rmX9_chanceOf : Room := { frames := 0, cells := 0, slots := 0, locals := 0 }
theorem dv_X9_chanceOf : yX9_chanceOf.cls = RX9 ∧ yX9_chanceOf.cls ≠ "java/lang/invoke/MethodHandle" ∧ yX9_chanceOf.cls ≠ "java/lang/invoke/VarHandle" ∧ (parseMethodDescriptor yX9_chanceOf.desc).map (fun d => d.parameters.length) = some 2 := by decide +kernel
noncomputable def f_X9_chanceOf_L5 (N : Nat) (y1 : Int32) (y2 : Int32) (i_net_gates : Int32) (j44_1 : Int32 → Option (Int32)) : Nat → Int32 → Int32 → Option (Int32)
  | 0, _, _ => none
  | n_5 + 1, x3_2, x4_3 =>
    (if i_net_gates ≤ x4_3 then (j44_1 x3_2) else (bnd (fun (t_4 : Int32) (t_5 : Int32) => (bnd ((t_5 * t_4)) fun (x3_6 : Int32) => bnd (x4_3 + (1 : Int32)) fun (x4_7 : Int32) => f_X9_chanceOf_L5 N y1 y2 i_net_gates j44_1 n_5 x3_6 x4_7)) fun (j36_1 : Int32 → Int32 → Option (Int32)) => (if ((y1 >>> (x4_3 &&& 31)) &&& (1 : Int32)) = (1 : Int32) then (j36_1 y2 x3_2) else (j36_1 (((10 : Int32) - y2)) x3_2))))
noncomputable def f_X9_chanceOf (N : Nat) (y1 : Int32) (y2 : Int32) (i_net_gates : Int32) : Option (Int32) :=
  bnd (fun (x3_1 : Int32) => (some (x3_1))) fun (j44_1 : Int32 → Option (Int32)) => f_X9_chanceOf_L5 N y1 y2 i_net_gates j44_1 N ((1 : Int32)) ((0 : Int32))
set_option maxHeartbeats 4000000 in
set_option maxRecDepth 100000 in
theorem c_X9_chanceOf (l : Launch) (D : va_G) (cI cJ cZ cS : ClassId) (sz N : Nat) (a_this a_net a_script a_acts a_sightings a_now a_trial a_slots a_levels a_table a_waves a_spans a_draft a_net_told a_net_lefts a_net_rights a_net_nexts a_net_starts a_net_sizes a_net_steps a_net_links : Nat) (i_this_lastDraw : Int64) (i_net_inputs : Int32) (i_net_gates : Int32) (i_net_paths : Int32) (y1 : Int32) (y2 : Int32) (rr : Int32) (hf : f_X9_chanceOf N y1 y2 i_net_gates = some (rr)) : MetIr l yX9_chanceOf wsX9_chanceOf rmX9_chanceOf D (tyA cI cJ cZ cS) [(a_this, .inr (9, [.ref a_script, .ref a_acts, .ref a_sightings, .ref a_now, .ref a_trial, .ref a_slots, .ref a_levels, .ref a_table, .ref a_waves, .ref a_spans, .ref a_net, .ref a_draft, .long i_this_lastDraw])), (a_net, .inr (2, [.int i_net_inputs, .int i_net_gates, .int i_net_paths, .ref a_net_told, .ref a_net_lefts, .ref a_net_rights, .ref a_net_nexts, .ref a_net_starts, .ref a_net_sizes, .ref a_net_steps, .ref a_net_links]))] sz [.ref a_this, .int y1, .int y2] rr := by
  refine entIr (cc := cX9_chanceOf) (maxL := 5) (own := RX9) (by decide) rfl rfl (Nat.le_of_ble_eq_true rfl) ?_
  intro p e s m args below meth c A ls Q S hr hw hl hQ
  have hx := S.1.1
  have hb := S.1.2.1
  have hts := S.1.2.2.2.2
  have hl : lv_has ls 5 [(0, .ref a_this), (1, .int y1), (2, .int y2)] := hl
  have hinX9 : ∀ w ∈ u_ws RX9 TX9 13, w ∈ wsX9_chanceOf := (fun _ h => List.mem_cons_of_mem _ (List.mem_append_left _ (List.mem_append_right _ h)))
  have F75 : FLk s args wsX9_chanceOf RX9 75 RX9 TX9 13 9 10 := ⟨hinX9, rfl, by decide, hts (.fieldLink RX9 75 "SlowPaths" "net" "LSlowPaths$Net;") (List.mem_of_getElem? (i := 1) rfl)⟩
  have hinX2 : ∀ w ∈ u_ws RX2 TX2 11, w ∈ wsX9_chanceOf := (fun _ h => List.mem_cons_of_mem _ (List.mem_append_right _ h))
  have F197 : FLk s args wsX9_chanceOf RX9 197 RX2 TX2 11 2 1 := ⟨hinX2, rfl, by decide, hts (.fieldLink RX9 197 "SlowPaths$Net" "gates" "I") (List.mem_of_getElem? (i := 2) rfl)⟩
  have h := hf
  rw [f_X9_chanceOf] at h
  refine lv_iconst (v := (1 : Int32)) hx hb dX9_chanceOf_0 (by decide) ?_
  refine lv_istore_n (lv' := [(3, .int (1 : Int32)), (0, .ref a_this), (1, .int y1), (2, .int y2)]) hx hb dX9_chanceOf_1 rfl hl (by decide) rfl (fun ls hl => ?_)
  refine lv_iconst (v := (0 : Int32)) hx hb dX9_chanceOf_2 (by decide) ?_
  refine lv_istore (lv' := [(4, .int (0 : Int32)), (3, .int (1 : Int32)), (0, .ref a_this), (1, .int y1), (2, .int y2)]) hx hb dX9_chanceOf_3 hl (by decide) rfl (fun ls hl => ?_)
  obtain ⟨j44_1, ej44_1, h⟩ := bnd_ex h
  have hj44_1 : ∀ (x3_1 : Int32) (ls : Array Slot), j44_1 x3_1 = some (rr) → lv_has ls 5 [(3, .int x3_1)] → W p l e rmX9_chanceOf s m args below meth c s.heap [] 0 0 Q (F0 m 44 ls []) := by
    intro x3_1 ls h hl
    replace h := ap1 ej44_1 h
    refine lv_iload_n hx hb dX9_chanceOf_44 rfl (lv_at hl 0 rfl) ?_
    cases h
    exact z_iretr S hQ hr dX9_chanceOf_45
  have hL5_1 : ∀ (nf : Nat) (x3_2 : Int32) (x4_3 : Int32) (ls : Array Slot), f_X9_chanceOf_L5 N y1 y2 i_net_gates j44_1 nf x3_2 x4_3 = some (rr) → lv_has ls 5 [(0, .ref a_this), (1, .int y1), (2, .int y2), (3, .int x3_2), (4, .int x4_3)] → W p l e rmX9_chanceOf s m args below meth c s.heap [] 0 0 Q (F0 m 5 ls []) := by
    intro nf
    induction nf with
    | zero =>
      intro x3_2 x4_3 ls h
      rw [f_X9_chanceOf_L5] at h
      cases h
    | succ n_5 ih_5 =>
      intro x3_2 x4_3 ls h hl
      rw [f_X9_chanceOf_L5] at h
      refine lv_iload hx hb dX9_chanceOf_5 (lv_at hl 4 rfl) ?_
      refine lv_aload_n hx hb dX9_chanceOf_7 rfl (lv_at hl 0 rfl) ?_
      refine z_get S hw F75 0 rfl rfl dX9_chanceOf_8 ?_
      refine z_get S hw F197 1 rfl rfl dX9_chanceOf_11 ?_
      refine lv_icmp_ge (tgt := 44) hx hb dX9_chanceOf_14 (by decide) (fun hc => ?_) (fun hc => ?_)
      · replace h := if_t hc h
        exact hj44_1 x3_2 ls h (lv_sub hl [3] rfl)
      · replace h := if_f hc h
        refine lv_iload_n hx hb dX9_chanceOf_17 rfl (lv_at hl 3 rfl) ?_
        refine lv_iload_n hx hb dX9_chanceOf_18 rfl (lv_at hl 1 rfl) ?_
        refine lv_iload hx hb dX9_chanceOf_19 (lv_at hl 4 rfl) ?_
        refine lv_ishr hx hb dX9_chanceOf_21 ?_
        refine lv_iconst (v := (1 : Int32)) hx hb dX9_chanceOf_22 (by decide) ?_
        refine lv_iand hx hb dX9_chanceOf_23 ?_
        refine lv_iconst (v := (1 : Int32)) hx hb dX9_chanceOf_24 (by decide) ?_
        obtain ⟨j36_1, ej36_1, h⟩ := bnd_ex h
        have hj36_1 : ∀ (t_4 : Int32) (t_5 : Int32) (ls : Array Slot), j36_1 t_4 t_5 = some (rr) → lv_has ls 5 [(0, .ref a_this), (1, .int y1), (2, .int y2), (4, .int x4_3)] → W p l e rmX9_chanceOf s m args below meth c s.heap [] 0 0 Q (F0 m 36 ls [.int t_4, .int t_5]) := by
          intro t_4 t_5 ls h hl
          replace h := ap2 ej36_1 h
          refine lv_imul hx hb dX9_chanceOf_36 ?_
          refine lv_topi (fun x3_6 ex3_6 => ?_)
          replace h := bnd_at ex3_6 h
          refine lv_istore_n (lv' := [(3, .int x3_6), (0, .ref a_this), (1, .int y1), (2, .int y2), (4, .int x4_3)]) hx hb dX9_chanceOf_37 rfl hl (by decide) rfl (fun ls hl => ?_)
          obtain ⟨x4_7, ex4_7, h⟩ := bnd_ex h
          refine lv_iinc (v := x4_7) (lv' := [(4, .int x4_7), (3, .int x3_6), (0, .ref a_this), (1, .int y1), (2, .int y2)]) hx hb dX9_chanceOf_38 hl (k := 4) rfl (by rw [ex4_7]; rfl) (by decide) rfl (fun ls hl => ?_)
          refine lv_goto (tgt := 5) hx hb dX9_chanceOf_41 (by decide) ?_
          exact ih_5 x3_6 x4_7 ls h (lv_sub hl [2, 3, 4, 1, 0] rfl)
        refine lv_icmp_ne (tgt := 32) hx hb dX9_chanceOf_25 (by decide) (fun hc => ?_) (fun hc => ?_)
        · replace h := if_f hc h
          refine lv_bipush (v := (10 : Int32)) hx hb dX9_chanceOf_32 (by decide) ?_
          refine lv_iload_n hx hb dX9_chanceOf_34 rfl (lv_at hl 2 rfl) ?_
          refine lv_isub hx hb dX9_chanceOf_35 ?_
          exact hj36_1 (((10 : Int32) - y2)) x3_2 ls h (lv_sub hl [0, 1, 2, 4] rfl)
        · replace h := if_t hc h
          refine lv_iload_n hx hb dX9_chanceOf_28 rfl (lv_at hl 2 rfl) ?_
          refine lv_goto (tgt := 36) hx hb dX9_chanceOf_29 (by decide) ?_
          exact hj36_1 y2 x3_2 ls h (lv_sub hl [0, 1, 2, 4] rfl)
  exact hL5_1 N ((1 : Int32)) ((0 : Int32)) ls h (lv_sub hl [2, 3, 4, 1, 0] rfl)
abbrev rmX9_slowTrial : Room := { frames := 0, cells := 0, slots := 0, locals := 0 }
theorem dv_X9_slowTrial : yX9_slowTrial.cls = RX9 ∧ yX9_slowTrial.cls ≠ "java/lang/invoke/MethodHandle" ∧ yX9_slowTrial.cls ≠ "java/lang/invoke/VarHandle" ∧ (parseMethodDescriptor yX9_slowTrial.desc).map (fun d => d.parameters.length) = some 1 := by decide +kernel
noncomputable def f_X9_slowTrial_L2 (N : Nat) (y1 : Int32) (i_net_gates : Int32) (k_now_delays : (Nat → Int32)) (j52_1 : (Nat → Int32) → Option ((Nat → Int32))) : Nat → Int32 → (Nat → Int32) → Option ((Nat → Int32))
  | 0, _, _ => none
  | n_2 + 1, x2_2, k_trial_delays_3 =>
    (if i_net_gates ≤ x2_2 then (j52_1 k_trial_delays_3) else (grd (inb x2_2 8) <| bnd (fun (t_4 : Int32) (t_5 : Int32) (t_6 : Int32) => (grd (inb t_6 8) <| bnd (upd k_trial_delays_3 t_6.toNatClampNeg (t_5 + t_4)) fun (k_trial_delays_7 : (Nat → Int32)) => bnd (x2_2 + (1 : Int32)) fun (x2_8 : Int32) => f_X9_slowTrial_L2 N y1 i_net_gates k_now_delays j52_1 n_2 x2_8 k_trial_delays_7)) fun (j44_1 : Int32 → Int32 → Int32 → Option ((Nat → Int32))) => (if ((y1 >>> (x2_2 &&& 31)) &&& (1 : Int32)) = (1 : Int32) then (j44_1 ((3 : Int32)) ((k_now_delays x2_2.toNatClampNeg)) x2_2) else (j44_1 ((0 : Int32)) ((k_now_delays x2_2.toNatClampNeg)) x2_2))))
noncomputable def f_X9_slowTrial (N : Nat) (y1 : Int32) (i_net_gates : Int32) (k_now_delays : (Nat → Int32)) (k_trial_delays : (Nat → Int32)) : Option ((Nat → Int32)) :=
  bnd (fun (k_trial_delays_1 : (Nat → Int32)) => (some (k_trial_delays_1))) fun (j52_1 : (Nat → Int32) → Option ((Nat → Int32))) => f_X9_slowTrial_L2 N y1 i_net_gates k_now_delays j52_1 N ((0 : Int32)) k_trial_delays
set_option maxHeartbeats 4000000 in
set_option maxRecDepth 100000 in
theorem c_X9_slowTrial (l : Launch) (D : va_G) (cI cJ cZ cS : ClassId) (sz N : Nat) (a_this a_net a_trial a_now a_now_delays a_trial_delays a_script a_acts a_sightings a_slots a_levels a_table a_waves a_spans a_draft a_net_told a_net_lefts a_net_rights a_net_nexts a_net_starts a_net_sizes a_net_steps a_net_links a_trial_kinds a_now_kinds : Nat) (i_this_lastDraw : Int64) (i_net_inputs : Int32) (i_net_gates : Int32) (i_net_paths : Int32) (i_trial_held : Int32) (i_now_held : Int32) (k_now_delays : (Nat → Int32)) (k_trial_delays : (Nat → Int32)) (y1 : Int32) (o_trial_delays : (Nat → Int32)) (hf : f_X9_slowTrial N y1 i_net_gates k_now_delays k_trial_delays = some (o_trial_delays)) : MetV l yX9_slowTrial wsX9_slowTrial rmX9_slowTrial D (tyA cI cJ cZ cS) [(a_this, .inr (9, [.ref a_script, .ref a_acts, .ref a_sightings, .ref a_now, .ref a_trial, .ref a_slots, .ref a_levels, .ref a_table, .ref a_waves, .ref a_spans, .ref a_net, .ref a_draft, .long i_this_lastDraw])), (a_net, .inr (2, [.int i_net_inputs, .int i_net_gates, .int i_net_paths, .ref a_net_told, .ref a_net_lefts, .ref a_net_rights, .ref a_net_nexts, .ref a_net_starts, .ref a_net_sizes, .ref a_net_steps, .ref a_net_links])), (a_trial, .inr (5, [.ref a_trial_kinds, .ref a_trial_delays, .int i_trial_held])), (a_now, .inr (5, [.ref a_now_kinds, .ref a_now_delays, .int i_now_held])), (a_now_delays, .inl (cI, 8, .inl k_now_delays)), (a_trial_delays, .inl (cI, 8, .inl k_trial_delays))] sz [.ref a_this, .int y1] [(a_this, .inr (9, [.ref a_script, .ref a_acts, .ref a_sightings, .ref a_now, .ref a_trial, .ref a_slots, .ref a_levels, .ref a_table, .ref a_waves, .ref a_spans, .ref a_net, .ref a_draft, .long i_this_lastDraw])), (a_net, .inr (2, [.int i_net_inputs, .int i_net_gates, .int i_net_paths, .ref a_net_told, .ref a_net_lefts, .ref a_net_rights, .ref a_net_nexts, .ref a_net_starts, .ref a_net_sizes, .ref a_net_steps, .ref a_net_links])), (a_trial, .inr (5, [.ref a_trial_kinds, .ref a_trial_delays, .int i_trial_held])), (a_now, .inr (5, [.ref a_now_kinds, .ref a_now_delays, .int i_now_held])), (a_now_delays, .inl (cI, 8, .inl k_now_delays)), (a_trial_delays, .inl (cI, 8, .inl o_trial_delays))] := by
  refine entV (cc := cX9_slowTrial) (maxL := 3) (own := RX9) (by decide) rfl rfl (Nat.le_of_ble_eq_true rfl) ?_
  intro p e s m args below meth c A ls Q H locs S hr hw hl hQ
  have hx := S.1.1
  have hb := S.1.2.1
  have hts := S.1.2.2.2.2
  have hl : lv_has ls 3 [(0, .ref a_this), (1, .int y1)] := hl
  have hinX9 : ∀ w ∈ u_ws RX9 TX9 13, w ∈ wsX9_slowTrial := (fun _ h => List.mem_cons_of_mem _ (List.mem_append_left _ (List.mem_append_left _ (List.mem_append_right _ h))))
  have F33 : FLk s args wsX9_slowTrial RX9 33 RX9 TX9 13 9 3 := ⟨hinX9, rfl, by decide, hts (.fieldLink RX9 33 "SlowPaths" "now" "LSlowPaths$Setting;") (List.mem_of_getElem? (i := 5) rfl)⟩
  have F37 : FLk s args wsX9_slowTrial RX9 37 RX9 TX9 13 9 4 := ⟨hinX9, rfl, by decide, hts (.fieldLink RX9 37 "SlowPaths" "trial" "LSlowPaths$Setting;") (List.mem_of_getElem? (i := 3) rfl)⟩
  have F75 : FLk s args wsX9_slowTrial RX9 75 RX9 TX9 13 9 10 := ⟨hinX9, rfl, by decide, hts (.fieldLink RX9 75 "SlowPaths" "net" "LSlowPaths$Net;") (List.mem_of_getElem? (i := 1) rfl)⟩
  have hinX5 : ∀ w ∈ u_ws RX5 TX5 3, w ∈ wsX9_slowTrial := (fun _ h => List.mem_cons_of_mem _ (List.mem_append_right _ h))
  have F129 : FLk s args wsX9_slowTrial RX9 129 RX5 TX5 3 5 1 := ⟨hinX5, rfl, by decide, hts (.fieldLink RX9 129 "SlowPaths$Setting" "delays" "[I") (List.mem_of_getElem? (i := 4) rfl)⟩
  have hinX2 : ∀ w ∈ u_ws RX2 TX2 11, w ∈ wsX9_slowTrial := (fun _ h => List.mem_cons_of_mem _ (List.mem_append_left _ (List.mem_append_right _ h)))
  have F197 : FLk s args wsX9_slowTrial RX9 197 RX2 TX2 11 2 1 := ⟨hinX2, rfl, by decide, hts (.fieldLink RX9 197 "SlowPaths$Net" "gates" "I") (List.mem_of_getElem? (i := 2) rfl)⟩
  have h := hf
  rw [f_X9_slowTrial] at h
  refine lv_iconst (v := (0 : Int32)) hx hb dX9_slowTrial_0 (by decide) ?_
  refine lv_istore_n (lv' := [(2, .int (0 : Int32)), (0, .ref a_this), (1, .int y1)]) hx hb dX9_slowTrial_1 rfl hl (by decide) rfl (fun ls hl => ?_)
  obtain ⟨j52_1, ej52_1, h⟩ := bnd_ex h
  have hj52_1 : ∀ (k_trial_delays_1 : (Nat → Int32)) (H : Heap) (locs : List Loc) (ls : Array Slot), j52_1 k_trial_delays_1 = some (o_trial_delays) → Wd D (tyA cI cJ cZ cS) A s [(a_this, .inr (9, [.ref a_script, .ref a_acts, .ref a_sightings, .ref a_now, .ref a_trial, .ref a_slots, .ref a_levels, .ref a_table, .ref a_waves, .ref a_spans, .ref a_net, .ref a_draft, .long i_this_lastDraw])), (a_net, .inr (2, [.int i_net_inputs, .int i_net_gates, .int i_net_paths, .ref a_net_told, .ref a_net_lefts, .ref a_net_rights, .ref a_net_nexts, .ref a_net_starts, .ref a_net_sizes, .ref a_net_steps, .ref a_net_links])), (a_trial, .inr (5, [.ref a_trial_kinds, .ref a_trial_delays, .int i_trial_held])), (a_now, .inr (5, [.ref a_now_kinds, .ref a_now_delays, .int i_now_held])), (a_now_delays, .inl (cI, 8, .inl k_now_delays)), (a_trial_delays, .inl (cI, 8, .inl k_trial_delays_1))] H locs → lv_has ls 3 [] → W p l e rmX9_slowTrial s m args below meth c H locs 0 0 Q (F0 m 52 ls []) := by
    intro k_trial_delays_1 H locs ls h hw hl
    replace h := ap1 ej52_1 h
    cases h
    exact z_vret S hQ hr hw [0, 1, 2, 3, 4, 5] rfl rfl dX9_slowTrial_52
  have hL2_1 : ∀ (nf : Nat) (x2_2 : Int32) (k_trial_delays_3 : (Nat → Int32)) (H : Heap) (locs : List Loc) (ls : Array Slot), f_X9_slowTrial_L2 N y1 i_net_gates k_now_delays j52_1 nf x2_2 k_trial_delays_3 = some (o_trial_delays) → Wd D (tyA cI cJ cZ cS) A s [(a_this, .inr (9, [.ref a_script, .ref a_acts, .ref a_sightings, .ref a_now, .ref a_trial, .ref a_slots, .ref a_levels, .ref a_table, .ref a_waves, .ref a_spans, .ref a_net, .ref a_draft, .long i_this_lastDraw])), (a_net, .inr (2, [.int i_net_inputs, .int i_net_gates, .int i_net_paths, .ref a_net_told, .ref a_net_lefts, .ref a_net_rights, .ref a_net_nexts, .ref a_net_starts, .ref a_net_sizes, .ref a_net_steps, .ref a_net_links])), (a_trial, .inr (5, [.ref a_trial_kinds, .ref a_trial_delays, .int i_trial_held])), (a_now, .inr (5, [.ref a_now_kinds, .ref a_now_delays, .int i_now_held])), (a_now_delays, .inl (cI, 8, .inl k_now_delays)), (a_trial_delays, .inl (cI, 8, .inl k_trial_delays_3))] H locs → lv_has ls 3 [(0, .ref a_this), (1, .int y1), (2, .int x2_2)] → W p l e rmX9_slowTrial s m args below meth c H locs 0 0 Q (F0 m 2 ls []) := by
    intro nf
    induction nf with
    | zero =>
      intro x2_2 k_trial_delays_3 H locs ls h
      rw [f_X9_slowTrial_L2] at h
      cases h
    | succ n_2 ih_2 =>
      intro x2_2 k_trial_delays_3 H locs ls h hw hl
      rw [f_X9_slowTrial_L2] at h
      refine lv_iload_n hx hb dX9_slowTrial_2 rfl (lv_at hl 2 rfl) ?_
      refine lv_aload_n hx hb dX9_slowTrial_3 rfl (lv_at hl 0 rfl) ?_
      refine z_get S hw F75 0 rfl rfl dX9_slowTrial_4 ?_
      refine z_get S hw F197 1 rfl rfl dX9_slowTrial_7 ?_
      refine lv_icmp_ge (tgt := 52) hx hb dX9_slowTrial_10 (by decide) (fun hc => ?_) (fun hc => ?_)
      · replace h := if_t hc h
        exact hj52_1 k_trial_delays_3 H locs ls h hw (lv_sub hl [] rfl)
      · replace h := if_f hc h
        refine lv_aload_n hx hb dX9_slowTrial_13 rfl (lv_at hl 0 rfl) ?_
        refine z_get S hw F37 0 rfl rfl dX9_slowTrial_14 ?_
        refine z_get S hw F129 2 rfl rfl dX9_slowTrial_17 ?_
        refine lv_iload_n hx hb dX9_slowTrial_20 rfl (lv_at hl 2 rfl) ?_
        refine lv_aload_n hx hb dX9_slowTrial_21 rfl (lv_at hl 0 rfl) ?_
        refine z_get S hw F33 0 rfl rfl dX9_slowTrial_22 ?_
        refine z_get S hw F129 3 rfl rfl dX9_slowTrial_25 ?_
        refine lv_iload_n hx hb dX9_slowTrial_28 rfl (lv_at hl 2 rfl) ?_
        obtain ⟨hg, h⟩ := grd_el h
        refine z_iald S hw 4 0 rfl rfl hg dX9_slowTrial_29 ?_
        refine lv_iload_n hx hb dX9_slowTrial_30 rfl (lv_at hl 1 rfl) ?_
        refine lv_iload_n hx hb dX9_slowTrial_31 rfl (lv_at hl 2 rfl) ?_
        refine lv_ishr hx hb dX9_slowTrial_32 ?_
        refine lv_iconst (v := (1 : Int32)) hx hb dX9_slowTrial_33 (by decide) ?_
        refine lv_iand hx hb dX9_slowTrial_34 ?_
        refine lv_iconst (v := (1 : Int32)) hx hb dX9_slowTrial_35 (by decide) ?_
        obtain ⟨j44_1, ej44_1, h⟩ := bnd_ex h
        have hj44_1 : ∀ (t_4 : Int32) (t_5 : Int32) (t_6 : Int32) (H : Heap) (locs : List Loc) (ls : Array Slot), j44_1 t_4 t_5 t_6 = some (o_trial_delays) → Wd D (tyA cI cJ cZ cS) A s [(a_this, .inr (9, [.ref a_script, .ref a_acts, .ref a_sightings, .ref a_now, .ref a_trial, .ref a_slots, .ref a_levels, .ref a_table, .ref a_waves, .ref a_spans, .ref a_net, .ref a_draft, .long i_this_lastDraw])), (a_net, .inr (2, [.int i_net_inputs, .int i_net_gates, .int i_net_paths, .ref a_net_told, .ref a_net_lefts, .ref a_net_rights, .ref a_net_nexts, .ref a_net_starts, .ref a_net_sizes, .ref a_net_steps, .ref a_net_links])), (a_trial, .inr (5, [.ref a_trial_kinds, .ref a_trial_delays, .int i_trial_held])), (a_now, .inr (5, [.ref a_now_kinds, .ref a_now_delays, .int i_now_held])), (a_now_delays, .inl (cI, 8, .inl k_now_delays)), (a_trial_delays, .inl (cI, 8, .inl k_trial_delays_3))] H locs → lv_has ls 3 [(0, .ref a_this), (1, .int y1), (2, .int x2_2)] → W p l e rmX9_slowTrial s m args below meth c H locs 0 0 Q (F0 m 44 ls [.int t_4, .int t_5, .int t_6, .ref a_trial_delays]) := by
          intro t_4 t_5 t_6 H locs ls h hw hl
          replace h := ap3 ej44_1 h
          refine lv_iadd hx hb dX9_slowTrial_44 ?_
          obtain ⟨hg, h⟩ := grd_el h
          obtain ⟨k_trial_delays_7, ek_trial_delays_7, h⟩ := bnd_ex h
          refine z_iast S hw ek_trial_delays_7 5 0 rfl rfl hg dX9_slowTrial_45 (fun H locs hw => ?_)
          obtain ⟨x2_8, ex2_8, h⟩ := bnd_ex h
          refine lv_iinc (v := x2_8) (lv' := [(2, .int x2_8), (0, .ref a_this), (1, .int y1)]) hx hb dX9_slowTrial_46 hl (k := 2) rfl (by rw [ex2_8]; rfl) (by decide) rfl (fun ls hl => ?_)
          refine lv_goto (tgt := 2) hx hb dX9_slowTrial_49 (by decide) ?_
          exact ih_2 x2_8 k_trial_delays_7 H locs ls h hw (lv_sub hl [1, 2, 0] rfl)
        refine lv_icmp_ne (tgt := 43) hx hb dX9_slowTrial_36 (by decide) (fun hc => ?_) (fun hc => ?_)
        · replace h := if_f hc h
          refine lv_iconst (v := (0 : Int32)) hx hb dX9_slowTrial_43 (by decide) ?_
          exact hj44_1 ((0 : Int32)) ((k_now_delays x2_2.toNatClampNeg)) x2_2 H locs ls h hw hl
        · replace h := if_t hc h
          refine lv_iconst (v := (3 : Int32)) hx hb dX9_slowTrial_39 (by decide) ?_
          refine lv_goto (tgt := 44) hx hb dX9_slowTrial_40 (by decide) ?_
          exact hj44_1 ((3 : Int32)) ((k_now_delays x2_2.toNatClampNeg)) x2_2 H locs ls h hw hl
  exact hL2_1 N ((0 : Int32)) k_trial_delays H locs ls h hw (lv_sub hl [1, 2, 0] rfl)
