abbrev rmX9_slows : Room := { frames := 3, cells := 0, slots := 0, locals := 62 }
theorem dv_X9_slows : yX9_slows.cls = RX9 ∧ yX9_slows.cls ≠ "java/lang/invoke/MethodHandle" ∧ yX9_slows.cls ≠ "java/lang/invoke/VarHandle" ∧ (parseMethodDescriptor yX9_slows.desc).map (fun d => d.parameters.length) = some 4 := by decide +kernel
noncomputable def f_X9_slows_L166 (N : Nat) (i_net_gates : Int32) (j191_1 : Int32 → Option (Int32 × (Nat → Int32) × (Nat → Int32) × (Nat → Int64) × (Nat → Int64) × (Nat → Int64) × (Nat → Int64))) : Nat → Int32 → Int32 → Option (Int32 × (Nat → Int32) × (Nat → Int32) × (Nat → Int64) × (Nat → Int64) × (Nat → Int64) × (Nat → Int64))
  | 0, _, _ => none
  | n_166 + 1, x7_13, x8_14 =>
    (if i_net_gates ≤ x8_14 then (j191_1 x7_13) else (bnd ((x7_13 * (10 : Int32))) fun (x7_15 : Int32) => bnd (x8_14 + (1 : Int32)) fun (x8_16 : Int32) => f_X9_slows_L166 N i_net_gates j191_1 n_166 x7_15 x8_16))
noncomputable def f_X9_slows_L75 (N : Nat) (y1 : Int32) (y2 : Int32) (y3 : Int32) (i_net_inputs : Int32) (i_net_gates : Int32) (k_now_delays : (Nat → Int32)) (k_net_lefts : (Nat → Int32)) (k_net_rights : (Nat → Int32)) (k_trial_kinds_2 : (Nat → Int32)) (x6_4 : Int32) (j160_1 : Int32 → (Nat → Int32) → (Nat → Int64) → (Nat → Int64) → (Nat → Int64) → (Nat → Int64) → Option (Int32 × (Nat → Int32) × (Nat → Int32) × (Nat → Int64) × (Nat → Int64) × (Nat → Int64) × (Nat → Int64))) : Nat → Int32 → Int32 → (Nat → Int32) → (Nat → Int64) → (Nat → Int64) → (Nat → Int64) → (Nat → Int64) → Option (Int32 × (Nat → Int32) × (Nat → Int32) × (Nat → Int64) × (Nat → Int64) × (Nat → Int64) × (Nat → Int64))
  | 0, _, _, _, _, _, _, _ => none
  | n_75 + 1, x5_17, x7_18, k_trial_delays_19, k_waves_before_20, k_waves_after_21, k_waves_low_22, k_waves_high_23 =>
    (if x6_4 ≤ x7_18 then (j160_1 x5_17 k_trial_delays_19 k_waves_before_20 k_waves_after_21 k_waves_low_22 k_waves_high_23) else (obd1 (f_X9_chanceOf N x7_18 y3 i_net_gates) fun (r_24 : Int32) => bnd (fun (x5_25 : Int32) (k_trial_delays_26 : (Nat → Int32)) (k_waves_before_27 : (Nat → Int64)) (k_waves_after_28 : (Nat → Int64)) (k_waves_low_29 : (Nat → Int64)) (k_waves_high_30 : (Nat → Int64)) => (bnd (x7_18 + (1 : Int32)) fun (x7_31 : Int32) => f_X9_slows_L75 N y1 y2 y3 i_net_inputs i_net_gates k_now_delays k_net_lefts k_net_rights k_trial_kinds_2 x6_4 j160_1 n_75 x5_25 x7_31 k_trial_delays_26 k_waves_before_27 k_waves_after_28 k_waves_low_29 k_waves_high_30)) fun (j154_1 : Int32 → (Nat → Int32) → (Nat → Int64) → (Nat → Int64) → (Nat → Int64) → (Nat → Int64) → Option (Int32 × (Nat → Int32) × (Nat → Int32) × (Nat → Int64) × (Nat → Int64) × (Nat → Int64) × (Nat → Int64))) => (if r_24 ≤ (0 : Int32) then (j154_1 x5_17 k_trial_delays_19 k_waves_before_20 k_waves_after_21 k_waves_low_22 k_waves_high_23) else (obd1 (f_X9_slowTrial N x7_18 i_net_gates k_now_delays k_trial_delays_19) fun (k_trial_delays_32 : (Nat → Int32)) => obd4 (f_X8_run N y1 i_net_inputs i_net_gates k_trial_kinds_2 k_trial_delays_32 k_net_lefts k_net_rights k_waves_before_20 k_waves_after_21 k_waves_low_22 k_waves_high_23) fun (k_waves_before_33 : (Nat → Int64)) (k_waves_after_34 : (Nat → Int64)) (k_waves_low_35 : (Nat → Int64)) (k_waves_high_36 : (Nat → Int64)) => obd1 (f_X8_isLate N y2 i_net_gates k_waves_high_36 k_waves_low_35 k_waves_after_34) fun (r_37 : Int32) => bnd (fun (t_38 : Int32) (t_39 : Int32) => (bnd ((t_39 + t_38)) fun (x5_40 : Int32) => j154_1 x5_40 k_trial_delays_32 k_waves_before_33 k_waves_after_34 k_waves_low_35 k_waves_high_36)) fun (j151_1 : Int32 → Int32 → Option (Int32 × (Nat → Int32) × (Nat → Int32) × (Nat → Int64) × (Nat → Int64) × (Nat → Int64) × (Nat → Int64))) => (if r_37 = (0 : Int32) then (j151_1 ((0 : Int32)) x5_17) else (j151_1 r_24 x5_17))))))
noncomputable def f_X9_slows (N : Nat) (y1 : Int32) (y2 : Int32) (y3 : Int32) (y4 : Int32) (i_net_inputs : Int32) (i_net_gates : Int32) (k_now_kinds : (Nat → Int32)) (k_trial_kinds : (Nat → Int32)) (k_now_delays : (Nat → Int32)) (k_trial_delays : (Nat → Int32)) (k_net_lefts : (Nat → Int32)) (k_net_rights : (Nat → Int32)) (k_waves_before : (Nat → Int64)) (k_waves_after : (Nat → Int64)) (k_waves_low : (Nat → Int64)) (k_waves_high : (Nat → Int64)) : Option (Int32 × (Nat → Int32) × (Nat → Int32) × (Nat → Int64) × (Nat → Int64) × (Nat → Int64) × (Nat → Int64)) :=
  obd1 (f_X2_hasPair N y1 i_net_inputs) fun (r_1 : Int32) => (if r_1 = (0 : Int32) then (some ((-2 : Int32), k_trial_kinds, k_trial_delays, k_waves_before, k_waves_after, k_waves_low, k_waves_high)) else ((if y2 < (0 : Int32) then (some ((-2 : Int32), k_trial_kinds, k_trial_delays, k_waves_before, k_waves_after, k_waves_low, k_waves_high)) else ((if (99 : Int32) < y2 then (some ((-2 : Int32), k_trial_kinds, k_trial_delays, k_waves_before, k_waves_after, k_waves_low, k_waves_high)) else ((if y3 < (0 : Int32) then (some ((-2 : Int32), k_trial_kinds, k_trial_delays, k_waves_before, k_waves_after, k_waves_low, k_waves_high)) else ((if y3 ≤ (10 : Int32) then ((if i_net_gates = (0 : Int32) then (some ((-3 : Int32), k_trial_kinds, k_trial_delays, k_waves_before, k_waves_after, k_waves_low, k_waves_high)) else (obd2 (f_X5_copyFrom N k_now_kinds k_trial_kinds k_now_delays k_trial_delays) fun (k_trial_kinds_2 : (Nat → Int32)) (k_trial_delays_3 : (Nat → Int32)) => bnd (((1 : Int32) <<< (i_net_gates &&& 31))) fun (x6_4 : Int32) => bnd (fun (x5_5 : Int32) (k_trial_delays_6 : (Nat → Int32)) (k_waves_before_7 : (Nat → Int64)) (k_waves_after_8 : (Nat → Int64)) (k_waves_low_9 : (Nat → Int64)) (k_waves_high_10 : (Nat → Int64)) => (bnd (fun (x7_11 : Int32) => (obd1 (f_X9_fraction N x5_5 x7_11 y4) fun (r_12 : Int32) => some (r_12, k_trial_kinds_2, k_trial_delays_6, k_waves_before_7, k_waves_after_8, k_waves_low_9, k_waves_high_10))) fun (j191_1 : Int32 → Option (Int32 × (Nat → Int32) × (Nat → Int32) × (Nat → Int64) × (Nat → Int64) × (Nat → Int64) × (Nat → Int64))) => f_X9_slows_L166 N i_net_gates j191_1 N ((1 : Int32)) ((0 : Int32)))) fun (j160_1 : Int32 → (Nat → Int32) → (Nat → Int64) → (Nat → Int64) → (Nat → Int64) → (Nat → Int64) → Option (Int32 × (Nat → Int32) × (Nat → Int32) × (Nat → Int64) × (Nat → Int64) × (Nat → Int64) × (Nat → Int64))) => f_X9_slows_L75 N y1 y2 y3 i_net_inputs i_net_gates k_now_delays k_net_lefts k_net_rights k_trial_kinds_2 x6_4 j160_1 N ((0 : Int32)) ((0 : Int32)) k_trial_delays_3 k_waves_before k_waves_after k_waves_low k_waves_high))) else (some ((-2 : Int32), k_trial_kinds, k_trial_delays, k_waves_before, k_waves_after, k_waves_low, k_waves_high)))))))))))
set_option maxHeartbeats 4000000 in
set_option maxRecDepth 100000 in
theorem c_X9_slows (l : Launch) (D : va_G) (cI cJ cZ cS : ClassId) (sz N : Nat) (a_this a_net a_now a_trial a_waves a_now_kinds a_trial_kinds a_now_delays a_trial_delays a_net_lefts a_net_rights a_waves_before a_waves_after a_waves_low a_waves_high a_script a_acts a_sightings a_slots a_levels a_table a_spans a_draft a_net_told a_net_nexts a_net_starts a_net_sizes a_net_steps a_net_links : Nat) (i_this_lastDraw : Int64) (i_net_inputs : Int32) (i_net_gates : Int32) (i_net_paths : Int32) (i_now_held : Int32) (i_trial_held : Int32) (k_now_kinds : (Nat → Int32)) (k_trial_kinds : (Nat → Int32)) (k_now_delays : (Nat → Int32)) (k_trial_delays : (Nat → Int32)) (k_net_lefts : (Nat → Int32)) (k_net_rights : (Nat → Int32)) (k_waves_before : (Nat → Int64)) (k_waves_after : (Nat → Int64)) (k_waves_low : (Nat → Int64)) (k_waves_high : (Nat → Int64)) (y1 : Int32) (y2 : Int32) (y3 : Int32) (y4 : Int32) (rr : Int32) (o_trial_kinds : (Nat → Int32)) (o_trial_delays : (Nat → Int32)) (o_waves_before : (Nat → Int64)) (o_waves_after : (Nat → Int64)) (o_waves_low : (Nat → Int64)) (o_waves_high : (Nat → Int64)) (hf : f_X9_slows N y1 y2 y3 y4 i_net_inputs i_net_gates k_now_kinds k_trial_kinds k_now_delays k_trial_delays k_net_lefts k_net_rights k_waves_before k_waves_after k_waves_low k_waves_high = some (rr, o_trial_kinds, o_trial_delays, o_waves_before, o_waves_after, o_waves_low, o_waves_high)) : MetI l yX9_slows wsX9_slows rmX9_slows D (tyA cI cJ cZ cS) [(a_this, .inr (9, [.ref a_script, .ref a_acts, .ref a_sightings, .ref a_now, .ref a_trial, .ref a_slots, .ref a_levels, .ref a_table, .ref a_waves, .ref a_spans, .ref a_net, .ref a_draft, .long i_this_lastDraw])), (a_net, .inr (2, [.int i_net_inputs, .int i_net_gates, .int i_net_paths, .ref a_net_told, .ref a_net_lefts, .ref a_net_rights, .ref a_net_nexts, .ref a_net_starts, .ref a_net_sizes, .ref a_net_steps, .ref a_net_links])), (a_now, .inr (5, [.ref a_now_kinds, .ref a_now_delays, .int i_now_held])), (a_trial, .inr (5, [.ref a_trial_kinds, .ref a_trial_delays, .int i_trial_held])), (a_waves, .inr (8, [.ref a_waves_before, .ref a_waves_after, .ref a_waves_low, .ref a_waves_high])), (a_now_kinds, .inl (cI, 8, .inl k_now_kinds)), (a_trial_kinds, .inl (cI, 8, .inl k_trial_kinds)), (a_now_delays, .inl (cI, 8, .inl k_now_delays)), (a_trial_delays, .inl (cI, 8, .inl k_trial_delays)), (a_net_lefts, .inl (cI, 8, .inl k_net_lefts)), (a_net_rights, .inl (cI, 8, .inl k_net_rights)), (a_waves_before, .inl (cJ, 18, .inr (.inl k_waves_before))), (a_waves_after, .inl (cJ, 18, .inr (.inl k_waves_after))), (a_waves_low, .inl (cJ, 18, .inr (.inl k_waves_low))), (a_waves_high, .inl (cJ, 18, .inr (.inl k_waves_high)))] sz [.ref a_this, .int y1, .int y2, .int y3, .int y4] rr [(a_this, .inr (9, [.ref a_script, .ref a_acts, .ref a_sightings, .ref a_now, .ref a_trial, .ref a_slots, .ref a_levels, .ref a_table, .ref a_waves, .ref a_spans, .ref a_net, .ref a_draft, .long i_this_lastDraw])), (a_net, .inr (2, [.int i_net_inputs, .int i_net_gates, .int i_net_paths, .ref a_net_told, .ref a_net_lefts, .ref a_net_rights, .ref a_net_nexts, .ref a_net_starts, .ref a_net_sizes, .ref a_net_steps, .ref a_net_links])), (a_now, .inr (5, [.ref a_now_kinds, .ref a_now_delays, .int i_now_held])), (a_trial, .inr (5, [.ref a_trial_kinds, .ref a_trial_delays, .int i_trial_held])), (a_waves, .inr (8, [.ref a_waves_before, .ref a_waves_after, .ref a_waves_low, .ref a_waves_high])), (a_now_kinds, .inl (cI, 8, .inl k_now_kinds)), (a_trial_kinds, .inl (cI, 8, .inl o_trial_kinds)), (a_now_delays, .inl (cI, 8, .inl k_now_delays)), (a_trial_delays, .inl (cI, 8, .inl o_trial_delays)), (a_net_lefts, .inl (cI, 8, .inl k_net_lefts)), (a_net_rights, .inl (cI, 8, .inl k_net_rights)), (a_waves_before, .inl (cJ, 18, .inr (.inl o_waves_before))), (a_waves_after, .inl (cJ, 18, .inr (.inl o_waves_after))), (a_waves_low, .inl (cJ, 18, .inr (.inl o_waves_low))), (a_waves_high, .inl (cJ, 18, .inr (.inl o_waves_high)))] := by
  refine entI (cc := cX9_slows) (maxL := 9) (own := RX9) (by decide) rfl rfl (Nat.le_of_ble_eq_true rfl) ?_
  intro p e s m args below meth c A ls Q H locs S hr hw hl hQ
  have hx := S.1.1
  have hb := S.1.2.1
  have hts := S.1.2.2.2.2
  have hl : lv_has ls 9 [(0, .ref a_this), (1, .int y1), (2, .int y2), (3, .int y3), (4, .int y4)] := hl
  have hinX9 : ∀ w ∈ u_ws RX9 TX9 13, w ∈ wsX9_slows := (fun _ h => List.mem_cons_of_mem _ (List.mem_append_left _ (List.mem_append_left _ (List.mem_append_left _ (List.mem_append_right _ h)))))
  have F33 : FLk s args wsX9_slows RX9 33 RX9 TX9 13 9 3 := ⟨hinX9, rfl, by decide, hts (.fieldLink RX9 33 "SlowPaths" "now" "LSlowPaths$Setting;") (List.mem_of_getElem? (i := 4) rfl)⟩
  have F37 : FLk s args wsX9_slows RX9 37 RX9 TX9 13 9 4 := ⟨hinX9, rfl, by decide, hts (.fieldLink RX9 37 "SlowPaths" "trial" "LSlowPaths$Setting;") (List.mem_of_getElem? (i := 3) rfl)⟩
  have F61 : FLk s args wsX9_slows RX9 61 RX9 TX9 13 9 8 := ⟨hinX9, rfl, by decide, hts (.fieldLink RX9 61 "SlowPaths" "waves" "LSlowPaths$Waves;") (List.mem_of_getElem? (i := 5) rfl)⟩
  have F75 : FLk s args wsX9_slows RX9 75 RX9 TX9 13 9 10 := ⟨hinX9, rfl, by decide, hts (.fieldLink RX9 75 "SlowPaths" "net" "LSlowPaths$Net;") (List.mem_of_getElem? (i := 1) rfl)⟩
  have hinX5 : ∀ w ∈ u_ws RX5 TX5 3, w ∈ wsX9_slows := (fun _ h => List.mem_cons_of_mem _ (List.mem_append_left _ (List.mem_append_right _ h)))
  have F120 : FLk s args wsX9_slows RX9 120 RX5 TX5 3 5 0 := ⟨hinX5, rfl, by decide, hts (.fieldLink RX9 120 "SlowPaths$Setting" "kinds" "[I") (List.mem_of_getElem? (i := 6) rfl)⟩
  have F129 : FLk s args wsX9_slows RX9 129 RX5 TX5 3 5 1 := ⟨hinX5, rfl, by decide, hts (.fieldLink RX9 129 "SlowPaths$Setting" "delays" "[I") (List.mem_of_getElem? (i := 7) rfl)⟩
  have hinX2 : ∀ w ∈ u_ws RX2 TX2 11, w ∈ wsX9_slows := (fun _ h => List.mem_cons_of_mem _ (List.mem_append_left _ (List.mem_append_left _ (List.mem_append_right _ h))))
  have F197 : FLk s args wsX9_slows RX9 197 RX2 TX2 11 2 1 := ⟨hinX2, rfl, by decide, hts (.fieldLink RX9 197 "SlowPaths$Net" "gates" "I") (List.mem_of_getElem? (i := 2) rfl)⟩
  have h := hf
  rw [f_X9_slows] at h
  refine lv_aload_n hx hb dX9_slows_0 rfl (lv_at hl 0 rfl) ?_
  refine z_get S hw F75 0 rfl rfl dX9_slows_1 ?_
  refine lv_iload_n hx hb dX9_slows_4 rfl (lv_at hl 1 rfl) ?_
  obtain ⟨r_1, e5_1, h⟩ := obd1_el h
  refine zr_VI (As := [.int y1]) (rest := []) (q0 := 0) S hw (c_X2_hasPair l D cI cJ cZ cS H.size N a_net a_net_told a_net_lefts a_net_rights a_net_nexts a_net_starts a_net_sizes a_net_steps a_net_links i_net_inputs i_net_gates i_net_paths y1 r_1 e5_1) (cwV 1 hts gX9_slows_X2_hasPair rfl rfl rfl dv_X2_hasPair ⟨Nat.le_of_ble_eq_true rfl, Nat.le_of_ble_eq_true rfl⟩) [1] rfl rfl rfl rfl rfl rfl hl.1 rfl (Nat.le_of_ble_eq_true rfl) dX9_slows_5 ⟨Nat.zero_le _, Nat.zero_le _⟩ ?_
  refine lv_if_eq (tgt := 31) hx hb dX9_slows_8 (by decide) (fun hc => ?_) (fun hc => ?_)
  · replace h := if_t hc h
    refine lv_bipush (v := (-2 : Int32)) hx hb dX9_slows_31 (by decide) ?_
    cases h
    exact z_iret S hQ hr hw [0, 1, 2, 3, 4, 5, 6, 7, 8, 9, 10, 11, 12, 13, 14] rfl rfl dX9_slows_33
  · replace h := if_f hc h
    refine lv_iload_n hx hb dX9_slows_11 rfl (lv_at hl 2 rfl) ?_
    refine lv_if_lt (tgt := 31) hx hb dX9_slows_12 (by decide) (fun hc => ?_) (fun hc => ?_)
    · replace h := if_t hc h
      refine lv_bipush (v := (-2 : Int32)) hx hb dX9_slows_31 (by decide) ?_
      cases h
      exact z_iret S hQ hr hw [0, 1, 2, 3, 4, 5, 6, 7, 8, 9, 10, 11, 12, 13, 14] rfl rfl dX9_slows_33
    · replace h := if_f hc h
      refine lv_iload_n hx hb dX9_slows_15 rfl (lv_at hl 2 rfl) ?_
      refine lv_bipush (v := (99 : Int32)) hx hb dX9_slows_16 (by decide) ?_
      refine lv_icmp_gt (tgt := 31) hx hb dX9_slows_18 (by decide) (fun hc => ?_) (fun hc => ?_)
      · replace h := if_t hc h
        refine lv_bipush (v := (-2 : Int32)) hx hb dX9_slows_31 (by decide) ?_
        cases h
        exact z_iret S hQ hr hw [0, 1, 2, 3, 4, 5, 6, 7, 8, 9, 10, 11, 12, 13, 14] rfl rfl dX9_slows_33
      · replace h := if_f hc h
        refine lv_iload_n hx hb dX9_slows_21 rfl (lv_at hl 3 rfl) ?_
        refine lv_if_lt (tgt := 31) hx hb dX9_slows_22 (by decide) (fun hc => ?_) (fun hc => ?_)
        · replace h := if_t hc h
          refine lv_bipush (v := (-2 : Int32)) hx hb dX9_slows_31 (by decide) ?_
          cases h
          exact z_iret S hQ hr hw [0, 1, 2, 3, 4, 5, 6, 7, 8, 9, 10, 11, 12, 13, 14] rfl rfl dX9_slows_33
        · replace h := if_f hc h
          refine lv_iload_n hx hb dX9_slows_25 rfl (lv_at hl 3 rfl) ?_
          refine lv_bipush (v := (10 : Int32)) hx hb dX9_slows_26 (by decide) ?_
          refine lv_icmp_le (tgt := 34) hx hb dX9_slows_28 (by decide) (fun hc => ?_) (fun hc => ?_)
          · replace h := if_t hc h
            refine lv_aload_n hx hb dX9_slows_34 rfl (lv_at hl 0 rfl) ?_
            refine z_get S hw F75 0 rfl rfl dX9_slows_35 ?_
            refine z_get S hw F197 1 rfl rfl dX9_slows_38 ?_
            refine lv_if_ne (tgt := 47) hx hb dX9_slows_41 (by decide) (fun hc => ?_) (fun hc => ?_)
            · replace h := if_f hc h
              refine lv_aload_n hx hb dX9_slows_47 rfl (lv_at hl 0 rfl) ?_
              refine z_get S hw F37 0 rfl rfl dX9_slows_48 ?_
              refine lv_aload_n hx hb dX9_slows_51 rfl (lv_at hl 0 rfl) ?_
              refine z_get S hw F33 0 rfl rfl dX9_slows_52 ?_
              obtain ⟨k_trial_kinds_2, k_trial_delays_3, e55_1, h⟩ := obd2_el h
              refine zc_VV (As := [.ref a_now]) (rest := []) (wr := [(a_this, .inr (9, [.ref a_script, .ref a_acts, .ref a_sightings, .ref a_now, .ref a_trial, .ref a_slots, .ref a_levels, .ref a_table, .ref a_waves, .ref a_spans, .ref a_net, .ref a_draft, .long i_this_lastDraw])), (a_net, .inr (2, [.int i_net_inputs, .int i_net_gates, .int i_net_paths, .ref a_net_told, .ref a_net_lefts, .ref a_net_rights, .ref a_net_nexts, .ref a_net_starts, .ref a_net_sizes, .ref a_net_steps, .ref a_net_links])), (a_waves, .inr (8, [.ref a_waves_before, .ref a_waves_after, .ref a_waves_low, .ref a_waves_high])), (a_net_lefts, .inl (cI, 8, .inl k_net_lefts)), (a_net_rights, .inl (cI, 8, .inl k_net_rights)), (a_waves_before, .inl (cJ, 18, .inr (.inl k_waves_before))), (a_waves_after, .inl (cJ, 18, .inr (.inl k_waves_after))), (a_waves_low, .inl (cJ, 18, .inr (.inl k_waves_low))), (a_waves_high, .inl (cJ, 18, .inr (.inl k_waves_high)))]) (q0 := 0) S hw (c_X5_copyFrom l D cI cJ cZ cS H.size N a_trial a_now a_now_kinds a_trial_kinds a_now_delays a_trial_delays i_trial_held i_now_held k_now_kinds k_trial_kinds k_now_delays k_trial_delays k_trial_kinds_2 k_trial_delays_3 e55_1) (cwV 1 hts gX9_slows_X5_copyFrom rfl rfl rfl dv_X5_copyFrom ⟨Nat.le_of_ble_eq_true rfl, Nat.le_of_ble_eq_true rfl⟩) [3, 2, 5, 6, 7, 8] [0, 1, 4, 9, 10, 11, 12, 13, 14] rfl rfl rfl rfl (by decide) rfl rfl rfl rfl hl.1 rfl (Nat.le_of_ble_eq_true rfl) dX9_slows_55 ⟨Nat.zero_le _, Nat.zero_le _⟩ (fun H locs hw => ?_)
              refine lv_iconst (v := (0 : Int32)) hx hb dX9_slows_58 (by decide) ?_
              refine lv_istore (lv' := [(5, .int (0 : Int32)), (0, .ref a_this), (1, .int y1), (2, .int y2), (3, .int y3), (4, .int y4)]) hx hb dX9_slows_59 hl (by decide) rfl (fun ls hl => ?_)
              refine lv_iconst (v := (1 : Int32)) hx hb dX9_slows_61 (by decide) ?_
              refine lv_aload_n hx hb dX9_slows_62 rfl (lv_at hl 1 rfl) ?_
              refine z_get S hw F75 0 rfl rfl dX9_slows_63 ?_
              refine z_get S hw F197 1 rfl rfl dX9_slows_66 ?_
              refine lv_ishl hx hb dX9_slows_69 ?_
              refine lv_topi (fun x6_4 ex6_4 => ?_)
              replace h := bnd_at ex6_4 h
              refine lv_istore (lv' := [(6, .int x6_4), (5, .int (0 : Int32)), (0, .ref a_this), (1, .int y1), (2, .int y2), (3, .int y3), (4, .int y4)]) hx hb dX9_slows_70 hl (by decide) rfl (fun ls hl => ?_)
              refine lv_iconst (v := (0 : Int32)) hx hb dX9_slows_72 (by decide) ?_
              refine lv_istore (lv' := [(7, .int (0 : Int32)), (6, .int x6_4), (5, .int (0 : Int32)), (0, .ref a_this), (1, .int y1), (2, .int y2), (3, .int y3), (4, .int y4)]) hx hb dX9_slows_73 hl (by decide) rfl (fun ls hl => ?_)
              obtain ⟨j160_1, ej160_1, h⟩ := bnd_ex h
              have hj160_1 : ∀ (x5_5 : Int32) (k_trial_delays_6 : (Nat → Int32)) (k_waves_before_7 : (Nat → Int64)) (k_waves_after_8 : (Nat → Int64)) (k_waves_low_9 : (Nat → Int64)) (k_waves_high_10 : (Nat → Int64)) (H : Heap) (locs : List Loc) (ls : Array Slot), j160_1 x5_5 k_trial_delays_6 k_waves_before_7 k_waves_after_8 k_waves_low_9 k_waves_high_10 = some (rr, o_trial_kinds, o_trial_delays, o_waves_before, o_waves_after, o_waves_low, o_waves_high) → Wd D (tyA cI cJ cZ cS) A s [(a_this, .inr (9, [.ref a_script, .ref a_acts, .ref a_sightings, .ref a_now, .ref a_trial, .ref a_slots, .ref a_levels, .ref a_table, .ref a_waves, .ref a_spans, .ref a_net, .ref a_draft, .long i_this_lastDraw])), (a_net, .inr (2, [.int i_net_inputs, .int i_net_gates, .int i_net_paths, .ref a_net_told, .ref a_net_lefts, .ref a_net_rights, .ref a_net_nexts, .ref a_net_starts, .ref a_net_sizes, .ref a_net_steps, .ref a_net_links])), (a_now, .inr (5, [.ref a_now_kinds, .ref a_now_delays, .int i_now_held])), (a_trial, .inr (5, [.ref a_trial_kinds, .ref a_trial_delays, .int i_trial_held])), (a_waves, .inr (8, [.ref a_waves_before, .ref a_waves_after, .ref a_waves_low, .ref a_waves_high])), (a_now_kinds, .inl (cI, 8, .inl k_now_kinds)), (a_trial_kinds, .inl (cI, 8, .inl k_trial_kinds_2)), (a_now_delays, .inl (cI, 8, .inl k_now_delays)), (a_trial_delays, .inl (cI, 8, .inl k_trial_delays_6)), (a_net_lefts, .inl (cI, 8, .inl k_net_lefts)), (a_net_rights, .inl (cI, 8, .inl k_net_rights)), (a_waves_before, .inl (cJ, 18, .inr (.inl k_waves_before_7))), (a_waves_after, .inl (cJ, 18, .inr (.inl k_waves_after_8))), (a_waves_low, .inl (cJ, 18, .inr (.inl k_waves_low_9))), (a_waves_high, .inl (cJ, 18, .inr (.inl k_waves_high_10)))] H locs → lv_has ls 9 [(0, .ref a_this), (4, .int y4), (5, .int x5_5)] → W p l e rmX9_slows s m args below meth c H locs 0 0 Q (F0 m 160 ls []) := by
                intro x5_5 k_trial_delays_6 k_waves_before_7 k_waves_after_8 k_waves_low_9 k_waves_high_10 H locs ls h hw hl
                replace h := ap6 ej160_1 h
                refine lv_iconst (v := (1 : Int32)) hx hb dX9_slows_160 (by decide) ?_
                refine lv_istore (lv' := [(7, .int (1 : Int32)), (0, .ref a_this), (4, .int y4), (5, .int x5_5)]) hx hb dX9_slows_161 hl (by decide) rfl (fun ls hl => ?_)
                refine lv_iconst (v := (0 : Int32)) hx hb dX9_slows_163 (by decide) ?_
                refine lv_istore (lv' := [(8, .int (0 : Int32)), (7, .int (1 : Int32)), (0, .ref a_this), (4, .int y4), (5, .int x5_5)]) hx hb dX9_slows_164 hl (by decide) rfl (fun ls hl => ?_)
                obtain ⟨j191_1, ej191_1, h⟩ := bnd_ex h
                have hj191_1 : ∀ (x7_11 : Int32) (H : Heap) (locs : List Loc) (ls : Array Slot), j191_1 x7_11 = some (rr, o_trial_kinds, o_trial_delays, o_waves_before, o_waves_after, o_waves_low, o_waves_high) → Wd D (tyA cI cJ cZ cS) A s [(a_this, .inr (9, [.ref a_script, .ref a_acts, .ref a_sightings, .ref a_now, .ref a_trial, .ref a_slots, .ref a_levels, .ref a_table, .ref a_waves, .ref a_spans, .ref a_net, .ref a_draft, .long i_this_lastDraw])), (a_net, .inr (2, [.int i_net_inputs, .int i_net_gates, .int i_net_paths, .ref a_net_told, .ref a_net_lefts, .ref a_net_rights, .ref a_net_nexts, .ref a_net_starts, .ref a_net_sizes, .ref a_net_steps, .ref a_net_links])), (a_now, .inr (5, [.ref a_now_kinds, .ref a_now_delays, .int i_now_held])), (a_trial, .inr (5, [.ref a_trial_kinds, .ref a_trial_delays, .int i_trial_held])), (a_waves, .inr (8, [.ref a_waves_before, .ref a_waves_after, .ref a_waves_low, .ref a_waves_high])), (a_now_kinds, .inl (cI, 8, .inl k_now_kinds)), (a_trial_kinds, .inl (cI, 8, .inl k_trial_kinds_2)), (a_now_delays, .inl (cI, 8, .inl k_now_delays)), (a_trial_delays, .inl (cI, 8, .inl k_trial_delays_6)), (a_net_lefts, .inl (cI, 8, .inl k_net_lefts)), (a_net_rights, .inl (cI, 8, .inl k_net_rights)), (a_waves_before, .inl (cJ, 18, .inr (.inl k_waves_before_7))), (a_waves_after, .inl (cJ, 18, .inr (.inl k_waves_after_8))), (a_waves_low, .inl (cJ, 18, .inr (.inl k_waves_low_9))), (a_waves_high, .inl (cJ, 18, .inr (.inl k_waves_high_10)))] H locs → lv_has ls 9 [(4, .int y4), (5, .int x5_5), (7, .int x7_11)] → W p l e rmX9_slows s m args below meth c H locs 0 0 Q (F0 m 191 ls []) := by
                  intro x7_11 H locs ls h hw hl
                  replace h := ap1 ej191_1 h
                  refine lv_iload hx hb dX9_slows_191 (lv_at hl 1 rfl) ?_
                  refine lv_iload hx hb dX9_slows_193 (lv_at hl 2 rfl) ?_
                  refine lv_iload hx hb dX9_slows_195 (lv_at hl 0 rfl) ?_
                  obtain ⟨r_12, e197_1, h⟩ := obd1_el h
                  refine zr_SI (As := [.int x5_5, .int x7_11, .int y4]) (rest := []) (q0 := 0) (ci := 0) (fs := []) (qc := (RX0, TX0, 4)) S hw (c_X9_fraction l D cI cJ cZ cS H.size N x5_5 x7_11 y4 r_12 e197_1) (va_cwS 3 hts gX9_slows_X9_fraction rfl rfl rfl ds_X9_fraction ⟨Nat.le_of_ble_eq_true rfl, Nat.le_of_ble_eq_true rfl⟩) [] rfl rfl rfl hl.1 rfl (Nat.le_of_ble_eq_true rfl) dX9_slows_197 ⟨Nat.zero_le _, Nat.zero_le _⟩ ?_
                  cases h
                  exact z_iret S hQ hr hw [0, 1, 2, 3, 4, 5, 6, 7, 8, 9, 10, 11, 12, 13, 14] rfl rfl dX9_slows_200
                have hL166_1 : ∀ (nf : Nat) (x7_13 : Int32) (x8_14 : Int32) (H : Heap) (locs : List Loc) (ls : Array Slot), f_X9_slows_L166 N i_net_gates j191_1 nf x7_13 x8_14 = some (rr, o_trial_kinds, o_trial_delays, o_waves_before, o_waves_after, o_waves_low, o_waves_high) → Wd D (tyA cI cJ cZ cS) A s [(a_this, .inr (9, [.ref a_script, .ref a_acts, .ref a_sightings, .ref a_now, .ref a_trial, .ref a_slots, .ref a_levels, .ref a_table, .ref a_waves, .ref a_spans, .ref a_net, .ref a_draft, .long i_this_lastDraw])), (a_net, .inr (2, [.int i_net_inputs, .int i_net_gates, .int i_net_paths, .ref a_net_told, .ref a_net_lefts, .ref a_net_rights, .ref a_net_nexts, .ref a_net_starts, .ref a_net_sizes, .ref a_net_steps, .ref a_net_links])), (a_now, .inr (5, [.ref a_now_kinds, .ref a_now_delays, .int i_now_held])), (a_trial, .inr (5, [.ref a_trial_kinds, .ref a_trial_delays, .int i_trial_held])), (a_waves, .inr (8, [.ref a_waves_before, .ref a_waves_after, .ref a_waves_low, .ref a_waves_high])), (a_now_kinds, .inl (cI, 8, .inl k_now_kinds)), (a_trial_kinds, .inl (cI, 8, .inl k_trial_kinds_2)), (a_now_delays, .inl (cI, 8, .inl k_now_delays)), (a_trial_delays, .inl (cI, 8, .inl k_trial_delays_6)), (a_net_lefts, .inl (cI, 8, .inl k_net_lefts)), (a_net_rights, .inl (cI, 8, .inl k_net_rights)), (a_waves_before, .inl (cJ, 18, .inr (.inl k_waves_before_7))), (a_waves_after, .inl (cJ, 18, .inr (.inl k_waves_after_8))), (a_waves_low, .inl (cJ, 18, .inr (.inl k_waves_low_9))), (a_waves_high, .inl (cJ, 18, .inr (.inl k_waves_high_10)))] H locs → lv_has ls 9 [(0, .ref a_this), (4, .int y4), (5, .int x5_5), (7, .int x7_13), (8, .int x8_14)] → W p l e rmX9_slows s m args below meth c H locs 0 0 Q (F0 m 166 ls []) := by
                  intro nf
                  induction nf with
                  | zero =>
                    intro x7_13 x8_14 H locs ls h
                    rw [f_X9_slows_L166] at h
                    cases h
                  | succ n_166 ih_166 =>
                    intro x7_13 x8_14 H locs ls h hw hl
                    rw [f_X9_slows_L166] at h
                    refine lv_iload hx hb dX9_slows_166 (lv_at hl 4 rfl) ?_
                    refine lv_aload_n hx hb dX9_slows_168 rfl (lv_at hl 0 rfl) ?_
                    refine z_get S hw F75 0 rfl rfl dX9_slows_169 ?_
                    refine z_get S hw F197 1 rfl rfl dX9_slows_172 ?_
                    refine lv_icmp_ge (tgt := 191) hx hb dX9_slows_175 (by decide) (fun hc => ?_) (fun hc => ?_)
                    · replace h := if_t hc h
                      exact hj191_1 x7_13 H locs ls h hw (lv_sub hl [1, 2, 3] rfl)
                    · replace h := if_f hc h
                      refine lv_iload hx hb dX9_slows_178 (lv_at hl 3 rfl) ?_
                      refine lv_bipush (v := (10 : Int32)) hx hb dX9_slows_180 (by decide) ?_
                      refine lv_imul hx hb dX9_slows_182 ?_
                      refine lv_topi (fun x7_15 ex7_15 => ?_)
                      replace h := bnd_at ex7_15 h
                      refine lv_istore (lv' := [(7, .int x7_15), (0, .ref a_this), (4, .int y4), (5, .int x5_5), (8, .int x8_14)]) hx hb dX9_slows_183 hl (by decide) rfl (fun ls hl => ?_)
                      obtain ⟨x8_16, ex8_16, h⟩ := bnd_ex h
                      refine lv_iinc (v := x8_16) (lv' := [(8, .int x8_16), (7, .int x7_15), (0, .ref a_this), (4, .int y4), (5, .int x5_5)]) hx hb dX9_slows_185 hl (k := 4) rfl (by rw [ex8_16]; rfl) (by decide) rfl (fun ls hl => ?_)
                      refine lv_goto (tgt := 166) hx hb dX9_slows_188 (by decide) ?_
                      exact ih_166 x7_15 x8_16 H locs ls h hw (lv_sub hl [2, 3, 4, 1, 0] rfl)
                exact hL166_1 N ((1 : Int32)) ((0 : Int32)) H locs ls h hw (lv_sub hl [2, 3, 4, 1, 0] rfl)
              have hL75_1 : ∀ (nf : Nat) (x5_17 : Int32) (x7_18 : Int32) (k_trial_delays_19 : (Nat → Int32)) (k_waves_before_20 : (Nat → Int64)) (k_waves_after_21 : (Nat → Int64)) (k_waves_low_22 : (Nat → Int64)) (k_waves_high_23 : (Nat → Int64)) (H : Heap) (locs : List Loc) (ls : Array Slot), f_X9_slows_L75 N y1 y2 y3 i_net_inputs i_net_gates k_now_delays k_net_lefts k_net_rights k_trial_kinds_2 x6_4 j160_1 nf x5_17 x7_18 k_trial_delays_19 k_waves_before_20 k_waves_after_21 k_waves_low_22 k_waves_high_23 = some (rr, o_trial_kinds, o_trial_delays, o_waves_before, o_waves_after, o_waves_low, o_waves_high) → Wd D (tyA cI cJ cZ cS) A s [(a_this, .inr (9, [.ref a_script, .ref a_acts, .ref a_sightings, .ref a_now, .ref a_trial, .ref a_slots, .ref a_levels, .ref a_table, .ref a_waves, .ref a_spans, .ref a_net, .ref a_draft, .long i_this_lastDraw])), (a_net, .inr (2, [.int i_net_inputs, .int i_net_gates, .int i_net_paths, .ref a_net_told, .ref a_net_lefts, .ref a_net_rights, .ref a_net_nexts, .ref a_net_starts, .ref a_net_sizes, .ref a_net_steps, .ref a_net_links])), (a_now, .inr (5, [.ref a_now_kinds, .ref a_now_delays, .int i_now_held])), (a_trial, .inr (5, [.ref a_trial_kinds, .ref a_trial_delays, .int i_trial_held])), (a_waves, .inr (8, [.ref a_waves_before, .ref a_waves_after, .ref a_waves_low, .ref a_waves_high])), (a_now_kinds, .inl (cI, 8, .inl k_now_kinds)), (a_trial_kinds, .inl (cI, 8, .inl k_trial_kinds_2)), (a_now_delays, .inl (cI, 8, .inl k_now_delays)), (a_trial_delays, .inl (cI, 8, .inl k_trial_delays_19)), (a_net_lefts, .inl (cI, 8, .inl k_net_lefts)), (a_net_rights, .inl (cI, 8, .inl k_net_rights)), (a_waves_before, .inl (cJ, 18, .inr (.inl k_waves_before_20))), (a_waves_after, .inl (cJ, 18, .inr (.inl k_waves_after_21))), (a_waves_low, .inl (cJ, 18, .inr (.inl k_waves_low_22))), (a_waves_high, .inl (cJ, 18, .inr (.inl k_waves_high_23)))] H locs → lv_has ls 9 [(0, .ref a_this), (1, .int y1), (2, .int y2), (3, .int y3), (4, .int y4), (5, .int x5_17), (6, .int x6_4), (7, .int x7_18)] → W p l e rmX9_slows s m args below meth c H locs 0 0 Q (F0 m 75 ls []) := by
                intro nf
                induction nf with
                | zero =>
                  intro x5_17 x7_18 k_trial_delays_19 k_waves_before_20 k_waves_after_21 k_waves_low_22 k_waves_high_23 H locs ls h
                  rw [f_X9_slows_L75] at h
                  cases h
                | succ n_75 ih_75 =>
                  intro x5_17 x7_18 k_trial_delays_19 k_waves_before_20 k_waves_after_21 k_waves_low_22 k_waves_high_23 H locs ls h hw hl
                  rw [f_X9_slows_L75] at h
                  refine lv_iload hx hb dX9_slows_75 (lv_at hl 7 rfl) ?_
                  refine lv_iload hx hb dX9_slows_77 (lv_at hl 6 rfl) ?_
                  refine lv_icmp_ge (tgt := 160) hx hb dX9_slows_79 (by decide) (fun hc => ?_) (fun hc => ?_)
                  · replace h := if_t hc h
                    exact hj160_1 x5_17 k_trial_delays_19 k_waves_before_20 k_waves_after_21 k_waves_low_22 k_waves_high_23 H locs ls h hw (lv_sub hl [0, 4, 5] rfl)
                  · replace h := if_f hc h
                    refine lv_aload_n hx hb dX9_slows_82 rfl (lv_at hl 0 rfl) ?_
                    refine lv_iload hx hb dX9_slows_83 (lv_at hl 7 rfl) ?_
                    refine lv_iload_n hx hb dX9_slows_85 rfl (lv_at hl 3 rfl) ?_
                    obtain ⟨r_24, e86_1, h⟩ := obd1_el h
                    refine zr_VI (As := [.int x7_18, .int y3]) (rest := []) (q0 := 0) S hw (c_X9_chanceOf l D cI cJ cZ cS H.size N a_this a_net a_script a_acts a_sightings a_now a_trial a_slots a_levels a_table a_waves a_spans a_draft a_net_told a_net_lefts a_net_rights a_net_nexts a_net_starts a_net_sizes a_net_steps a_net_links i_this_lastDraw i_net_inputs i_net_gates i_net_paths x7_18 y3 r_24 e86_1) (cwV 2 hts gX9_slows_X9_chanceOf rfl rfl rfl dv_X9_chanceOf ⟨Nat.le_of_ble_eq_true rfl, Nat.le_of_ble_eq_true rfl⟩) [0, 1] rfl rfl rfl rfl rfl rfl hl.1 rfl (Nat.le_of_ble_eq_true rfl) dX9_slows_86 ⟨Nat.zero_le _, Nat.zero_le _⟩ ?_
                    refine lv_istore (lv' := [(8, .int r_24), (0, .ref a_this), (1, .int y1), (2, .int y2), (3, .int y3), (4, .int y4), (5, .int x5_17), (6, .int x6_4), (7, .int x7_18)]) hx hb dX9_slows_89 hl (by decide) rfl (fun ls hl => ?_)
                    refine lv_iload hx hb dX9_slows_91 (lv_at hl 0 rfl) ?_
                    obtain ⟨j154_1, ej154_1, h⟩ := bnd_ex h
                    have hj154_1 : ∀ (x5_25 : Int32) (k_trial_delays_26 : (Nat → Int32)) (k_waves_before_27 : (Nat → Int64)) (k_waves_after_28 : (Nat → Int64)) (k_waves_low_29 : (Nat → Int64)) (k_waves_high_30 : (Nat → Int64)) (H : Heap) (locs : List Loc) (ls : Array Slot), j154_1 x5_25 k_trial_delays_26 k_waves_before_27 k_waves_after_28 k_waves_low_29 k_waves_high_30 = some (rr, o_trial_kinds, o_trial_delays, o_waves_before, o_waves_after, o_waves_low, o_waves_high) → Wd D (tyA cI cJ cZ cS) A s [(a_this, .inr (9, [.ref a_script, .ref a_acts, .ref a_sightings, .ref a_now, .ref a_trial, .ref a_slots, .ref a_levels, .ref a_table, .ref a_waves, .ref a_spans, .ref a_net, .ref a_draft, .long i_this_lastDraw])), (a_net, .inr (2, [.int i_net_inputs, .int i_net_gates, .int i_net_paths, .ref a_net_told, .ref a_net_lefts, .ref a_net_rights, .ref a_net_nexts, .ref a_net_starts, .ref a_net_sizes, .ref a_net_steps, .ref a_net_links])), (a_now, .inr (5, [.ref a_now_kinds, .ref a_now_delays, .int i_now_held])), (a_trial, .inr (5, [.ref a_trial_kinds, .ref a_trial_delays, .int i_trial_held])), (a_waves, .inr (8, [.ref a_waves_before, .ref a_waves_after, .ref a_waves_low, .ref a_waves_high])), (a_now_kinds, .inl (cI, 8, .inl k_now_kinds)), (a_trial_kinds, .inl (cI, 8, .inl k_trial_kinds_2)), (a_now_delays, .inl (cI, 8, .inl k_now_delays)), (a_trial_delays, .inl (cI, 8, .inl k_trial_delays_26)), (a_net_lefts, .inl (cI, 8, .inl k_net_lefts)), (a_net_rights, .inl (cI, 8, .inl k_net_rights)), (a_waves_before, .inl (cJ, 18, .inr (.inl k_waves_before_27))), (a_waves_after, .inl (cJ, 18, .inr (.inl k_waves_after_28))), (a_waves_low, .inl (cJ, 18, .inr (.inl k_waves_low_29))), (a_waves_high, .inl (cJ, 18, .inr (.inl k_waves_high_30)))] H locs → lv_has ls 9 [(0, .ref a_this), (1, .int y1), (2, .int y2), (3, .int y3), (4, .int y4), (5, .int x5_25), (6, .int x6_4), (7, .int x7_18)] → W p l e rmX9_slows s m args below meth c H locs 0 0 Q (F0 m 154 ls []) := by
                      intro x5_25 k_trial_delays_26 k_waves_before_27 k_waves_after_28 k_waves_low_29 k_waves_high_30 H locs ls h hw hl
                      replace h := ap6 ej154_1 h
                      obtain ⟨x7_31, ex7_31, h⟩ := bnd_ex h
                      refine lv_iinc (v := x7_31) (lv' := [(7, .int x7_31), (0, .ref a_this), (1, .int y1), (2, .int y2), (3, .int y3), (4, .int y4), (5, .int x5_25), (6, .int x6_4)]) hx hb dX9_slows_154 hl (k := 7) rfl (by rw [ex7_31]; rfl) (by decide) rfl (fun ls hl => ?_)
                      refine lv_goto (tgt := 75) hx hb dX9_slows_157 (by decide) ?_
                      exact ih_75 x5_25 x7_31 k_trial_delays_26 k_waves_before_27 k_waves_after_28 k_waves_low_29 k_waves_high_30 H locs ls h hw (lv_sub hl [1, 2, 3, 4, 5, 6, 7, 0] rfl)
                    refine lv_if_le (tgt := 154) hx hb dX9_slows_93 (by decide) (fun hc => ?_) (fun hc => ?_)
                    · replace h := if_t hc h
                      exact hj154_1 x5_17 k_trial_delays_19 k_waves_before_20 k_waves_after_21 k_waves_low_22 k_waves_high_23 H locs ls h hw (lv_sub hl [1, 2, 3, 4, 5, 6, 7, 8] rfl)
                    · replace h := if_f hc h
                      refine lv_aload_n hx hb dX9_slows_96 rfl (lv_at hl 1 rfl) ?_
                      refine lv_iload hx hb dX9_slows_97 (lv_at hl 8 rfl) ?_
                      obtain ⟨k_trial_delays_32, e99_1, h⟩ := obd1_el h
                      refine zc_VV (As := [.int x7_18]) (rest := []) (wr := [(a_waves, .inr (8, [.ref a_waves_before, .ref a_waves_after, .ref a_waves_low, .ref a_waves_high])), (a_now_kinds, .inl (cI, 8, .inl k_now_kinds)), (a_trial_kinds, .inl (cI, 8, .inl k_trial_kinds_2)), (a_net_lefts, .inl (cI, 8, .inl k_net_lefts)), (a_net_rights, .inl (cI, 8, .inl k_net_rights)), (a_waves_before, .inl (cJ, 18, .inr (.inl k_waves_before_20))), (a_waves_after, .inl (cJ, 18, .inr (.inl k_waves_after_21))), (a_waves_low, .inl (cJ, 18, .inr (.inl k_waves_low_22))), (a_waves_high, .inl (cJ, 18, .inr (.inl k_waves_high_23)))]) (q0 := 0) S hw (c_X9_slowTrial l D cI cJ cZ cS H.size N a_this a_net a_trial a_now a_now_delays a_trial_delays a_script a_acts a_sightings a_slots a_levels a_table a_waves a_spans a_draft a_net_told a_net_lefts a_net_rights a_net_nexts a_net_starts a_net_sizes a_net_steps a_net_links a_trial_kinds a_now_kinds i_this_lastDraw i_net_inputs i_net_gates i_net_paths i_trial_held i_now_held k_now_delays k_trial_delays_19 x7_18 k_trial_delays_32 e99_1) (cwV 1 hts gX9_slows_X9_slowTrial rfl rfl rfl dv_X9_slowTrial ⟨Nat.le_of_ble_eq_true rfl, Nat.le_of_ble_eq_true rfl⟩) [0, 1, 3, 2, 7, 8] [4, 5, 6, 9, 10, 11, 12, 13, 14] rfl rfl rfl rfl (by decide) rfl rfl rfl rfl hl.1 rfl (Nat.le_of_ble_eq_true rfl) dX9_slows_99 ⟨Nat.zero_le _, Nat.zero_le _⟩ (fun H locs hw => ?_)
                      refine lv_aload_n hx hb dX9_slows_102 rfl (lv_at hl 1 rfl) ?_
                      refine z_get S hw F61 9 rfl rfl dX9_slows_103 ?_
                      refine lv_aload_n hx hb dX9_slows_106 rfl (lv_at hl 1 rfl) ?_
                      refine z_get S hw F75 9 rfl rfl dX9_slows_107 ?_
                      refine lv_aload_n hx hb dX9_slows_110 rfl (lv_at hl 1 rfl) ?_
                      refine z_get S hw F37 9 rfl rfl dX9_slows_111 ?_
                      refine z_get S hw F120 11 rfl rfl dX9_slows_114 ?_
                      refine lv_aload_n hx hb dX9_slows_117 rfl (lv_at hl 1 rfl) ?_
                      refine z_get S hw F37 9 rfl rfl dX9_slows_118 ?_
                      refine z_get S hw F129 11 rfl rfl dX9_slows_121 ?_
                      refine lv_iload_n hx hb dX9_slows_124 rfl (lv_at hl 2 rfl) ?_
                      obtain ⟨k_waves_before_33, k_waves_after_34, k_waves_low_35, k_waves_high_36, e125_1, h⟩ := obd4_el h
                      refine zc_VV (As := [.ref a_net, .ref a_trial_kinds, .ref a_trial_delays, .int y1]) (rest := []) (wr := [(a_now_kinds, .inl (cI, 8, .inl k_now_kinds)), (a_this, .inr (9, [.ref a_script, .ref a_acts, .ref a_sightings, .ref a_now, .ref a_trial, .ref a_slots, .ref a_levels, .ref a_table, .ref a_waves, .ref a_spans, .ref a_net, .ref a_draft, .long i_this_lastDraw])), (a_trial, .inr (5, [.ref a_trial_kinds, .ref a_trial_delays, .int i_trial_held])), (a_now, .inr (5, [.ref a_now_kinds, .ref a_now_delays, .int i_now_held])), (a_now_delays, .inl (cI, 8, .inl k_now_delays))]) (q0 := 3) S hw (c_X8_run l D cI cJ cZ cS H.size N a_net a_trial_kinds a_trial_delays a_waves a_net_lefts a_net_rights a_waves_before a_waves_after a_waves_low a_waves_high a_net_told a_net_nexts a_net_starts a_net_sizes a_net_steps a_net_links i_net_inputs i_net_gates i_net_paths k_trial_kinds_2 k_trial_delays_32 k_net_lefts k_net_rights k_waves_before_20 k_waves_after_21 k_waves_low_22 k_waves_high_23 y1 k_waves_before_33 k_waves_after_34 k_waves_low_35 k_waves_high_36 e125_1) (cwV 4 hts gX9_slows_X8_run rfl rfl rfl dv_X8_run ⟨Nat.le_of_ble_eq_true rfl, Nat.le_of_ble_eq_true rfl⟩) [10, 2, 14, 0, 3, 4, 5, 6, 7, 8] [1, 9, 11, 12, 13] rfl rfl rfl rfl (by decide) rfl rfl rfl rfl hl.1 rfl (Nat.le_of_ble_eq_true rfl) dX9_slows_125 ⟨Nat.zero_le _, Nat.zero_le _⟩ (fun H locs hw => ?_)
                      refine lv_iload hx hb dX9_slows_128 (lv_at hl 6 rfl) ?_
                      refine lv_aload_n hx hb dX9_slows_130 rfl (lv_at hl 1 rfl) ?_
                      refine z_get S hw F61 1 rfl rfl dX9_slows_131 ?_
                      refine lv_aload_n hx hb dX9_slows_134 rfl (lv_at hl 1 rfl) ?_
                      refine z_get S hw F75 1 rfl rfl dX9_slows_135 ?_
                      refine lv_iload_n hx hb dX9_slows_138 rfl (lv_at hl 3 rfl) ?_
                      obtain ⟨r_37, e139_1, h⟩ := obd1_el h
                      refine zr_VI (As := [.ref a_net, .int y2]) (rest := [.int x5_17]) (q0 := 1) S hw (c_X8_isLate l D cI cJ cZ cS H.size N a_net a_waves a_waves_high a_waves_low a_waves_after a_net_told a_net_lefts a_net_rights a_net_nexts a_net_starts a_net_sizes a_net_steps a_net_links a_waves_before i_net_inputs i_net_gates i_net_paths k_waves_high_36 k_waves_low_35 k_waves_after_34 y2 r_37 e139_1) (cwV 2 hts gX9_slows_X8_isLate rfl rfl rfl dv_X8_isLate ⟨Nat.le_of_ble_eq_true rfl, Nat.le_of_ble_eq_true rfl⟩) [5, 8, 14, 13, 12] rfl rfl rfl rfl rfl rfl hl.1 rfl (Nat.le_of_ble_eq_true rfl) dX9_slows_139 ⟨Nat.zero_le _, Nat.zero_le _⟩ ?_
                      obtain ⟨j151_1, ej151_1, h⟩ := bnd_ex h
                      have hj151_1 : ∀ (t_38 : Int32) (t_39 : Int32) (H : Heap) (locs : List Loc) (ls : Array Slot), j151_1 t_38 t_39 = some (rr, o_trial_kinds, o_trial_delays, o_waves_before, o_waves_after, o_waves_low, o_waves_high) → Wd D (tyA cI cJ cZ cS) A s [(a_this, .inr (9, [.ref a_script, .ref a_acts, .ref a_sightings, .ref a_now, .ref a_trial, .ref a_slots, .ref a_levels, .ref a_table, .ref a_waves, .ref a_spans, .ref a_net, .ref a_draft, .long i_this_lastDraw])), (a_net, .inr (2, [.int i_net_inputs, .int i_net_gates, .int i_net_paths, .ref a_net_told, .ref a_net_lefts, .ref a_net_rights, .ref a_net_nexts, .ref a_net_starts, .ref a_net_sizes, .ref a_net_steps, .ref a_net_links])), (a_now, .inr (5, [.ref a_now_kinds, .ref a_now_delays, .int i_now_held])), (a_trial, .inr (5, [.ref a_trial_kinds, .ref a_trial_delays, .int i_trial_held])), (a_waves, .inr (8, [.ref a_waves_before, .ref a_waves_after, .ref a_waves_low, .ref a_waves_high])), (a_now_kinds, .inl (cI, 8, .inl k_now_kinds)), (a_trial_kinds, .inl (cI, 8, .inl k_trial_kinds_2)), (a_now_delays, .inl (cI, 8, .inl k_now_delays)), (a_trial_delays, .inl (cI, 8, .inl k_trial_delays_32)), (a_net_lefts, .inl (cI, 8, .inl k_net_lefts)), (a_net_rights, .inl (cI, 8, .inl k_net_rights)), (a_waves_before, .inl (cJ, 18, .inr (.inl k_waves_before_33))), (a_waves_after, .inl (cJ, 18, .inr (.inl k_waves_after_34))), (a_waves_low, .inl (cJ, 18, .inr (.inl k_waves_low_35))), (a_waves_high, .inl (cJ, 18, .inr (.inl k_waves_high_36)))] H locs → lv_has ls 9 [(0, .ref a_this), (1, .int y1), (2, .int y2), (3, .int y3), (4, .int y4), (6, .int x6_4), (7, .int x7_18)] → W p l e rmX9_slows s m args below meth c H locs 0 0 Q (F0 m 151 ls [.int t_38, .int t_39]) := by
                        intro t_38 t_39 H locs ls h hw hl
                        replace h := ap2 ej151_1 h
                        refine lv_iadd hx hb dX9_slows_151 ?_
                        refine lv_topi (fun x5_40 ex5_40 => ?_)
                        replace h := bnd_at ex5_40 h
                        refine lv_istore (lv' := [(5, .int x5_40), (0, .ref a_this), (1, .int y1), (2, .int y2), (3, .int y3), (4, .int y4), (6, .int x6_4), (7, .int x7_18)]) hx hb dX9_slows_152 hl (by decide) rfl (fun ls hl => ?_)
                        exact hj154_1 x5_40 k_trial_delays_32 k_waves_before_33 k_waves_after_34 k_waves_low_35 k_waves_high_36 H locs ls h hw (lv_sub hl [1, 2, 3, 4, 5, 0, 6, 7] rfl)
                      refine lv_if_eq (tgt := 150) hx hb dX9_slows_142 (by decide) (fun hc => ?_) (fun hc => ?_)
                      · replace h := if_t hc h
                        refine lv_iconst (v := (0 : Int32)) hx hb dX9_slows_150 (by decide) ?_
                        exact hj151_1 ((0 : Int32)) x5_17 H locs ls h (hw.sub [1, 5, 3, 2, 8, 0, 6, 4, 7, 9, 10, 11, 12, 13, 14] rfl rfl) (lv_sub hl [1, 2, 3, 4, 5, 7, 8] rfl)
                      · replace h := if_f hc h
                        refine lv_iload hx hb dX9_slows_145 (lv_at hl 0 rfl) ?_
                        refine lv_goto (tgt := 151) hx hb dX9_slows_147 (by decide) ?_
                        exact hj151_1 r_24 x5_17 H locs ls h (hw.sub [1, 5, 3, 2, 8, 0, 6, 4, 7, 9, 10, 11, 12, 13, 14] rfl rfl) (lv_sub hl [1, 2, 3, 4, 5, 7, 8] rfl)
              exact hL75_1 N ((0 : Int32)) ((0 : Int32)) k_trial_delays_3 k_waves_before k_waves_after k_waves_low k_waves_high H locs ls h (hw.sub [0, 1, 10, 9, 2, 11, 12, 13, 14, 3, 4, 5, 6, 7, 8] rfl rfl) (lv_sub hl [3, 4, 5, 6, 7, 2, 1, 0] rfl)
            · replace h := if_t hc h
              refine lv_bipush (v := (-3 : Int32)) hx hb dX9_slows_44 (by decide) ?_
              cases h
              exact z_iret S hQ hr hw [0, 1, 2, 3, 4, 5, 6, 7, 8, 9, 10, 11, 12, 13, 14] rfl rfl dX9_slows_46
          · replace h := if_f hc h
            refine lv_bipush (v := (-2 : Int32)) hx hb dX9_slows_31 (by decide) ?_
            cases h
            exact z_iret S hQ hr hw [0, 1, 2, 3, 4, 5, 6, 7, 8, 9, 10, 11, 12, 13, 14] rfl rfl dX9_slows_33
abbrev rmX9_seed : Room := { frames := 0, cells := 0, slots := 0, locals := 0 }
theorem dv_X9_seed : yX9_seed.cls = RX9 ∧ yX9_seed.cls ≠ "java/lang/invoke/MethodHandle" ∧ yX9_seed.cls ≠ "java/lang/invoke/VarHandle" ∧ (parseMethodDescriptor yX9_seed.desc).map (fun d => d.parameters.length) = some 1 := by decide +kernel
noncomputable def f_X9_seed (N : Nat) (y1 : Int64) (i_this_lastDraw : Int64) : Option (Int64 × Int64) :=
  some (i_this_lastDraw, y1)
set_option maxHeartbeats 4000000 in
set_option maxRecDepth 100000 in
theorem c_X9_seed (l : Launch) (D : va_G) (cI cJ cZ cS : ClassId) (sz N : Nat) (a_this a_script a_acts a_sightings a_now a_trial a_slots a_levels a_table a_waves a_spans a_net a_draft : Nat) (i_this_lastDraw : Int64) (y1 : Int64) (rr : Int64) (o_this_lastDraw : Int64) (hf : f_X9_seed N y1 i_this_lastDraw = some (rr, o_this_lastDraw)) : MetL l yX9_seed wsX9_seed rmX9_seed D (tyA cI cJ cZ cS) [(a_this, .inr (9, [.ref a_script, .ref a_acts, .ref a_sightings, .ref a_now, .ref a_trial, .ref a_slots, .ref a_levels, .ref a_table, .ref a_waves, .ref a_spans, .ref a_net, .ref a_draft, .long i_this_lastDraw]))] sz [.ref a_this, .long y1] rr [(a_this, .inr (9, [.ref a_script, .ref a_acts, .ref a_sightings, .ref a_now, .ref a_trial, .ref a_slots, .ref a_levels, .ref a_table, .ref a_waves, .ref a_spans, .ref a_net, .ref a_draft, .long o_this_lastDraw]))] := by
  refine entL (cc := cX9_seed) (maxL := 5) (own := RX9) (by decide) rfl rfl (Nat.le_of_ble_eq_true rfl) ?_
  intro p e s m args below meth c A ls Q H locs S hr hw hl hQ
  have hx := S.1.1
  have hb := S.1.2.1
  have hts := S.1.2.2.2.2
  have hl : lv_has ls 5 [(0, .ref a_this), (1, .long y1)] := hl
  have hinX9 : ∀ w ∈ u_ws RX9 TX9 13, w ∈ wsX9_seed := (fun _ h => List.mem_cons_of_mem _ (List.mem_append_right _ h))
  have F82 : FLk s args wsX9_seed RX9 82 RX9 TX9 13 9 12 := ⟨hinX9, rfl, by decide, hts (.fieldLink RX9 82 "SlowPaths" "lastDraw" "J") (List.mem_of_getElem? (i := 1) rfl)⟩
  have P82 : PLk TX9 13 12 tyX9 false .long := ⟨tyX9_ok, nmX9, rfl, rfl⟩
  have h := hf
  rw [f_X9_seed] at h
  refine lv_aload_n hx hb dX9_seed_0 rfl (lv_at hl 0 rfl) ?_
  refine z_get S hw F82 0 rfl rfl dX9_seed_1 ?_
  refine lv_lstore_n (lv' := [(3, .long i_this_lastDraw), (0, .ref a_this), (1, .long y1)]) hx hb dX9_seed_4 rfl hl (by decide) rfl (fun ls hl => ?_)
  refine lv_aload_n hx hb dX9_seed_5 rfl (lv_at hl 1 rfl) ?_
  refine lv_lload_n hx hb dX9_seed_6 rfl (lv_at hl 2 rfl) ?_
  refine z_put S hw F82 P82 rfl rfl 0 rfl (Nat.le_of_ble_eq_true rfl) dX9_seed_7 (fun H locs hw => ?_)
  refine lv_lload_n hx hb dX9_seed_10 rfl (lv_at hl 0 rfl) ?_
  cases h
  exact z_lret S hQ hr hw [0] rfl rfl dX9_seed_11
abbrev rmX9_drawn : Room := { frames := 3, cells := 0, slots := 0, locals := 71 }
theorem dv_X9_drawn : yX9_drawn.cls = RX9 ∧ yX9_drawn.cls ≠ "java/lang/invoke/MethodHandle" ∧ yX9_drawn.cls ≠ "java/lang/invoke/VarHandle" ∧ (parseMethodDescriptor yX9_drawn.desc).map (fun d => d.parameters.length) = some 1 := by decide +kernel
noncomputable def f_X9_drawn_L102 (N : Nat) (i_net_paths : Int32) (k_net_starts : (Nat → Int32)) (k_net_links : (Nat → Int32)) (i_levels_links_17 : Int32) (i_levels_sureLinks_18 : Int32) (k_levels_of_19 : (Nat → Int32)) (j136_1 : Int32 → Option (Int32 × Int64 × Int32 × Int32 × (Nat → Int32))) : Nat → Int32 → Int32 → Option (Int32 × Int64 × Int32 × Int32 × (Nat → Int32))
  | 0, _, _ => none
  | n_102 + 1, x2_22, x7_23 =>
    (if i_net_paths ≤ x7_23 then (j136_1 x2_22) else (obd1 (f_X1_howFar N x7_23 i_levels_links_17 i_levels_sureLinks_18 k_net_starts k_levels_of_19 k_net_links) fun (r_24 : Int32) => bnd ((x2_22 + r_24)) fun (x2_25 : Int32) => bnd (x7_23 + (1 : Int32)) fun (x7_26 : Int32) => f_X9_drawn_L102 N i_net_paths k_net_starts k_net_links i_levels_links_17 i_levels_sureLinks_18 k_levels_of_19 j136_1 n_102 x2_25 x7_26))
noncomputable def f_X9_drawn_L18 (N : Nat) (y1 : Int32) (i_net_inputs : Int32) (i_net_gates : Int32) (i_net_paths : Int32) (k_now_kinds : (Nat → Int32)) (k_net_lefts : (Nat → Int32)) (k_net_rights : (Nat → Int32)) (k_net_starts : (Nat → Int32)) (k_net_links : (Nat → Int32)) (j142_1 : Int32 → Int64 → Int32 → Int32 → (Nat → Int32) → Option (Int32 × Int64 × Int32 × Int32 × (Nat → Int32))) : Nat → Int32 → Int32 → Int64 → Int32 → Int32 → (Nat → Int32) → Option (Int32 × Int64 × Int32 × Int32 × (Nat → Int32))
  | 0, _, _, _, _, _, _ => none
  | n_18 + 1, x2_6, x3_7, i_this_lastDraw_8, i_levels_links_9, i_levels_sureLinks_10, k_levels_of_11 =>
    (if y1 ≤ x3_7 then (j142_1 x2_6 i_this_lastDraw_8 i_levels_links_9 i_levels_sureLinks_10 k_levels_of_11) else (bnd (((i_this_lastDraw_8 * (6364136223846793005 : Int64)) + (1442695040888963407 : Int64))) fun (i_lastDraw_12 : Int64) => bnd ((((i_lastDraw_12.toUInt64 >>> ((33 : Int32).toInt64.toUInt64 &&& Int64.toUInt64 63)).toInt64).toInt32)) fun (x4_13 : Int32) => bnd ((x4_13 - x4_13 / (16 : Int32) * (16 : Int32))) fun (x5_14 : Int32) => bnd (((x4_13 / (16 : Int32)) - (x4_13 / (16 : Int32)) / (16 : Int32) * (16 : Int32))) fun (x6_15 : Int32) => obd1 (f_X2_pairWithin N ((x5_14 * (16 : Int32)) + x6_15) i_net_inputs) fun (r_16 : Int32) => obd3 (f_X1_settle N r_16 i_net_inputs i_net_gates i_levels_links_9 i_levels_sureLinks_10 k_now_kinds k_net_lefts k_levels_of_11 k_net_rights) fun (i_levels_links_17 : Int32) (i_levels_sureLinks_18 : Int32) (k_levels_of_19 : (Nat → Int32)) => bnd (fun (x2_20 : Int32) => (bnd (x3_7 + (1 : Int32)) fun (x3_21 : Int32) => f_X9_drawn_L18 N y1 i_net_inputs i_net_gates i_net_paths k_now_kinds k_net_lefts k_net_rights k_net_starts k_net_links j142_1 n_18 x2_20 x3_21 i_lastDraw_12 i_levels_links_17 i_levels_sureLinks_18 k_levels_of_19)) fun (j136_1 : Int32 → Option (Int32 × Int64 × Int32 × Int32 × (Nat → Int32))) => f_X9_drawn_L102 N i_net_paths k_net_starts k_net_links i_levels_links_17 i_levels_sureLinks_18 k_levels_of_19 j136_1 N x2_6 ((0 : Int32))))
noncomputable def f_X9_drawn (N : Nat) (y1 : Int32) (i_this_lastDraw : Int64) (i_net_inputs : Int32) (i_net_gates : Int32) (i_net_paths : Int32) (i_levels_links : Int32) (i_levels_sureLinks : Int32) (k_now_kinds : (Nat → Int32)) (k_net_lefts : (Nat → Int32)) (k_levels_of : (Nat → Int32)) (k_net_rights : (Nat → Int32)) (k_net_starts : (Nat → Int32)) (k_net_links : (Nat → Int32)) : Option (Int32 × Int64 × Int32 × Int32 × (Nat → Int32)) :=
  (if y1 < (1 : Int32) then (some ((-2 : Int32), i_this_lastDraw, i_levels_links, i_levels_sureLinks, k_levels_of)) else ((if y1 ≤ (20 : Int32) then (bnd (fun (x2_1 : Int32) (i_this_lastDraw_2 : Int64) (i_levels_links_3 : Int32) (i_levels_sureLinks_4 : Int32) (k_levels_of_5 : (Nat → Int32)) => (some (x2_1, i_this_lastDraw_2, i_levels_links_3, i_levels_sureLinks_4, k_levels_of_5))) fun (j142_1 : Int32 → Int64 → Int32 → Int32 → (Nat → Int32) → Option (Int32 × Int64 × Int32 × Int32 × (Nat → Int32))) => f_X9_drawn_L18 N y1 i_net_inputs i_net_gates i_net_paths k_now_kinds k_net_lefts k_net_rights k_net_starts k_net_links j142_1 N ((0 : Int32)) ((0 : Int32)) i_this_lastDraw i_levels_links i_levels_sureLinks k_levels_of) else (some ((-2 : Int32), i_this_lastDraw, i_levels_links, i_levels_sureLinks, k_levels_of)))))
set_option maxHeartbeats 4000000 in
set_option maxRecDepth 100000 in
theorem c_X9_drawn (l : Launch) (D : va_G) (cI cJ cZ cS : ClassId) (sz N : Nat) (a_this a_now a_net a_levels a_now_kinds a_net_lefts a_levels_of a_net_rights a_net_starts a_net_links a_script a_acts a_sightings a_trial a_slots a_table a_waves a_spans a_draft a_now_delays a_net_told a_net_nexts a_net_sizes a_net_steps : Nat) (i_this_lastDraw : Int64) (i_now_held : Int32) (i_net_inputs : Int32) (i_net_gates : Int32) (i_net_paths : Int32) (i_levels_links : Int32) (i_levels_sureLinks : Int32) (k_now_kinds : (Nat → Int32)) (k_net_lefts : (Nat → Int32)) (k_levels_of : (Nat → Int32)) (k_net_rights : (Nat → Int32)) (k_net_starts : (Nat → Int32)) (k_net_links : (Nat → Int32)) (y1 : Int32) (rr : Int32) (o_this_lastDraw : Int64) (o_levels_links : Int32) (o_levels_sureLinks : Int32) (o_levels_of : (Nat → Int32)) (hf : f_X9_drawn N y1 i_this_lastDraw i_net_inputs i_net_gates i_net_paths i_levels_links i_levels_sureLinks k_now_kinds k_net_lefts k_levels_of k_net_rights k_net_starts k_net_links = some (rr, o_this_lastDraw, o_levels_links, o_levels_sureLinks, o_levels_of)) : MetI l yX9_drawn wsX9_drawn rmX9_drawn D (tyA cI cJ cZ cS) [(a_this, .inr (9, [.ref a_script, .ref a_acts, .ref a_sightings, .ref a_now, .ref a_trial, .ref a_slots, .ref a_levels, .ref a_table, .ref a_waves, .ref a_spans, .ref a_net, .ref a_draft, .long i_this_lastDraw])), (a_now, .inr (5, [.ref a_now_kinds, .ref a_now_delays, .int i_now_held])), (a_net, .inr (2, [.int i_net_inputs, .int i_net_gates, .int i_net_paths, .ref a_net_told, .ref a_net_lefts, .ref a_net_rights, .ref a_net_nexts, .ref a_net_starts, .ref a_net_sizes, .ref a_net_steps, .ref a_net_links])), (a_levels, .inr (1, [.ref a_levels_of, .int i_levels_links, .int i_levels_sureLinks])), (a_now_kinds, .inl (cI, 8, .inl k_now_kinds)), (a_net_lefts, .inl (cI, 8, .inl k_net_lefts)), (a_levels_of, .inl (cI, 18, .inl k_levels_of)), (a_net_rights, .inl (cI, 8, .inl k_net_rights)), (a_net_starts, .inl (cI, 55, .inl k_net_starts)), (a_net_links, .inl (cI, 55, .inl k_net_links))] sz [.ref a_this, .int y1] rr [(a_this, .inr (9, [.ref a_script, .ref a_acts, .ref a_sightings, .ref a_now, .ref a_trial, .ref a_slots, .ref a_levels, .ref a_table, .ref a_waves, .ref a_spans, .ref a_net, .ref a_draft, .long o_this_lastDraw])), (a_now, .inr (5, [.ref a_now_kinds, .ref a_now_delays, .int i_now_held])), (a_net, .inr (2, [.int i_net_inputs, .int i_net_gates, .int i_net_paths, .ref a_net_told, .ref a_net_lefts, .ref a_net_rights, .ref a_net_nexts, .ref a_net_starts, .ref a_net_sizes, .ref a_net_steps, .ref a_net_links])), (a_levels, .inr (1, [.ref a_levels_of, .int o_levels_links, .int o_levels_sureLinks])), (a_now_kinds, .inl (cI, 8, .inl k_now_kinds)), (a_net_lefts, .inl (cI, 8, .inl k_net_lefts)), (a_levels_of, .inl (cI, 18, .inl o_levels_of)), (a_net_rights, .inl (cI, 8, .inl k_net_rights)), (a_net_starts, .inl (cI, 55, .inl k_net_starts)), (a_net_links, .inl (cI, 55, .inl k_net_links))] := by
  refine entI (cc := cX9_drawn) (maxL := 8) (own := RX9) (by decide) rfl rfl (Nat.le_of_ble_eq_true rfl) ?_
  intro p e s m args below meth c A ls Q H locs S hr hw hl hQ
  have hx := S.1.1
  have hb := S.1.2.1
  have hts := S.1.2.2.2.2
  have hl : lv_has ls 8 [(0, .ref a_this), (1, .int y1)] := hl
  have hinX9 : ∀ w ∈ u_ws RX9 TX9 13, w ∈ wsX9_drawn := (fun _ h => List.mem_cons_of_mem _ (List.mem_append_left _ (List.mem_append_left _ (List.mem_append_left _ (List.mem_append_right _ h)))))
  have F33 : FLk s args wsX9_drawn RX9 33 RX9 TX9 13 9 3 := ⟨hinX9, rfl, by decide, hts (.fieldLink RX9 33 "SlowPaths" "now" "LSlowPaths$Setting;") (List.mem_of_getElem? (i := 6) rfl)⟩
  have F47 : FLk s args wsX9_drawn RX9 47 RX9 TX9 13 9 6 := ⟨hinX9, rfl, by decide, hts (.fieldLink RX9 47 "SlowPaths" "levels" "LSlowPaths$Levels;") (List.mem_of_getElem? (i := 4) rfl)⟩
  have F75 : FLk s args wsX9_drawn RX9 75 RX9 TX9 13 9 10 := ⟨hinX9, rfl, by decide, hts (.fieldLink RX9 75 "SlowPaths" "net" "LSlowPaths$Net;") (List.mem_of_getElem? (i := 5) rfl)⟩
  have F82 : FLk s args wsX9_drawn RX9 82 RX9 TX9 13 9 12 := ⟨hinX9, rfl, by decide, hts (.fieldLink RX9 82 "SlowPaths" "lastDraw" "J") (List.mem_of_getElem? (i := 1) rfl)⟩
  have hinX2 : ∀ w ∈ u_ws RX2 TX2 11, w ∈ wsX9_drawn := (fun _ h => List.mem_cons_of_mem _ (List.mem_append_left _ (List.mem_append_right _ h)))
  have F113 : FLk s args wsX9_drawn RX9 113 RX2 TX2 11 2 2 := ⟨hinX2, rfl, by decide, hts (.fieldLink RX9 113 "SlowPaths$Net" "paths" "I") (List.mem_of_getElem? (i := 8) rfl)⟩
  have hinX5 : ∀ w ∈ u_ws RX5 TX5 3, w ∈ wsX9_drawn := (fun _ h => List.mem_cons_of_mem _ (List.mem_append_left _ (List.mem_append_left _ (List.mem_append_right _ h))))
  have F120 : FLk s args wsX9_drawn RX9 120 RX5 TX5 3 5 0 := ⟨hinX5, rfl, by decide, hts (.fieldLink RX9 120 "SlowPaths$Setting" "kinds" "[I") (List.mem_of_getElem? (i := 7) rfl)⟩
  have P82 : PLk TX9 13 12 tyX9 false .long := ⟨tyX9_ok, nmX9, rfl, rfl⟩
  have h := hf
  rw [f_X9_drawn] at h
  refine lv_iload_n hx hb dX9_drawn_0 rfl (lv_at hl 1 rfl) ?_
  refine lv_iconst (v := (1 : Int32)) hx hb dX9_drawn_1 (by decide) ?_
  refine lv_icmp_lt (tgt := 11) hx hb dX9_drawn_2 (by decide) (fun hc => ?_) (fun hc => ?_)
  · replace h := if_t hc h
    refine lv_bipush (v := (-2 : Int32)) hx hb dX9_drawn_11 (by decide) ?_
    cases h
    exact z_iret S hQ hr hw [0, 1, 2, 3, 4, 5, 6, 7, 8, 9] rfl rfl dX9_drawn_13
  · replace h := if_f hc h
    refine lv_iload_n hx hb dX9_drawn_5 rfl (lv_at hl 1 rfl) ?_
    refine lv_bipush (v := (20 : Int32)) hx hb dX9_drawn_6 (by decide) ?_
    refine lv_icmp_le (tgt := 14) hx hb dX9_drawn_8 (by decide) (fun hc => ?_) (fun hc => ?_)
    · replace h := if_t hc h
      refine lv_iconst (v := (0 : Int32)) hx hb dX9_drawn_14 (by decide) ?_
      refine lv_istore_n (lv' := [(2, .int (0 : Int32)), (0, .ref a_this), (1, .int y1)]) hx hb dX9_drawn_15 rfl hl (by decide) rfl (fun ls hl => ?_)
      refine lv_iconst (v := (0 : Int32)) hx hb dX9_drawn_16 (by decide) ?_
      refine lv_istore_n (lv' := [(3, .int (0 : Int32)), (2, .int (0 : Int32)), (0, .ref a_this), (1, .int y1)]) hx hb dX9_drawn_17 rfl hl (by decide) rfl (fun ls hl => ?_)
      obtain ⟨j142_1, ej142_1, h⟩ := bnd_ex h
      have hj142_1 : ∀ (x2_1 : Int32) (i_this_lastDraw_2 : Int64) (i_levels_links_3 : Int32) (i_levels_sureLinks_4 : Int32) (k_levels_of_5 : (Nat → Int32)) (H : Heap) (locs : List Loc) (ls : Array Slot), j142_1 x2_1 i_this_lastDraw_2 i_levels_links_3 i_levels_sureLinks_4 k_levels_of_5 = some (rr, o_this_lastDraw, o_levels_links, o_levels_sureLinks, o_levels_of) → Wd D (tyA cI cJ cZ cS) A s [(a_this, .inr (9, [.ref a_script, .ref a_acts, .ref a_sightings, .ref a_now, .ref a_trial, .ref a_slots, .ref a_levels, .ref a_table, .ref a_waves, .ref a_spans, .ref a_net, .ref a_draft, .long i_this_lastDraw_2])), (a_now, .inr (5, [.ref a_now_kinds, .ref a_now_delays, .int i_now_held])), (a_net, .inr (2, [.int i_net_inputs, .int i_net_gates, .int i_net_paths, .ref a_net_told, .ref a_net_lefts, .ref a_net_rights, .ref a_net_nexts, .ref a_net_starts, .ref a_net_sizes, .ref a_net_steps, .ref a_net_links])), (a_levels, .inr (1, [.ref a_levels_of, .int i_levels_links_3, .int i_levels_sureLinks_4])), (a_now_kinds, .inl (cI, 8, .inl k_now_kinds)), (a_net_lefts, .inl (cI, 8, .inl k_net_lefts)), (a_levels_of, .inl (cI, 18, .inl k_levels_of_5)), (a_net_rights, .inl (cI, 8, .inl k_net_rights)), (a_net_starts, .inl (cI, 55, .inl k_net_starts)), (a_net_links, .inl (cI, 55, .inl k_net_links))] H locs → lv_has ls 8 [(2, .int x2_1)] → W p l e rmX9_drawn s m args below meth c H locs 0 0 Q (F0 m 142 ls []) := by
        intro x2_1 i_this_lastDraw_2 i_levels_links_3 i_levels_sureLinks_4 k_levels_of_5 H locs ls h hw hl
        replace h := ap5 ej142_1 h
        refine lv_iload_n hx hb dX9_drawn_142 rfl (lv_at hl 0 rfl) ?_
        cases h
        exact z_iret S hQ hr hw [0, 1, 2, 3, 4, 5, 6, 7, 8, 9] rfl rfl dX9_drawn_143
      have hL18_1 : ∀ (nf : Nat) (x2_6 : Int32) (x3_7 : Int32) (i_this_lastDraw_8 : Int64) (i_levels_links_9 : Int32) (i_levels_sureLinks_10 : Int32) (k_levels_of_11 : (Nat → Int32)) (H : Heap) (locs : List Loc) (ls : Array Slot), f_X9_drawn_L18 N y1 i_net_inputs i_net_gates i_net_paths k_now_kinds k_net_lefts k_net_rights k_net_starts k_net_links j142_1 nf x2_6 x3_7 i_this_lastDraw_8 i_levels_links_9 i_levels_sureLinks_10 k_levels_of_11 = some (rr, o_this_lastDraw, o_levels_links, o_levels_sureLinks, o_levels_of) → Wd D (tyA cI cJ cZ cS) A s [(a_this, .inr (9, [.ref a_script, .ref a_acts, .ref a_sightings, .ref a_now, .ref a_trial, .ref a_slots, .ref a_levels, .ref a_table, .ref a_waves, .ref a_spans, .ref a_net, .ref a_draft, .long i_this_lastDraw_8])), (a_now, .inr (5, [.ref a_now_kinds, .ref a_now_delays, .int i_now_held])), (a_net, .inr (2, [.int i_net_inputs, .int i_net_gates, .int i_net_paths, .ref a_net_told, .ref a_net_lefts, .ref a_net_rights, .ref a_net_nexts, .ref a_net_starts, .ref a_net_sizes, .ref a_net_steps, .ref a_net_links])), (a_levels, .inr (1, [.ref a_levels_of, .int i_levels_links_9, .int i_levels_sureLinks_10])), (a_now_kinds, .inl (cI, 8, .inl k_now_kinds)), (a_net_lefts, .inl (cI, 8, .inl k_net_lefts)), (a_levels_of, .inl (cI, 18, .inl k_levels_of_11)), (a_net_rights, .inl (cI, 8, .inl k_net_rights)), (a_net_starts, .inl (cI, 55, .inl k_net_starts)), (a_net_links, .inl (cI, 55, .inl k_net_links))] H locs → lv_has ls 8 [(0, .ref a_this), (1, .int y1), (2, .int x2_6), (3, .int x3_7)] → W p l e rmX9_drawn s m args below meth c H locs 0 0 Q (F0 m 18 ls []) := by
        intro nf
        induction nf with
        | zero =>
          intro x2_6 x3_7 i_this_lastDraw_8 i_levels_links_9 i_levels_sureLinks_10 k_levels_of_11 H locs ls h
          rw [f_X9_drawn_L18] at h
          cases h
        | succ n_18 ih_18 =>
          intro x2_6 x3_7 i_this_lastDraw_8 i_levels_links_9 i_levels_sureLinks_10 k_levels_of_11 H locs ls h hw hl
          rw [f_X9_drawn_L18] at h
          refine lv_iload_n hx hb dX9_drawn_18 rfl (lv_at hl 3 rfl) ?_
          refine lv_iload_n hx hb dX9_drawn_19 rfl (lv_at hl 1 rfl) ?_
          refine lv_icmp_ge (tgt := 142) hx hb dX9_drawn_20 (by decide) (fun hc => ?_) (fun hc => ?_)
          · replace h := if_t hc h
            exact hj142_1 x2_6 i_this_lastDraw_8 i_levels_links_9 i_levels_sureLinks_10 k_levels_of_11 H locs ls h hw (lv_sub hl [2] rfl)
          · replace h := if_f hc h
            refine lv_aload_n hx hb dX9_drawn_23 rfl (lv_at hl 0 rfl) ?_
            refine lv_aload_n hx hb dX9_drawn_24 rfl (lv_at hl 0 rfl) ?_
            refine z_get S hw F82 0 rfl rfl dX9_drawn_25 ?_
            refine lv_ldc2 (v := (6364136223846793005 : Int64)) hx hb S.1.2.2.2.1 (hts (.constantLong RX9 251 (6364136223846793005)) (List.mem_of_getElem? (i := 2) rfl)) dX9_drawn_28 ?_
            refine lv_lmul hx hb dX9_drawn_31 ?_
            refine lv_ldc2 (v := (1442695040888963407 : Int64)) hx hb S.1.2.2.2.1 (hts (.constantLong RX9 253 (1442695040888963407)) (List.mem_of_getElem? (i := 3) rfl)) dX9_drawn_32 ?_
            refine lv_ladd hx hb dX9_drawn_35 ?_
            refine lv_topl (fun i_lastDraw_12 ei_lastDraw_12 => ?_)
            replace h := bnd_at ei_lastDraw_12 h
            refine z_put S hw F82 P82 rfl rfl 0 rfl (Nat.le_of_ble_eq_true rfl) dX9_drawn_36 (fun H locs hw => ?_)
            refine lv_aload_n hx hb dX9_drawn_39 rfl (lv_at hl 0 rfl) ?_
            refine z_get S hw F82 0 rfl rfl dX9_drawn_40 ?_
            refine lv_bipush (v := (33 : Int32)) hx hb dX9_drawn_43 (by decide) ?_
            refine lv_lushr hx hb dX9_drawn_45 rfl ?_
            refine lv_l2i hx hb dX9_drawn_46 rfl ?_
            refine lv_topi (fun x4_13 ex4_13 => ?_)
            replace h := bnd_at ex4_13 h
            refine lv_istore (lv' := [(4, .int x4_13), (0, .ref a_this), (1, .int y1), (2, .int x2_6), (3, .int x3_7)]) hx hb dX9_drawn_47 hl (by decide) rfl (fun ls hl => ?_)
            refine lv_iload hx hb dX9_drawn_49 (lv_at hl 0 rfl) ?_
            refine lv_bipush (v := (16 : Int32)) hx hb dX9_drawn_51 (by decide) ?_
            refine lv_irem hx hb dX9_drawn_53 (by decide) ?_
            refine lv_topi (fun x5_14 ex5_14 => ?_)
            replace h := bnd_at ex5_14 h
            refine lv_istore (lv' := [(5, .int x5_14), (4, .int x4_13), (0, .ref a_this), (1, .int y1), (2, .int x2_6), (3, .int x3_7)]) hx hb dX9_drawn_54 hl (by decide) rfl (fun ls hl => ?_)
            refine lv_iload hx hb dX9_drawn_56 (lv_at hl 1 rfl) ?_
            refine lv_bipush (v := (16 : Int32)) hx hb dX9_drawn_58 (by decide) ?_
            refine lv_idiv hx hb dX9_drawn_60 (by decide) ?_
            refine lv_bipush (v := (16 : Int32)) hx hb dX9_drawn_61 (by decide) ?_
            refine lv_irem hx hb dX9_drawn_63 (by decide) ?_
            refine lv_topi (fun x6_15 ex6_15 => ?_)
            replace h := bnd_at ex6_15 h
            refine lv_istore (lv' := [(6, .int x6_15), (5, .int x5_14), (4, .int x4_13), (0, .ref a_this), (1, .int y1), (2, .int x2_6), (3, .int x3_7)]) hx hb dX9_drawn_64 hl (by decide) rfl (fun ls hl => ?_)
            refine lv_aload_n hx hb dX9_drawn_66 rfl (lv_at hl 3 rfl) ?_
            refine z_get S hw F47 0 rfl rfl dX9_drawn_67 ?_
            refine lv_aload_n hx hb dX9_drawn_70 rfl (lv_at hl 3 rfl) ?_
            refine z_get S hw F75 0 rfl rfl dX9_drawn_71 ?_
            refine lv_aload_n hx hb dX9_drawn_74 rfl (lv_at hl 3 rfl) ?_
            refine z_get S hw F33 0 rfl rfl dX9_drawn_75 ?_
            refine z_get S hw F120 1 rfl rfl dX9_drawn_78 ?_
            refine lv_aload_n hx hb dX9_drawn_81 rfl (lv_at hl 3 rfl) ?_
            refine z_get S hw F75 0 rfl rfl dX9_drawn_82 ?_
            refine lv_iload hx hb dX9_drawn_85 (lv_at hl 1 rfl) ?_
            refine lv_bipush (v := (16 : Int32)) hx hb dX9_drawn_87 (by decide) ?_
            refine lv_imul hx hb dX9_drawn_89 ?_
            refine lv_iload hx hb dX9_drawn_90 (lv_at hl 0 rfl) ?_
            refine lv_iadd hx hb dX9_drawn_92 ?_
            obtain ⟨r_16, e93_1, h⟩ := obd1_el h
            refine zr_VI (As := [.int ((x5_14 * (16 : Int32)) + x6_15)]) (rest := [.ref a_now_kinds, .ref a_net, .ref a_levels]) (q0 := 0) S hw (c_X2_pairWithin l D cI cJ cZ cS H.size N a_net a_net_told a_net_lefts a_net_rights a_net_nexts a_net_starts a_net_sizes a_net_steps a_net_links i_net_inputs i_net_gates i_net_paths ((x5_14 * (16 : Int32)) + x6_15) r_16 e93_1) (cwV 1 hts gX9_drawn_X2_pairWithin rfl rfl rfl dv_X2_pairWithin ⟨Nat.le_of_ble_eq_true rfl, Nat.le_of_ble_eq_true rfl⟩) [2] rfl rfl rfl rfl rfl rfl hl.1 rfl (Nat.le_of_ble_eq_true rfl) dX9_drawn_93 ⟨Nat.zero_le _, Nat.zero_le _⟩ ?_
            obtain ⟨i_levels_links_17, i_levels_sureLinks_18, k_levels_of_19, e96_1, h⟩ := obd3_el h
            refine zc_VV (As := [.ref a_net, .ref a_now_kinds, .int r_16]) (rest := []) (wr := [(a_this, .inr (9, [.ref a_script, .ref a_acts, .ref a_sightings, .ref a_now, .ref a_trial, .ref a_slots, .ref a_levels, .ref a_table, .ref a_waves, .ref a_spans, .ref a_net, .ref a_draft, .long i_lastDraw_12])), (a_now, .inr (5, [.ref a_now_kinds, .ref a_now_delays, .int i_now_held])), (a_net_starts, .inl (cI, 55, .inl k_net_starts)), (a_net_links, .inl (cI, 55, .inl k_net_links))]) (q0 := 1) S hw (c_X1_settle l D cI cJ cZ cS H.size N a_net a_levels a_now_kinds a_net_lefts a_levels_of a_net_rights a_net_told a_net_nexts a_net_starts a_net_sizes a_net_steps a_net_links i_net_inputs i_net_gates i_net_paths i_levels_links_9 i_levels_sureLinks_10 k_now_kinds k_net_lefts k_levels_of_11 k_net_rights r_16 i_levels_links_17 i_levels_sureLinks_18 k_levels_of_19 e96_1) (cwV 3 hts gX9_drawn_X1_settle rfl rfl rfl dv_X1_settle ⟨Nat.le_of_ble_eq_true rfl, Nat.le_of_ble_eq_true rfl⟩) [2, 3, 4, 5, 6, 7] [0, 1, 8, 9] rfl rfl rfl rfl (by decide) rfl rfl rfl rfl hl.1 rfl (Nat.le_of_ble_eq_true rfl) dX9_drawn_96 ⟨Nat.zero_le _, Nat.zero_le _⟩ (fun H locs hw => ?_)
            refine lv_iconst (v := (0 : Int32)) hx hb dX9_drawn_99 (by decide) ?_
            refine lv_istore (lv' := [(7, .int (0 : Int32)), (6, .int x6_15), (5, .int x5_14), (4, .int x4_13), (0, .ref a_this), (1, .int y1), (2, .int x2_6), (3, .int x3_7)]) hx hb dX9_drawn_100 hl (by decide) rfl (fun ls hl => ?_)
            obtain ⟨j136_1, ej136_1, h⟩ := bnd_ex h
            have hj136_1 : ∀ (x2_20 : Int32) (H : Heap) (locs : List Loc) (ls : Array Slot), j136_1 x2_20 = some (rr, o_this_lastDraw, o_levels_links, o_levels_sureLinks, o_levels_of) → Wd D (tyA cI cJ cZ cS) A s [(a_this, .inr (9, [.ref a_script, .ref a_acts, .ref a_sightings, .ref a_now, .ref a_trial, .ref a_slots, .ref a_levels, .ref a_table, .ref a_waves, .ref a_spans, .ref a_net, .ref a_draft, .long i_lastDraw_12])), (a_now, .inr (5, [.ref a_now_kinds, .ref a_now_delays, .int i_now_held])), (a_net, .inr (2, [.int i_net_inputs, .int i_net_gates, .int i_net_paths, .ref a_net_told, .ref a_net_lefts, .ref a_net_rights, .ref a_net_nexts, .ref a_net_starts, .ref a_net_sizes, .ref a_net_steps, .ref a_net_links])), (a_levels, .inr (1, [.ref a_levels_of, .int i_levels_links_17, .int i_levels_sureLinks_18])), (a_now_kinds, .inl (cI, 8, .inl k_now_kinds)), (a_net_lefts, .inl (cI, 8, .inl k_net_lefts)), (a_levels_of, .inl (cI, 18, .inl k_levels_of_19)), (a_net_rights, .inl (cI, 8, .inl k_net_rights)), (a_net_starts, .inl (cI, 55, .inl k_net_starts)), (a_net_links, .inl (cI, 55, .inl k_net_links))] H locs → lv_has ls 8 [(0, .ref a_this), (1, .int y1), (2, .int x2_20), (3, .int x3_7)] → W p l e rmX9_drawn s m args below meth c H locs 0 0 Q (F0 m 136 ls []) := by
              intro x2_20 H locs ls h hw hl
              replace h := ap1 ej136_1 h
              obtain ⟨x3_21, ex3_21, h⟩ := bnd_ex h
              refine lv_iinc (v := x3_21) (lv' := [(3, .int x3_21), (0, .ref a_this), (1, .int y1), (2, .int x2_20)]) hx hb dX9_drawn_136 hl (k := 3) rfl (by rw [ex3_21]; rfl) (by decide) rfl (fun ls hl => ?_)
              refine lv_goto (tgt := 18) hx hb dX9_drawn_139 (by decide) ?_
              exact ih_18 x2_20 x3_21 i_lastDraw_12 i_levels_links_17 i_levels_sureLinks_18 k_levels_of_19 H locs ls h hw (lv_sub hl [1, 2, 3, 0] rfl)
            have hL102_1 : ∀ (nf : Nat) (x2_22 : Int32) (x7_23 : Int32) (H : Heap) (locs : List Loc) (ls : Array Slot), f_X9_drawn_L102 N i_net_paths k_net_starts k_net_links i_levels_links_17 i_levels_sureLinks_18 k_levels_of_19 j136_1 nf x2_22 x7_23 = some (rr, o_this_lastDraw, o_levels_links, o_levels_sureLinks, o_levels_of) → Wd D (tyA cI cJ cZ cS) A s [(a_this, .inr (9, [.ref a_script, .ref a_acts, .ref a_sightings, .ref a_now, .ref a_trial, .ref a_slots, .ref a_levels, .ref a_table, .ref a_waves, .ref a_spans, .ref a_net, .ref a_draft, .long i_lastDraw_12])), (a_now, .inr (5, [.ref a_now_kinds, .ref a_now_delays, .int i_now_held])), (a_net, .inr (2, [.int i_net_inputs, .int i_net_gates, .int i_net_paths, .ref a_net_told, .ref a_net_lefts, .ref a_net_rights, .ref a_net_nexts, .ref a_net_starts, .ref a_net_sizes, .ref a_net_steps, .ref a_net_links])), (a_levels, .inr (1, [.ref a_levels_of, .int i_levels_links_17, .int i_levels_sureLinks_18])), (a_now_kinds, .inl (cI, 8, .inl k_now_kinds)), (a_net_lefts, .inl (cI, 8, .inl k_net_lefts)), (a_levels_of, .inl (cI, 18, .inl k_levels_of_19)), (a_net_rights, .inl (cI, 8, .inl k_net_rights)), (a_net_starts, .inl (cI, 55, .inl k_net_starts)), (a_net_links, .inl (cI, 55, .inl k_net_links))] H locs → lv_has ls 8 [(0, .ref a_this), (1, .int y1), (2, .int x2_22), (3, .int x3_7), (7, .int x7_23)] → W p l e rmX9_drawn s m args below meth c H locs 0 0 Q (F0 m 102 ls []) := by
              intro nf
              induction nf with
              | zero =>
                intro x2_22 x7_23 H locs ls h
                rw [f_X9_drawn_L102] at h
                cases h
              | succ n_102 ih_102 =>
                intro x2_22 x7_23 H locs ls h hw hl
                rw [f_X9_drawn_L102] at h
                refine lv_iload hx hb dX9_drawn_102 (lv_at hl 4 rfl) ?_
                refine lv_aload_n hx hb dX9_drawn_104 rfl (lv_at hl 0 rfl) ?_
                refine z_get S hw F75 0 rfl rfl dX9_drawn_105 ?_
                refine z_get S hw F113 2 rfl rfl dX9_drawn_108 ?_
                refine lv_icmp_ge (tgt := 136) hx hb dX9_drawn_111 (by decide) (fun hc => ?_) (fun hc => ?_)
                · replace h := if_t hc h
                  exact hj136_1 x2_22 H locs ls h hw (lv_sub hl [0, 1, 2, 3] rfl)
                · replace h := if_f hc h
                  refine lv_iload_n hx hb dX9_drawn_114 rfl (lv_at hl 2 rfl) ?_
                  refine lv_aload_n hx hb dX9_drawn_115 rfl (lv_at hl 0 rfl) ?_
                  refine z_get S hw F47 0 rfl rfl dX9_drawn_116 ?_
                  refine lv_aload_n hx hb dX9_drawn_119 rfl (lv_at hl 0 rfl) ?_
                  refine z_get S hw F75 0 rfl rfl dX9_drawn_120 ?_
                  refine lv_iload hx hb dX9_drawn_123 (lv_at hl 4 rfl) ?_
                  obtain ⟨r_24, e125_1, h⟩ := obd1_el h
                  refine zr_VI (As := [.ref a_net, .int x7_23]) (rest := [.int x2_22]) (q0 := 0) S hw (c_X1_howFar l D cI cJ cZ cS H.size N a_levels a_net a_net_starts a_levels_of a_net_links a_net_told a_net_lefts a_net_rights a_net_nexts a_net_sizes a_net_steps i_levels_links_17 i_levels_sureLinks_18 i_net_inputs i_net_gates i_net_paths k_net_starts k_levels_of_19 k_net_links x7_23 r_24 e125_1) (cwV 2 hts gX9_drawn_X1_howFar rfl rfl rfl dv_X1_howFar ⟨Nat.le_of_ble_eq_true rfl, Nat.le_of_ble_eq_true rfl⟩) [3, 2, 8, 6, 9] rfl rfl rfl rfl rfl rfl hl.1 rfl (Nat.le_of_ble_eq_true rfl) dX9_drawn_125 ⟨Nat.zero_le _, Nat.zero_le _⟩ ?_
                  refine lv_iadd hx hb dX9_drawn_128 ?_
                  refine lv_topi (fun x2_25 ex2_25 => ?_)
                  replace h := bnd_at ex2_25 h
                  refine lv_istore_n (lv' := [(2, .int x2_25), (0, .ref a_this), (1, .int y1), (3, .int x3_7), (7, .int x7_23)]) hx hb dX9_drawn_129 rfl hl (by decide) rfl (fun ls hl => ?_)
                  obtain ⟨x7_26, ex7_26, h⟩ := bnd_ex h
                  refine lv_iinc (v := x7_26) (lv' := [(7, .int x7_26), (2, .int x2_25), (0, .ref a_this), (1, .int y1), (3, .int x3_7)]) hx hb dX9_drawn_130 hl (k := 4) rfl (by rw [ex7_26]; rfl) (by decide) rfl (fun ls hl => ?_)
                  refine lv_goto (tgt := 102) hx hb dX9_drawn_133 (by decide) ?_
                  exact ih_102 x2_25 x7_26 H locs ls h hw (lv_sub hl [2, 3, 1, 4, 0] rfl)
            exact hL102_1 N x2_6 ((0 : Int32)) H locs ls h (hw.sub [0, 1, 4, 5, 6, 7, 8, 9, 2, 3] rfl rfl) (lv_sub hl [4, 5, 6, 7, 0] rfl)
      exact hL18_1 N ((0 : Int32)) ((0 : Int32)) i_this_lastDraw i_levels_links i_levels_sureLinks k_levels_of H locs ls h hw (lv_sub hl [2, 3, 1, 0] rfl)
    · replace h := if_f hc h
      refine lv_bipush (v := (-2 : Int32)) hx hb dX9_drawn_11 (by decide) ?_
      cases h
      exact z_iret S hQ hr hw [0, 1, 2, 3, 4, 5, 6, 7, 8, 9] rfl rfl dX9_drawn_13
abbrev rmX9_keep : Room := { frames := 1, cells := 0, slots := 0, locals := 22 }
theorem dv_X9_keep : yX9_keep.cls = RX9 ∧ yX9_keep.cls ≠ "java/lang/invoke/MethodHandle" ∧ yX9_keep.cls ≠ "java/lang/invoke/VarHandle" ∧ (parseMethodDescriptor yX9_keep.desc).map (fun d => d.parameters.length) = some 1 := by decide +kernel
noncomputable def f_X9_keep (N : Nat) (y1 : Int32) (i_net_gates : Int32) (i_slots_0_held : Int32) (k_now_kinds : (Nat → Int32)) (k_now_delays : (Nat → Int32)) (i_slots_1_held : Int32) (k_slots_0_kinds : (Nat → Int32)) (k_slots_0_delays : (Nat → Int32)) (k_slots_1_kinds : (Nat → Int32)) (k_slots_1_delays : (Nat → Int32)) : Option (Int32 × Int32 × Int32 × (Nat → Int32) × (Nat → Int32) × (Nat → Int32) × (Nat → Int32)) :=
  (if y1 < (0 : Int32) then (some ((-1 : Int32), i_slots_0_held, i_slots_1_held, k_slots_0_kinds, k_slots_0_delays, k_slots_1_kinds, k_slots_1_delays)) else ((if y1 < (2 : Int32) then ((if y1 = (0 : Int32) then (obd2 (f_X5_copyFrom N k_now_kinds k_slots_0_kinds k_now_delays k_slots_0_delays) fun (k_slots_0_kinds_1 : (Nat → Int32)) (k_slots_0_delays_2 : (Nat → Int32)) => (if y1 = (0 : Int32) then (some (i_net_gates, (1 : Int32), i_slots_1_held, k_slots_0_kinds_1, k_slots_0_delays_2, k_slots_1_kinds, k_slots_1_delays)) else (grd (decide (y1 = (1 : Int32))) <| some (i_net_gates, i_slots_0_held, (1 : Int32), k_slots_0_kinds_1, k_slots_0_delays_2, k_slots_1_kinds, k_slots_1_delays)))) else (grd (decide (y1 = (1 : Int32))) <| obd2 (f_X5_copyFrom N k_now_kinds k_slots_1_kinds k_now_delays k_slots_1_delays) fun (k_slots_1_kinds_3 : (Nat → Int32)) (k_slots_1_delays_4 : (Nat → Int32)) => (if y1 = (0 : Int32) then (some (i_net_gates, (1 : Int32), i_slots_1_held, k_slots_0_kinds, k_slots_0_delays, k_slots_1_kinds_3, k_slots_1_delays_4)) else (grd (decide (y1 = (1 : Int32))) <| some (i_net_gates, i_slots_0_held, (1 : Int32), k_slots_0_kinds, k_slots_0_delays, k_slots_1_kinds_3, k_slots_1_delays_4)))))) else (some ((-1 : Int32), i_slots_0_held, i_slots_1_held, k_slots_0_kinds, k_slots_0_delays, k_slots_1_kinds, k_slots_1_delays)))))
set_option maxHeartbeats 4000000 in
set_option maxRecDepth 100000 in
theorem c_X9_keep (l : Launch) (D : va_G) (cI cJ cZ cS : ClassId) (sz N : Nat) (a_this a_slots a_now a_net a_slots_0 a_now_kinds a_now_delays a_slots_1 a_slots_0_kinds a_slots_0_delays a_slots_1_kinds a_slots_1_delays a_script a_acts a_sightings a_trial a_levels a_table a_waves a_spans a_draft a_net_told a_net_lefts a_net_rights a_net_nexts a_net_starts a_net_sizes a_net_steps a_net_links : Nat) (i_this_lastDraw : Int64) (i_now_held : Int32) (i_net_inputs : Int32) (i_net_gates : Int32) (i_net_paths : Int32) (i_slots_0_held : Int32) (k_now_kinds : (Nat → Int32)) (k_now_delays : (Nat → Int32)) (i_slots_1_held : Int32) (k_slots_0_kinds : (Nat → Int32)) (k_slots_0_delays : (Nat → Int32)) (k_slots_1_kinds : (Nat → Int32)) (k_slots_1_delays : (Nat → Int32)) (y1 : Int32) (rr : Int32) (o_slots_0_held : Int32) (o_slots_1_held : Int32) (o_slots_0_kinds : (Nat → Int32)) (o_slots_0_delays : (Nat → Int32)) (o_slots_1_kinds : (Nat → Int32)) (o_slots_1_delays : (Nat → Int32)) (hf : f_X9_keep N y1 i_net_gates i_slots_0_held k_now_kinds k_now_delays i_slots_1_held k_slots_0_kinds k_slots_0_delays k_slots_1_kinds k_slots_1_delays = some (rr, o_slots_0_held, o_slots_1_held, o_slots_0_kinds, o_slots_0_delays, o_slots_1_kinds, o_slots_1_delays)) : MetI l yX9_keep wsX9_keep rmX9_keep D (tyA cI cJ cZ cS) [(a_this, .inr (9, [.ref a_script, .ref a_acts, .ref a_sightings, .ref a_now, .ref a_trial, .ref a_slots, .ref a_levels, .ref a_table, .ref a_waves, .ref a_spans, .ref a_net, .ref a_draft, .long i_this_lastDraw])), (a_slots, .inl (cS, 2, .inr (.inr (.inr (.inr (slF a_slots_0 a_slots_1)))))), (a_now, .inr (5, [.ref a_now_kinds, .ref a_now_delays, .int i_now_held])), (a_net, .inr (2, [.int i_net_inputs, .int i_net_gates, .int i_net_paths, .ref a_net_told, .ref a_net_lefts, .ref a_net_rights, .ref a_net_nexts, .ref a_net_starts, .ref a_net_sizes, .ref a_net_steps, .ref a_net_links])), (a_slots_0, .inr (5, [.ref a_slots_0_kinds, .ref a_slots_0_delays, .int i_slots_0_held])), (a_now_kinds, .inl (cI, 8, .inl k_now_kinds)), (a_now_delays, .inl (cI, 8, .inl k_now_delays)), (a_slots_1, .inr (5, [.ref a_slots_1_kinds, .ref a_slots_1_delays, .int i_slots_1_held])), (a_slots_0_kinds, .inl (cI, 8, .inl k_slots_0_kinds)), (a_slots_0_delays, .inl (cI, 8, .inl k_slots_0_delays)), (a_slots_1_kinds, .inl (cI, 8, .inl k_slots_1_kinds)), (a_slots_1_delays, .inl (cI, 8, .inl k_slots_1_delays))] sz [.ref a_this, .int y1] rr [(a_this, .inr (9, [.ref a_script, .ref a_acts, .ref a_sightings, .ref a_now, .ref a_trial, .ref a_slots, .ref a_levels, .ref a_table, .ref a_waves, .ref a_spans, .ref a_net, .ref a_draft, .long i_this_lastDraw])), (a_slots, .inl (cS, 2, .inr (.inr (.inr (.inr (slF a_slots_0 a_slots_1)))))), (a_now, .inr (5, [.ref a_now_kinds, .ref a_now_delays, .int i_now_held])), (a_net, .inr (2, [.int i_net_inputs, .int i_net_gates, .int i_net_paths, .ref a_net_told, .ref a_net_lefts, .ref a_net_rights, .ref a_net_nexts, .ref a_net_starts, .ref a_net_sizes, .ref a_net_steps, .ref a_net_links])), (a_slots_0, .inr (5, [.ref a_slots_0_kinds, .ref a_slots_0_delays, .int o_slots_0_held])), (a_now_kinds, .inl (cI, 8, .inl k_now_kinds)), (a_now_delays, .inl (cI, 8, .inl k_now_delays)), (a_slots_1, .inr (5, [.ref a_slots_1_kinds, .ref a_slots_1_delays, .int o_slots_1_held])), (a_slots_0_kinds, .inl (cI, 8, .inl o_slots_0_kinds)), (a_slots_0_delays, .inl (cI, 8, .inl o_slots_0_delays)), (a_slots_1_kinds, .inl (cI, 8, .inl o_slots_1_kinds)), (a_slots_1_delays, .inl (cI, 8, .inl o_slots_1_delays))] := by
  refine entI (cc := cX9_keep) (maxL := 2) (own := RX9) (by decide) rfl rfl (Nat.le_of_ble_eq_true rfl) ?_
  intro p e s m args below meth c A ls Q H locs S hr hw hl hQ
  have hx := S.1.1
  have hb := S.1.2.1
  have hts := S.1.2.2.2.2
  have hl : lv_has ls 2 [(0, .ref a_this), (1, .int y1)] := hl
  have hinX9 : ∀ w ∈ u_ws RX9 TX9 13, w ∈ wsX9_keep := (fun _ h => List.mem_cons_of_mem _ (List.mem_append_left _ (List.mem_append_left _ (List.mem_append_right _ h))))
  have F33 : FLk s args wsX9_keep RX9 33 RX9 TX9 13 9 3 := ⟨hinX9, rfl, by decide, hts (.fieldLink RX9 33 "SlowPaths" "now" "LSlowPaths$Setting;") (List.mem_of_getElem? (i := 2) rfl)⟩
  have F40 : FLk s args wsX9_keep RX9 40 RX9 TX9 13 9 5 := ⟨hinX9, rfl, by decide, hts (.fieldLink RX9 40 "SlowPaths" "slots" "[LSlowPaths$Setting;") (List.mem_of_getElem? (i := 1) rfl)⟩
  have F75 : FLk s args wsX9_keep RX9 75 RX9 TX9 13 9 10 := ⟨hinX9, rfl, by decide, hts (.fieldLink RX9 75 "SlowPaths" "net" "LSlowPaths$Net;") (List.mem_of_getElem? (i := 4) rfl)⟩
  have hinX5 : ∀ w ∈ u_ws RX5 TX5 3, w ∈ wsX9_keep := (fun _ h => List.mem_cons_of_mem _ (List.mem_append_left _ (List.mem_append_right _ h)))
  have F109 : FLk s args wsX9_keep RX9 109 RX5 TX5 3 5 2 := ⟨hinX5, rfl, by decide, hts (.fieldLink RX9 109 "SlowPaths$Setting" "held" "Z") (List.mem_of_getElem? (i := 3) rfl)⟩
  have hinX2 : ∀ w ∈ u_ws RX2 TX2 11, w ∈ wsX9_keep := (fun _ h => List.mem_cons_of_mem _ (List.mem_append_right _ h))
  have F197 : FLk s args wsX9_keep RX9 197 RX2 TX2 11 2 1 := ⟨hinX2, rfl, by decide, hts (.fieldLink RX9 197 "SlowPaths$Net" "gates" "I") (List.mem_of_getElem? (i := 5) rfl)⟩
  have P109 : PLk TX5 3 2 tyX5 false .boolean := ⟨tyX5_ok, nmX5, rfl, rfl⟩
  have h := hf
  rw [f_X9_keep] at h
  refine lv_iload_n hx hb dX9_keep_0 rfl (lv_at hl 1 rfl) ?_
  refine lv_if_lt (tgt := 9) hx hb dX9_keep_1 (by decide) (fun hc => ?_) (fun hc => ?_)
  · replace h := if_t hc h
    refine lv_iconst (v := (-1 : Int32)) hx hb dX9_keep_9 (by decide) ?_
    cases h
    exact z_iret S hQ hr hw [0, 1, 2, 3, 4, 5, 6, 7, 8, 9, 10, 11] rfl rfl dX9_keep_10
  · replace h := if_f hc h
    refine lv_iload_n hx hb dX9_keep_4 rfl (lv_at hl 1 rfl) ?_
    refine lv_iconst (v := (2 : Int32)) hx hb dX9_keep_5 (by decide) ?_
    refine lv_icmp_lt (tgt := 11) hx hb dX9_keep_6 (by decide) (fun hc => ?_) (fun hc => ?_)
    · replace h := if_t hc h
      refine lv_aload_n hx hb dX9_keep_11 rfl (lv_at hl 0 rfl) ?_
      refine z_get S hw F40 0 rfl rfl dX9_keep_12 ?_
      refine lv_iload_n hx hb dX9_keep_15 rfl (lv_at hl 1 rfl) ?_
      by_cases hs0 : y1 = (0 : Int32)
      · replace h := if_t hs0 h
        refine z_aldq S hw 1 3 rfl rfl (inb_in (by rw [hs0]; decide)) (by first | (rw [hs0]; done) | (rw [hs0]; rfl)) dX9_keep_16 ?_
        refine lv_aload_n hx hb dX9_keep_17 rfl (lv_at hl 0 rfl) ?_
        refine z_get S hw F33 0 rfl rfl dX9_keep_18 ?_
        obtain ⟨k_slots_0_kinds_1, k_slots_0_delays_2, e21_1, h⟩ := obd2_el h
        refine zc_VV (As := [.ref a_now]) (rest := []) (wr := [(a_this, .inr (9, [.ref a_script, .ref a_acts, .ref a_sightings, .ref a_now, .ref a_trial, .ref a_slots, .ref a_levels, .ref a_table, .ref a_waves, .ref a_spans, .ref a_net, .ref a_draft, .long i_this_lastDraw])), (a_slots, .inl (cS, 2, .inr (.inr (.inr (.inr (slF a_slots_0 a_slots_1)))))), (a_net, .inr (2, [.int i_net_inputs, .int i_net_gates, .int i_net_paths, .ref a_net_told, .ref a_net_lefts, .ref a_net_rights, .ref a_net_nexts, .ref a_net_starts, .ref a_net_sizes, .ref a_net_steps, .ref a_net_links])), (a_slots_1, .inr (5, [.ref a_slots_1_kinds, .ref a_slots_1_delays, .int i_slots_1_held])), (a_slots_1_kinds, .inl (cI, 8, .inl k_slots_1_kinds)), (a_slots_1_delays, .inl (cI, 8, .inl k_slots_1_delays))]) (q0 := 0) S hw (c_X5_copyFrom l D cI cJ cZ cS H.size N a_slots_0 a_now a_now_kinds a_slots_0_kinds a_now_delays a_slots_0_delays i_slots_0_held i_now_held k_now_kinds k_slots_0_kinds k_now_delays k_slots_0_delays k_slots_0_kinds_1 k_slots_0_delays_2 e21_1) (cwV 1 hts gX9_keep_X5_copyFrom rfl rfl rfl dv_X5_copyFrom ⟨Nat.le_of_ble_eq_true rfl, Nat.le_of_ble_eq_true rfl⟩) [4, 2, 5, 8, 6, 9] [0, 1, 3, 7, 10, 11] rfl rfl rfl rfl (by decide) rfl rfl rfl rfl hl.1 rfl (Nat.le_of_ble_eq_true rfl) dX9_keep_21 ⟨Nat.zero_le _, Nat.zero_le _⟩ (fun H locs hw => ?_)
        refine lv_aload_n hx hb dX9_keep_24 rfl (lv_at hl 0 rfl) ?_
        refine z_get S hw F40 0 rfl rfl dX9_keep_25 ?_
        refine lv_iload_n hx hb dX9_keep_28 rfl (lv_at hl 1 rfl) ?_
        by_cases hs0 : y1 = (0 : Int32)
        · replace h := if_t hs0 h
          refine z_aldq S hw 1 3 rfl rfl (inb_in (by rw [hs0]; decide)) (by first | (rw [hs0]; done) | (rw [hs0]; rfl)) dX9_keep_29 ?_
          refine lv_iconst (v := (1 : Int32)) hx hb dX9_keep_30 (by decide) ?_
          refine z_put S hw F109 P109 rfl rfl 6 rfl (Nat.le_of_ble_eq_true rfl) dX9_keep_31 (fun H locs hw => ?_)
          refine lv_aload_n hx hb dX9_keep_34 rfl (lv_at hl 0 rfl) ?_
          refine z_get S hw F75 0 rfl rfl dX9_keep_35 ?_
          refine z_get S hw F197 2 rfl rfl dX9_keep_38 ?_
          cases h
          exact z_iret S hQ hr hw [0, 1, 7, 2, 6, 8, 10, 3, 9, 11, 4, 5] rfl rfl dX9_keep_41
        replace h := if_f hs0 h
        obtain ⟨hs1, h⟩ := grd_el h
        have hs1 := of_decide_eq_true hs1
        refine z_aldq S hw 1 3 rfl rfl (inb_in (by rw [hs1]; decide)) (by first | (rw [hs1]; done) | (rw [hs1]; rfl)) dX9_keep_29 ?_
        refine lv_iconst (v := (1 : Int32)) hx hb dX9_keep_30 (by decide) ?_
        refine z_put S hw F109 P109 rfl rfl 3 rfl (Nat.le_of_ble_eq_true rfl) dX9_keep_31 (fun H locs hw => ?_)
        refine lv_aload_n hx hb dX9_keep_34 rfl (lv_at hl 0 rfl) ?_
        refine z_get S hw F75 0 rfl rfl dX9_keep_35 ?_
        refine z_get S hw F197 2 rfl rfl dX9_keep_38 ?_
        cases h
        exact z_iret S hQ hr hw [0, 1, 7, 2, 6, 8, 10, 3, 9, 11, 4, 5] rfl rfl dX9_keep_41
      replace h := if_f hs0 h
      obtain ⟨hs1, h⟩ := grd_el h
      have hs1 := of_decide_eq_true hs1
      refine z_aldq S hw 1 3 rfl rfl (inb_in (by rw [hs1]; decide)) (by first | (rw [hs1]; done) | (rw [hs1]; rfl)) dX9_keep_16 ?_
      refine lv_aload_n hx hb dX9_keep_17 rfl (lv_at hl 0 rfl) ?_
      refine z_get S hw F33 0 rfl rfl dX9_keep_18 ?_
      obtain ⟨k_slots_1_kinds_3, k_slots_1_delays_4, e21_2, h⟩ := obd2_el h
      refine zc_VV (As := [.ref a_now]) (rest := []) (wr := [(a_this, .inr (9, [.ref a_script, .ref a_acts, .ref a_sightings, .ref a_now, .ref a_trial, .ref a_slots, .ref a_levels, .ref a_table, .ref a_waves, .ref a_spans, .ref a_net, .ref a_draft, .long i_this_lastDraw])), (a_slots, .inl (cS, 2, .inr (.inr (.inr (.inr (slF a_slots_0 a_slots_1)))))), (a_net, .inr (2, [.int i_net_inputs, .int i_net_gates, .int i_net_paths, .ref a_net_told, .ref a_net_lefts, .ref a_net_rights, .ref a_net_nexts, .ref a_net_starts, .ref a_net_sizes, .ref a_net_steps, .ref a_net_links])), (a_slots_0, .inr (5, [.ref a_slots_0_kinds, .ref a_slots_0_delays, .int i_slots_0_held])), (a_slots_0_kinds, .inl (cI, 8, .inl k_slots_0_kinds)), (a_slots_0_delays, .inl (cI, 8, .inl k_slots_0_delays))]) (q0 := 0) S hw (c_X5_copyFrom l D cI cJ cZ cS H.size N a_slots_1 a_now a_now_kinds a_slots_1_kinds a_now_delays a_slots_1_delays i_slots_1_held i_now_held k_now_kinds k_slots_1_kinds k_now_delays k_slots_1_delays k_slots_1_kinds_3 k_slots_1_delays_4 e21_2) (cwV 1 hts gX9_keep_X5_copyFrom rfl rfl rfl dv_X5_copyFrom ⟨Nat.le_of_ble_eq_true rfl, Nat.le_of_ble_eq_true rfl⟩) [7, 2, 5, 10, 6, 11] [0, 1, 3, 4, 8, 9] rfl rfl rfl rfl (by decide) rfl rfl rfl rfl hl.1 rfl (Nat.le_of_ble_eq_true rfl) dX9_keep_21 ⟨Nat.zero_le _, Nat.zero_le _⟩ (fun H locs hw => ?_)
      refine lv_aload_n hx hb dX9_keep_24 rfl (lv_at hl 0 rfl) ?_
      refine z_get S hw F40 0 rfl rfl dX9_keep_25 ?_
      refine lv_iload_n hx hb dX9_keep_28 rfl (lv_at hl 1 rfl) ?_
      by_cases hs0 : y1 = (0 : Int32)
      · replace h := if_t hs0 h
        refine z_aldq S hw 1 3 rfl rfl (inb_in (by rw [hs0]; decide)) (by first | (rw [hs0]; done) | (rw [hs0]; rfl)) dX9_keep_29 ?_
        refine lv_iconst (v := (1 : Int32)) hx hb dX9_keep_30 (by decide) ?_
        refine z_put S hw F109 P109 rfl rfl 3 rfl (Nat.le_of_ble_eq_true rfl) dX9_keep_31 (fun H locs hw => ?_)
        refine lv_aload_n hx hb dX9_keep_34 rfl (lv_at hl 0 rfl) ?_
        refine z_get S hw F75 0 rfl rfl dX9_keep_35 ?_
        refine z_get S hw F197 2 rfl rfl dX9_keep_38 ?_
        cases h
        exact z_iret S hQ hr hw [0, 1, 7, 2, 3, 8, 10, 6, 4, 5, 9, 11] rfl rfl dX9_keep_41
      replace h := if_f hs0 h
      obtain ⟨hs1, h⟩ := grd_el h
      have hs1 := of_decide_eq_true hs1
      refine z_aldq S hw 1 3 rfl rfl (inb_in (by rw [hs1]; decide)) (by first | (rw [hs1]; done) | (rw [hs1]; rfl)) dX9_keep_29 ?_
      refine lv_iconst (v := (1 : Int32)) hx hb dX9_keep_30 (by decide) ?_
      refine z_put S hw F109 P109 rfl rfl 6 rfl (Nat.le_of_ble_eq_true rfl) dX9_keep_31 (fun H locs hw => ?_)
      refine lv_aload_n hx hb dX9_keep_34 rfl (lv_at hl 0 rfl) ?_
      refine z_get S hw F75 0 rfl rfl dX9_keep_35 ?_
      refine z_get S hw F197 2 rfl rfl dX9_keep_38 ?_
      cases h
      exact z_iret S hQ hr hw [0, 1, 7, 2, 3, 8, 10, 6, 4, 5, 9, 11] rfl rfl dX9_keep_41
    · replace h := if_f hc h
      refine lv_iconst (v := (-1 : Int32)) hx hb dX9_keep_9 (by decide) ?_
      cases h
      exact z_iret S hQ hr hw [0, 1, 2, 3, 4, 5, 6, 7, 8, 9, 10, 11] rfl rfl dX9_keep_10
abbrev rmX9_again : Room := { frames := 1, cells := 0, slots := 0, locals := 22 }
theorem dv_X9_again : yX9_again.cls = RX9 ∧ yX9_again.cls ≠ "java/lang/invoke/MethodHandle" ∧ yX9_again.cls ≠ "java/lang/invoke/VarHandle" ∧ (parseMethodDescriptor yX9_again.desc).map (fun d => d.parameters.length) = some 1 := by decide +kernel
noncomputable def f_X9_again (N : Nat) (y1 : Int32) (i_acts_size : Int32) (i_net_gates : Int32) (i_slots_0_held : Int32) (k_now_kinds : (Nat → Int32)) (k_now_delays : (Nat → Int32)) (i_slots_1_held : Int32) (k_slots_0_kinds : (Nat → Int32)) (k_slots_0_delays : (Nat → Int32)) (k_slots_1_kinds : (Nat → Int32)) (k_slots_1_delays : (Nat → Int32)) : Option (Int32 × Int32 × (Nat → Int32) × (Nat → Int32)) :=
  (if y1 < (0 : Int32) then (some ((-1 : Int32), i_acts_size, k_now_kinds, k_now_delays)) else ((if y1 < (2 : Int32) then ((if y1 = (0 : Int32) then ((if i_slots_0_held = (0 : Int32) then (some ((-3 : Int32), i_acts_size, k_now_kinds, k_now_delays)) else ((if y1 = (0 : Int32) then (obd2 (f_X5_copyFrom N k_slots_0_kinds k_now_kinds k_slots_0_delays k_now_delays) fun (k_now_kinds_1 : (Nat → Int32)) (k_now_delays_2 : (Nat → Int32)) => some (i_net_gates, (0 : Int32), k_now_kinds_1, k_now_delays_2)) else (grd (decide (y1 = (1 : Int32))) <| obd2 (f_X5_copyFrom N k_slots_1_kinds k_now_kinds k_slots_1_delays k_now_delays) fun (k_now_kinds_3 : (Nat → Int32)) (k_now_delays_4 : (Nat → Int32)) => some (i_net_gates, (0 : Int32), k_now_kinds_3, k_now_delays_4)))))) else (grd (decide (y1 = (1 : Int32))) <| (if i_slots_1_held = (0 : Int32) then (some ((-3 : Int32), i_acts_size, k_now_kinds, k_now_delays)) else ((if y1 = (0 : Int32) then (obd2 (f_X5_copyFrom N k_slots_0_kinds k_now_kinds k_slots_0_delays k_now_delays) fun (k_now_kinds_5 : (Nat → Int32)) (k_now_delays_6 : (Nat → Int32)) => some (i_net_gates, (0 : Int32), k_now_kinds_5, k_now_delays_6)) else (grd (decide (y1 = (1 : Int32))) <| obd2 (f_X5_copyFrom N k_slots_1_kinds k_now_kinds k_slots_1_delays k_now_delays) fun (k_now_kinds_7 : (Nat → Int32)) (k_now_delays_8 : (Nat → Int32)) => some (i_net_gates, (0 : Int32), k_now_kinds_7, k_now_delays_8)))))))) else (some ((-1 : Int32), i_acts_size, k_now_kinds, k_now_delays)))))
set_option maxHeartbeats 4000000 in
set_option maxRecDepth 100000 in
theorem c_X9_again (l : Launch) (D : va_G) (cI cJ cZ cS : ClassId) (sz N : Nat) (a_this a_slots a_now a_acts a_net a_slots_0 a_now_kinds a_now_delays a_slots_1 a_slots_0_kinds a_slots_0_delays a_slots_1_kinds a_slots_1_delays a_script a_sightings a_trial a_levels a_table a_waves a_spans a_draft a_acts_gates a_acts_turned a_acts_olds a_net_told a_net_lefts a_net_rights a_net_nexts a_net_starts a_net_sizes a_net_steps a_net_links : Nat) (i_this_lastDraw : Int64) (i_now_held : Int32) (i_acts_size : Int32) (i_net_inputs : Int32) (i_net_gates : Int32) (i_net_paths : Int32) (i_slots_0_held : Int32) (k_now_kinds : (Nat → Int32)) (k_now_delays : (Nat → Int32)) (i_slots_1_held : Int32) (k_slots_0_kinds : (Nat → Int32)) (k_slots_0_delays : (Nat → Int32)) (k_slots_1_kinds : (Nat → Int32)) (k_slots_1_delays : (Nat → Int32)) (y1 : Int32) (rr : Int32) (o_acts_size : Int32) (o_now_kinds : (Nat → Int32)) (o_now_delays : (Nat → Int32)) (hf : f_X9_again N y1 i_acts_size i_net_gates i_slots_0_held k_now_kinds k_now_delays i_slots_1_held k_slots_0_kinds k_slots_0_delays k_slots_1_kinds k_slots_1_delays = some (rr, o_acts_size, o_now_kinds, o_now_delays)) : MetI l yX9_again wsX9_again rmX9_again D (tyA cI cJ cZ cS) [(a_this, .inr (9, [.ref a_script, .ref a_acts, .ref a_sightings, .ref a_now, .ref a_trial, .ref a_slots, .ref a_levels, .ref a_table, .ref a_waves, .ref a_spans, .ref a_net, .ref a_draft, .long i_this_lastDraw])), (a_slots, .inl (cS, 2, .inr (.inr (.inr (.inr (slF a_slots_0 a_slots_1)))))), (a_now, .inr (5, [.ref a_now_kinds, .ref a_now_delays, .int i_now_held])), (a_acts, .inr (0, [.ref a_acts_gates, .ref a_acts_turned, .ref a_acts_olds, .int i_acts_size])), (a_net, .inr (2, [.int i_net_inputs, .int i_net_gates, .int i_net_paths, .ref a_net_told, .ref a_net_lefts, .ref a_net_rights, .ref a_net_nexts, .ref a_net_starts, .ref a_net_sizes, .ref a_net_steps, .ref a_net_links])), (a_slots_0, .inr (5, [.ref a_slots_0_kinds, .ref a_slots_0_delays, .int i_slots_0_held])), (a_now_kinds, .inl (cI, 8, .inl k_now_kinds)), (a_now_delays, .inl (cI, 8, .inl k_now_delays)), (a_slots_1, .inr (5, [.ref a_slots_1_kinds, .ref a_slots_1_delays, .int i_slots_1_held])), (a_slots_0_kinds, .inl (cI, 8, .inl k_slots_0_kinds)), (a_slots_0_delays, .inl (cI, 8, .inl k_slots_0_delays)), (a_slots_1_kinds, .inl (cI, 8, .inl k_slots_1_kinds)), (a_slots_1_delays, .inl (cI, 8, .inl k_slots_1_delays))] sz [.ref a_this, .int y1] rr [(a_this, .inr (9, [.ref a_script, .ref a_acts, .ref a_sightings, .ref a_now, .ref a_trial, .ref a_slots, .ref a_levels, .ref a_table, .ref a_waves, .ref a_spans, .ref a_net, .ref a_draft, .long i_this_lastDraw])), (a_slots, .inl (cS, 2, .inr (.inr (.inr (.inr (slF a_slots_0 a_slots_1)))))), (a_now, .inr (5, [.ref a_now_kinds, .ref a_now_delays, .int i_now_held])), (a_acts, .inr (0, [.ref a_acts_gates, .ref a_acts_turned, .ref a_acts_olds, .int o_acts_size])), (a_net, .inr (2, [.int i_net_inputs, .int i_net_gates, .int i_net_paths, .ref a_net_told, .ref a_net_lefts, .ref a_net_rights, .ref a_net_nexts, .ref a_net_starts, .ref a_net_sizes, .ref a_net_steps, .ref a_net_links])), (a_slots_0, .inr (5, [.ref a_slots_0_kinds, .ref a_slots_0_delays, .int i_slots_0_held])), (a_now_kinds, .inl (cI, 8, .inl o_now_kinds)), (a_now_delays, .inl (cI, 8, .inl o_now_delays)), (a_slots_1, .inr (5, [.ref a_slots_1_kinds, .ref a_slots_1_delays, .int i_slots_1_held])), (a_slots_0_kinds, .inl (cI, 8, .inl k_slots_0_kinds)), (a_slots_0_delays, .inl (cI, 8, .inl k_slots_0_delays)), (a_slots_1_kinds, .inl (cI, 8, .inl k_slots_1_kinds)), (a_slots_1_delays, .inl (cI, 8, .inl k_slots_1_delays))] := by
  refine entI (cc := cX9_again) (maxL := 2) (own := RX9) (by decide) rfl rfl (Nat.le_of_ble_eq_true rfl) ?_
  intro p e s m args below meth c A ls Q H locs S hr hw hl hQ
  have hx := S.1.1
  have hb := S.1.2.1
  have hts := S.1.2.2.2.2
  have hl : lv_has ls 2 [(0, .ref a_this), (1, .int y1)] := hl
  have hinX9 : ∀ w ∈ u_ws RX9 TX9 13, w ∈ wsX9_again := (fun _ h => List.mem_cons_of_mem _ (List.mem_append_left _ (List.mem_append_left _ (List.mem_append_left _ (List.mem_append_right _ h)))))
  have F19 : FLk s args wsX9_again RX9 19 RX9 TX9 13 9 1 := ⟨hinX9, rfl, by decide, hts (.fieldLink RX9 19 "SlowPaths" "acts" "LSlowPaths$Acts;") (List.mem_of_getElem? (i := 4) rfl)⟩
  have F33 : FLk s args wsX9_again RX9 33 RX9 TX9 13 9 3 := ⟨hinX9, rfl, by decide, hts (.fieldLink RX9 33 "SlowPaths" "now" "LSlowPaths$Setting;") (List.mem_of_getElem? (i := 3) rfl)⟩
  have F40 : FLk s args wsX9_again RX9 40 RX9 TX9 13 9 5 := ⟨hinX9, rfl, by decide, hts (.fieldLink RX9 40 "SlowPaths" "slots" "[LSlowPaths$Setting;") (List.mem_of_getElem? (i := 1) rfl)⟩
  have F75 : FLk s args wsX9_again RX9 75 RX9 TX9 13 9 10 := ⟨hinX9, rfl, by decide, hts (.fieldLink RX9 75 "SlowPaths" "net" "LSlowPaths$Net;") (List.mem_of_getElem? (i := 6) rfl)⟩
  have hinX0 : ∀ w ∈ u_ws RX0 TX0 4, w ∈ wsX9_again := (fun _ h => List.mem_cons_of_mem _ (List.mem_append_left _ (List.mem_append_right _ h)))
  have F105 : FLk s args wsX9_again RX9 105 RX0 TX0 4 0 3 := ⟨hinX0, rfl, by decide, hts (.fieldLink RX9 105 "SlowPaths$Acts" "size" "I") (List.mem_of_getElem? (i := 5) rfl)⟩
  have hinX5 : ∀ w ∈ u_ws RX5 TX5 3, w ∈ wsX9_again := (fun _ h => List.mem_cons_of_mem _ (List.mem_append_left _ (List.mem_append_left _ (List.mem_append_right _ h))))
  have F109 : FLk s args wsX9_again RX9 109 RX5 TX5 3 5 2 := ⟨hinX5, rfl, by decide, hts (.fieldLink RX9 109 "SlowPaths$Setting" "held" "Z") (List.mem_of_getElem? (i := 2) rfl)⟩
  have hinX2 : ∀ w ∈ u_ws RX2 TX2 11, w ∈ wsX9_again := (fun _ h => List.mem_cons_of_mem _ (List.mem_append_right _ h))
  have F197 : FLk s args wsX9_again RX9 197 RX2 TX2 11 2 1 := ⟨hinX2, rfl, by decide, hts (.fieldLink RX9 197 "SlowPaths$Net" "gates" "I") (List.mem_of_getElem? (i := 7) rfl)⟩
  have P105 : PLk TX0 4 3 tyX0 false .int := ⟨tyX0_ok, nmX0, rfl, rfl⟩
  have h := hf
  rw [f_X9_again] at h
  refine lv_iload_n hx hb dX9_again_0 rfl (lv_at hl 1 rfl) ?_
  refine lv_if_lt (tgt := 9) hx hb dX9_again_1 (by decide) (fun hc => ?_) (fun hc => ?_)
  · replace h := if_t hc h
    refine lv_iconst (v := (-1 : Int32)) hx hb dX9_again_9 (by decide) ?_
    cases h
    exact z_iret S hQ hr hw [0, 1, 2, 3, 4, 5, 6, 7, 8, 9, 10, 11, 12] rfl rfl dX9_again_10
  · replace h := if_f hc h
    refine lv_iload_n hx hb dX9_again_4 rfl (lv_at hl 1 rfl) ?_
    refine lv_iconst (v := (2 : Int32)) hx hb dX9_again_5 (by decide) ?_
    refine lv_icmp_lt (tgt := 11) hx hb dX9_again_6 (by decide) (fun hc => ?_) (fun hc => ?_)
    · replace h := if_t hc h
      refine lv_aload_n hx hb dX9_again_11 rfl (lv_at hl 0 rfl) ?_
      refine z_get S hw F40 0 rfl rfl dX9_again_12 ?_
      refine lv_iload_n hx hb dX9_again_15 rfl (lv_at hl 1 rfl) ?_
      by_cases hs0 : y1 = (0 : Int32)
      · replace h := if_t hs0 h
        refine z_aldq S hw 1 3 rfl rfl (inb_in (by rw [hs0]; decide)) (by first | (rw [hs0]; done) | (rw [hs0]; rfl)) dX9_again_16 ?_
        refine z_get S hw F109 5 rfl rfl dX9_again_17 ?_
        refine lv_if_ne (tgt := 26) hx hb dX9_again_20 (by decide) (fun hc => ?_) (fun hc => ?_)
        · replace h := if_f hc h
          refine lv_aload_n hx hb dX9_again_26 rfl (lv_at hl 0 rfl) ?_
          refine z_get S hw F33 0 rfl rfl dX9_again_27 ?_
          refine lv_aload_n hx hb dX9_again_30 rfl (lv_at hl 0 rfl) ?_
          refine z_get S hw F40 0 rfl rfl dX9_again_31 ?_
          refine lv_iload_n hx hb dX9_again_34 rfl (lv_at hl 1 rfl) ?_
          by_cases hs0 : y1 = (0 : Int32)
          · replace h := if_t hs0 h
            refine z_aldq S hw 1 3 rfl rfl (inb_in (by rw [hs0]; decide)) (by first | (rw [hs0]; done) | (rw [hs0]; rfl)) dX9_again_35 ?_
            obtain ⟨k_now_kinds_1, k_now_delays_2, e36_1, h⟩ := obd2_el h
            refine zc_VV (As := [.ref a_slots_0]) (rest := []) (wr := [(a_this, .inr (9, [.ref a_script, .ref a_acts, .ref a_sightings, .ref a_now, .ref a_trial, .ref a_slots, .ref a_levels, .ref a_table, .ref a_waves, .ref a_spans, .ref a_net, .ref a_draft, .long i_this_lastDraw])), (a_slots, .inl (cS, 2, .inr (.inr (.inr (.inr (slF a_slots_0 a_slots_1)))))), (a_acts, .inr (0, [.ref a_acts_gates, .ref a_acts_turned, .ref a_acts_olds, .int i_acts_size])), (a_net, .inr (2, [.int i_net_inputs, .int i_net_gates, .int i_net_paths, .ref a_net_told, .ref a_net_lefts, .ref a_net_rights, .ref a_net_nexts, .ref a_net_starts, .ref a_net_sizes, .ref a_net_steps, .ref a_net_links])), (a_slots_1, .inr (5, [.ref a_slots_1_kinds, .ref a_slots_1_delays, .int i_slots_1_held])), (a_slots_1_kinds, .inl (cI, 8, .inl k_slots_1_kinds)), (a_slots_1_delays, .inl (cI, 8, .inl k_slots_1_delays))]) (q0 := 0) S hw (c_X5_copyFrom l D cI cJ cZ cS H.size N a_now a_slots_0 a_slots_0_kinds a_now_kinds a_slots_0_delays a_now_delays i_now_held i_slots_0_held k_slots_0_kinds k_now_kinds k_slots_0_delays k_now_delays k_now_kinds_1 k_now_delays_2 e36_1) (cwV 1 hts gX9_again_X5_copyFrom rfl rfl rfl dv_X5_copyFrom ⟨Nat.le_of_ble_eq_true rfl, Nat.le_of_ble_eq_true rfl⟩) [2, 5, 9, 6, 10, 7] [0, 1, 3, 4, 8, 11, 12] rfl rfl rfl rfl (by decide) rfl rfl rfl rfl hl.1 rfl (Nat.le_of_ble_eq_true rfl) dX9_again_36 ⟨Nat.zero_le _, Nat.zero_le _⟩ (fun H locs hw => ?_)
            refine lv_aload_n hx hb dX9_again_39 rfl (lv_at hl 0 rfl) ?_
            refine z_get S hw F19 0 rfl rfl dX9_again_40 ?_
            refine lv_iconst (v := (0 : Int32)) hx hb dX9_again_43 (by decide) ?_
            refine z_put S hw F105 P105 rfl rfl 2 rfl (Nat.le_of_ble_eq_true rfl) dX9_again_44 (fun H locs hw => ?_)
            refine lv_aload_n hx hb dX9_again_47 rfl (lv_at hl 0 rfl) ?_
            refine z_get S hw F75 0 rfl rfl dX9_again_48 ?_
            refine z_get S hw F197 3 rfl rfl dX9_again_51 ?_
            cases h
            exact z_iret S hQ hr hw [0, 1, 7, 2, 3, 8, 10, 12, 4, 9, 11, 5, 6] rfl rfl dX9_again_54
          replace h := if_f hs0 h
          obtain ⟨hs1, h⟩ := grd_el h
          have hs1 := of_decide_eq_true hs1
          refine z_aldq S hw 1 3 rfl rfl (inb_in (by rw [hs1]; decide)) (by first | (rw [hs1]; done) | (rw [hs1]; rfl)) dX9_again_35 ?_
          obtain ⟨k_now_kinds_3, k_now_delays_4, e36_2, h⟩ := obd2_el h
          refine zc_VV (As := [.ref a_slots_1]) (rest := []) (wr := [(a_this, .inr (9, [.ref a_script, .ref a_acts, .ref a_sightings, .ref a_now, .ref a_trial, .ref a_slots, .ref a_levels, .ref a_table, .ref a_waves, .ref a_spans, .ref a_net, .ref a_draft, .long i_this_lastDraw])), (a_slots, .inl (cS, 2, .inr (.inr (.inr (.inr (slF a_slots_0 a_slots_1)))))), (a_acts, .inr (0, [.ref a_acts_gates, .ref a_acts_turned, .ref a_acts_olds, .int i_acts_size])), (a_net, .inr (2, [.int i_net_inputs, .int i_net_gates, .int i_net_paths, .ref a_net_told, .ref a_net_lefts, .ref a_net_rights, .ref a_net_nexts, .ref a_net_starts, .ref a_net_sizes, .ref a_net_steps, .ref a_net_links])), (a_slots_0, .inr (5, [.ref a_slots_0_kinds, .ref a_slots_0_delays, .int i_slots_0_held])), (a_slots_0_kinds, .inl (cI, 8, .inl k_slots_0_kinds)), (a_slots_0_delays, .inl (cI, 8, .inl k_slots_0_delays))]) (q0 := 0) S hw (c_X5_copyFrom l D cI cJ cZ cS H.size N a_now a_slots_1 a_slots_1_kinds a_now_kinds a_slots_1_delays a_now_delays i_now_held i_slots_1_held k_slots_1_kinds k_now_kinds k_slots_1_delays k_now_delays k_now_kinds_3 k_now_delays_4 e36_2) (cwV 1 hts gX9_again_X5_copyFrom rfl rfl rfl dv_X5_copyFrom ⟨Nat.le_of_ble_eq_true rfl, Nat.le_of_ble_eq_true rfl⟩) [2, 8, 11, 6, 12, 7] [0, 1, 3, 4, 5, 9, 10] rfl rfl rfl rfl (by decide) rfl rfl rfl rfl hl.1 rfl (Nat.le_of_ble_eq_true rfl) dX9_again_36 ⟨Nat.zero_le _, Nat.zero_le _⟩ (fun H locs hw => ?_)
          refine lv_aload_n hx hb dX9_again_39 rfl (lv_at hl 0 rfl) ?_
          refine z_get S hw F19 0 rfl rfl dX9_again_40 ?_
          refine lv_iconst (v := (0 : Int32)) hx hb dX9_again_43 (by decide) ?_
          refine z_put S hw F105 P105 rfl rfl 2 rfl (Nat.le_of_ble_eq_true rfl) dX9_again_44 (fun H locs hw => ?_)
          refine lv_aload_n hx hb dX9_again_47 rfl (lv_at hl 0 rfl) ?_
          refine z_get S hw F75 0 rfl rfl dX9_again_48 ?_
          refine z_get S hw F197 3 rfl rfl dX9_again_51 ?_
          cases h
          exact z_iret S hQ hr hw [0, 1, 7, 2, 3, 4, 10, 12, 8, 5, 6, 9, 11] rfl rfl dX9_again_54
        · replace h := if_t hc h
          refine lv_bipush (v := (-3 : Int32)) hx hb dX9_again_23 (by decide) ?_
          cases h
          exact z_iret S hQ hr hw [0, 1, 2, 3, 4, 5, 6, 7, 8, 9, 10, 11, 12] rfl rfl dX9_again_25
      replace h := if_f hs0 h
      obtain ⟨hs1, h⟩ := grd_el h
      have hs1 := of_decide_eq_true hs1
      refine z_aldq S hw 1 3 rfl rfl (inb_in (by rw [hs1]; decide)) (by first | (rw [hs1]; done) | (rw [hs1]; rfl)) dX9_again_16 ?_
      refine z_get S hw F109 8 rfl rfl dX9_again_17 ?_
      refine lv_if_ne (tgt := 26) hx hb dX9_again_20 (by decide) (fun hc => ?_) (fun hc => ?_)
      · replace h := if_f hc h
        refine lv_aload_n hx hb dX9_again_26 rfl (lv_at hl 0 rfl) ?_
        refine z_get S hw F33 0 rfl rfl dX9_again_27 ?_
        refine lv_aload_n hx hb dX9_again_30 rfl (lv_at hl 0 rfl) ?_
        refine z_get S hw F40 0 rfl rfl dX9_again_31 ?_
        refine lv_iload_n hx hb dX9_again_34 rfl (lv_at hl 1 rfl) ?_
        by_cases hs0 : y1 = (0 : Int32)
        · replace h := if_t hs0 h
          refine z_aldq S hw 1 3 rfl rfl (inb_in (by rw [hs0]; decide)) (by first | (rw [hs0]; done) | (rw [hs0]; rfl)) dX9_again_35 ?_
          obtain ⟨k_now_kinds_5, k_now_delays_6, e36_3, h⟩ := obd2_el h
          refine zc_VV (As := [.ref a_slots_0]) (rest := []) (wr := [(a_this, .inr (9, [.ref a_script, .ref a_acts, .ref a_sightings, .ref a_now, .ref a_trial, .ref a_slots, .ref a_levels, .ref a_table, .ref a_waves, .ref a_spans, .ref a_net, .ref a_draft, .long i_this_lastDraw])), (a_slots, .inl (cS, 2, .inr (.inr (.inr (.inr (slF a_slots_0 a_slots_1)))))), (a_acts, .inr (0, [.ref a_acts_gates, .ref a_acts_turned, .ref a_acts_olds, .int i_acts_size])), (a_net, .inr (2, [.int i_net_inputs, .int i_net_gates, .int i_net_paths, .ref a_net_told, .ref a_net_lefts, .ref a_net_rights, .ref a_net_nexts, .ref a_net_starts, .ref a_net_sizes, .ref a_net_steps, .ref a_net_links])), (a_slots_1, .inr (5, [.ref a_slots_1_kinds, .ref a_slots_1_delays, .int i_slots_1_held])), (a_slots_1_kinds, .inl (cI, 8, .inl k_slots_1_kinds)), (a_slots_1_delays, .inl (cI, 8, .inl k_slots_1_delays))]) (q0 := 0) S hw (c_X5_copyFrom l D cI cJ cZ cS H.size N a_now a_slots_0 a_slots_0_kinds a_now_kinds a_slots_0_delays a_now_delays i_now_held i_slots_0_held k_slots_0_kinds k_now_kinds k_slots_0_delays k_now_delays k_now_kinds_5 k_now_delays_6 e36_3) (cwV 1 hts gX9_again_X5_copyFrom rfl rfl rfl dv_X5_copyFrom ⟨Nat.le_of_ble_eq_true rfl, Nat.le_of_ble_eq_true rfl⟩) [2, 5, 9, 6, 10, 7] [0, 1, 3, 4, 8, 11, 12] rfl rfl rfl rfl (by decide) rfl rfl rfl rfl hl.1 rfl (Nat.le_of_ble_eq_true rfl) dX9_again_36 ⟨Nat.zero_le _, Nat.zero_le _⟩ (fun H locs hw => ?_)
          refine lv_aload_n hx hb dX9_again_39 rfl (lv_at hl 0 rfl) ?_
          refine z_get S hw F19 0 rfl rfl dX9_again_40 ?_
          refine lv_iconst (v := (0 : Int32)) hx hb dX9_again_43 (by decide) ?_
          refine z_put S hw F105 P105 rfl rfl 2 rfl (Nat.le_of_ble_eq_true rfl) dX9_again_44 (fun H locs hw => ?_)
          refine lv_aload_n hx hb dX9_again_47 rfl (lv_at hl 0 rfl) ?_
          refine z_get S hw F75 0 rfl rfl dX9_again_48 ?_
          refine z_get S hw F197 3 rfl rfl dX9_again_51 ?_
          cases h
          exact z_iret S hQ hr hw [0, 1, 7, 2, 3, 8, 10, 12, 4, 9, 11, 5, 6] rfl rfl dX9_again_54
        replace h := if_f hs0 h
        obtain ⟨hs1, h⟩ := grd_el h
        have hs1 := of_decide_eq_true hs1
        refine z_aldq S hw 1 3 rfl rfl (inb_in (by rw [hs1]; decide)) (by first | (rw [hs1]; done) | (rw [hs1]; rfl)) dX9_again_35 ?_
        obtain ⟨k_now_kinds_7, k_now_delays_8, e36_4, h⟩ := obd2_el h
        refine zc_VV (As := [.ref a_slots_1]) (rest := []) (wr := [(a_this, .inr (9, [.ref a_script, .ref a_acts, .ref a_sightings, .ref a_now, .ref a_trial, .ref a_slots, .ref a_levels, .ref a_table, .ref a_waves, .ref a_spans, .ref a_net, .ref a_draft, .long i_this_lastDraw])), (a_slots, .inl (cS, 2, .inr (.inr (.inr (.inr (slF a_slots_0 a_slots_1)))))), (a_acts, .inr (0, [.ref a_acts_gates, .ref a_acts_turned, .ref a_acts_olds, .int i_acts_size])), (a_net, .inr (2, [.int i_net_inputs, .int i_net_gates, .int i_net_paths, .ref a_net_told, .ref a_net_lefts, .ref a_net_rights, .ref a_net_nexts, .ref a_net_starts, .ref a_net_sizes, .ref a_net_steps, .ref a_net_links])), (a_slots_0, .inr (5, [.ref a_slots_0_kinds, .ref a_slots_0_delays, .int i_slots_0_held])), (a_slots_0_kinds, .inl (cI, 8, .inl k_slots_0_kinds)), (a_slots_0_delays, .inl (cI, 8, .inl k_slots_0_delays))]) (q0 := 0) S hw (c_X5_copyFrom l D cI cJ cZ cS H.size N a_now a_slots_1 a_slots_1_kinds a_now_kinds a_slots_1_delays a_now_delays i_now_held i_slots_1_held k_slots_1_kinds k_now_kinds k_slots_1_delays k_now_delays k_now_kinds_7 k_now_delays_8 e36_4) (cwV 1 hts gX9_again_X5_copyFrom rfl rfl rfl dv_X5_copyFrom ⟨Nat.le_of_ble_eq_true rfl, Nat.le_of_ble_eq_true rfl⟩) [2, 8, 11, 6, 12, 7] [0, 1, 3, 4, 5, 9, 10] rfl rfl rfl rfl (by decide) rfl rfl rfl rfl hl.1 rfl (Nat.le_of_ble_eq_true rfl) dX9_again_36 ⟨Nat.zero_le _, Nat.zero_le _⟩ (fun H locs hw => ?_)
        refine lv_aload_n hx hb dX9_again_39 rfl (lv_at hl 0 rfl) ?_
        refine z_get S hw F19 0 rfl rfl dX9_again_40 ?_
        refine lv_iconst (v := (0 : Int32)) hx hb dX9_again_43 (by decide) ?_
        refine z_put S hw F105 P105 rfl rfl 2 rfl (Nat.le_of_ble_eq_true rfl) dX9_again_44 (fun H locs hw => ?_)
        refine lv_aload_n hx hb dX9_again_47 rfl (lv_at hl 0 rfl) ?_
        refine z_get S hw F75 0 rfl rfl dX9_again_48 ?_
        refine z_get S hw F197 3 rfl rfl dX9_again_51 ?_
        cases h
        exact z_iret S hQ hr hw [0, 1, 7, 2, 3, 4, 10, 12, 8, 5, 6, 9, 11] rfl rfl dX9_again_54
      · replace h := if_t hc h
        refine lv_bipush (v := (-3 : Int32)) hx hb dX9_again_23 (by decide) ?_
        cases h
        exact z_iret S hQ hr hw [0, 1, 2, 3, 4, 5, 6, 7, 8, 9, 10, 11, 12] rfl rfl dX9_again_25
    · replace h := if_f hc h
      refine lv_iconst (v := (-1 : Int32)) hx hb dX9_again_9 (by decide) ?_
      cases h
      exact z_iret S hQ hr hw [0, 1, 2, 3, 4, 5, 6, 7, 8, 9, 10, 11, 12] rfl rfl dX9_again_10
abbrev rmX9_count : Room := { frames := 5, cells := 0, slots := 0, locals := 121 }
theorem dv_X9_count : yX9_count.cls = RX9 ∧ yX9_count.cls ≠ "java/lang/invoke/MethodHandle" ∧ yX9_count.cls ≠ "java/lang/invoke/VarHandle" ∧ (parseMethodDescriptor yX9_count.desc).map (fun d => d.parameters.length) = some 1 := by decide +kernel
noncomputable def f_X9_count (N : Nat) (y1 : Int32) (i_script_size : Int32) (i_net_inputs : Int32) (i_net_gates : Int32) (i_net_paths : Int32) (i_table_madeFor : Int32) (i_acts_size : Int32) (i_sightings_size : Int32) (i_table_levels_links : Int32) (i_table_levels_sureLinks : Int32) (k_now_kinds : (Nat → Int32)) (k_table_sureLinks : (Nat → Int32)) (k_table_risers : (Nat → Int64)) (k_table_fallers : (Nat → Int64)) (k_net_lefts : (Nat → Int32)) (k_net_rights : (Nat → Int32)) (k_net_nexts : (Nat → Int32)) (k_table_captured : (Nat → Int32)) (k_net_links : (Nat → Int32)) (k_net_starts : (Nat → Int32)) (k_now_delays : (Nat → Int32)) (k_table_levels_of : (Nat → Int32)) : Option (Int32 × Int32 × Int32 × Int32 × (Nat → Int32) × (Nat → Int64) × (Nat → Int64) × (Nat → Int32) × (Nat → Int32)) :=
  (if y1 = (0 : Int32) then (some (i_script_size, i_table_madeFor, i_table_levels_links, i_table_levels_sureLinks, k_table_sureLinks, k_table_risers, k_table_fallers, k_table_captured, k_table_levels_of)) else (if y1 = (1 : Int32) then (some (i_net_inputs, i_table_madeFor, i_table_levels_links, i_table_levels_sureLinks, k_table_sureLinks, k_table_risers, k_table_fallers, k_table_captured, k_table_levels_of)) else (if y1 = (2 : Int32) then (some (i_net_gates, i_table_madeFor, i_table_levels_links, i_table_levels_sureLinks, k_table_sureLinks, k_table_risers, k_table_fallers, k_table_captured, k_table_levels_of)) else (if y1 = (3 : Int32) then (some (i_net_paths, i_table_madeFor, i_table_levels_links, i_table_levels_sureLinks, k_table_sureLinks, k_table_risers, k_table_fallers, k_table_captured, k_table_levels_of)) else (if y1 = (4 : Int32) then (obd8 (f_X3_fitTo N i_net_inputs i_net_gates i_net_paths i_table_madeFor k_now_kinds i_table_levels_links i_table_levels_sureLinks k_table_sureLinks k_table_risers k_table_fallers k_net_lefts k_net_rights k_net_nexts k_table_captured k_net_links k_net_starts k_table_levels_of) fun (i_table_madeFor_1 : Int32) (i_table_levels_links_2 : Int32) (i_table_levels_sureLinks_3 : Int32) (k_table_sureLinks_4 : (Nat → Int32)) (k_table_risers_5 : (Nat → Int64)) (k_table_fallers_6 : (Nat → Int64)) (k_table_captured_7 : (Nat → Int32)) (k_table_levels_of_8 : (Nat → Int32)) => obd1 (f_X3_provenPaths N k_table_risers_5 k_table_fallers_6) fun (r_9 : Int32) => some (r_9, i_table_madeFor_1, i_table_levels_links_2, i_table_levels_sureLinks_3, k_table_sureLinks_4, k_table_risers_5, k_table_fallers_6, k_table_captured_7, k_table_levels_of_8)) else (if y1 = (5 : Int32) then (obd1 (f_X5_delaysTogether N i_net_gates k_now_delays) fun (r_10 : Int32) => some (r_10, i_table_madeFor, i_table_levels_links, i_table_levels_sureLinks, k_table_sureLinks, k_table_risers, k_table_fallers, k_table_captured, k_table_levels_of)) else (if y1 = (6 : Int32) then (some (i_acts_size, i_table_madeFor, i_table_levels_links, i_table_levels_sureLinks, k_table_sureLinks, k_table_risers, k_table_fallers, k_table_captured, k_table_levels_of)) else (if y1 = (7 : Int32) then (some (i_sightings_size, i_table_madeFor, i_table_levels_links, i_table_levels_sureLinks, k_table_sureLinks, k_table_risers, k_table_fallers, k_table_captured, k_table_levels_of)) else (if y1 = (8 : Int32) then ((if i_net_inputs ≤ (y1 - (8 : Int32)) then (some ((-9 : Int32), i_table_madeFor, i_table_levels_links, i_table_levels_sureLinks, k_table_sureLinks, k_table_risers, k_table_fallers, k_table_captured, k_table_levels_of)) else (grd (inb (y1 - (8 : Int32)) 4) <| some ((k_net_nexts (y1 - (8 : Int32)).toNatClampNeg), i_table_madeFor, i_table_levels_links, i_table_levels_sureLinks, k_table_sureLinks, k_table_risers, k_table_fallers, k_table_captured, k_table_levels_of)))) else (if y1 = (9 : Int32) then ((if i_net_inputs ≤ (y1 - (8 : Int32)) then (some ((-9 : Int32), i_table_madeFor, i_table_levels_links, i_table_levels_sureLinks, k_table_sureLinks, k_table_risers, k_table_fallers, k_table_captured, k_table_levels_of)) else (grd (inb (y1 - (8 : Int32)) 4) <| some ((k_net_nexts (y1 - (8 : Int32)).toNatClampNeg), i_table_madeFor, i_table_levels_links, i_table_levels_sureLinks, k_table_sureLinks, k_table_risers, k_table_fallers, k_table_captured, k_table_levels_of)))) else (if y1 = (10 : Int32) then ((if i_net_inputs ≤ (y1 - (8 : Int32)) then (some ((-9 : Int32), i_table_madeFor, i_table_levels_links, i_table_levels_sureLinks, k_table_sureLinks, k_table_risers, k_table_fallers, k_table_captured, k_table_levels_of)) else (grd (inb (y1 - (8 : Int32)) 4) <| some ((k_net_nexts (y1 - (8 : Int32)).toNatClampNeg), i_table_madeFor, i_table_levels_links, i_table_levels_sureLinks, k_table_sureLinks, k_table_risers, k_table_fallers, k_table_captured, k_table_levels_of)))) else (if y1 = (11 : Int32) then ((if i_net_inputs ≤ (y1 - (8 : Int32)) then (some ((-9 : Int32), i_table_madeFor, i_table_levels_links, i_table_levels_sureLinks, k_table_sureLinks, k_table_risers, k_table_fallers, k_table_captured, k_table_levels_of)) else (grd (inb (y1 - (8 : Int32)) 4) <| some ((k_net_nexts (y1 - (8 : Int32)).toNatClampNeg), i_table_madeFor, i_table_levels_links, i_table_levels_sureLinks, k_table_sureLinks, k_table_risers, k_table_fallers, k_table_captured, k_table_levels_of)))) else some ((-2 : Int32), i_table_madeFor, i_table_levels_links, i_table_levels_sureLinks, k_table_sureLinks, k_table_risers, k_table_fallers, k_table_captured, k_table_levels_of)))))))))))))
set_option maxHeartbeats 4000000 in
set_option maxRecDepth 100000 in
theorem c_X9_count (l : Launch) (D : va_G) (cI cJ cZ cS : ClassId) (sz N : Nat) (a_this a_script a_net a_now a_table a_acts a_sightings a_table_levels a_now_kinds a_table_sureLinks a_table_risers a_table_fallers a_net_lefts a_net_rights a_net_nexts a_table_captured a_net_links a_net_starts a_now_delays a_table_levels_of a_trial a_slots a_levels a_waves a_spans a_draft a_script_letters a_net_told a_net_sizes a_net_steps a_acts_gates a_acts_turned a_acts_olds a_sightings_pairs a_sightings_times a_sightings_lates : Nat) (i_this_lastDraw : Int64) (i_script_size : Int32) (i_script_at : Int32) (i_net_inputs : Int32) (i_net_gates : Int32) (i_net_paths : Int32) (i_now_held : Int32) (i_table_madeFor : Int32) (i_acts_size : Int32) (i_sightings_size : Int32) (i_table_levels_links : Int32) (i_table_levels_sureLinks : Int32) (k_now_kinds : (Nat → Int32)) (k_table_sureLinks : (Nat → Int32)) (k_table_risers : (Nat → Int64)) (k_table_fallers : (Nat → Int64)) (k_net_lefts : (Nat → Int32)) (k_net_rights : (Nat → Int32)) (k_net_nexts : (Nat → Int32)) (k_table_captured : (Nat → Int32)) (k_net_links : (Nat → Int32)) (k_net_starts : (Nat → Int32)) (k_now_delays : (Nat → Int32)) (k_table_levels_of : (Nat → Int32)) (y1 : Int32) (rr : Int32) (o_table_madeFor : Int32) (o_table_levels_links : Int32) (o_table_levels_sureLinks : Int32) (o_table_sureLinks : (Nat → Int32)) (o_table_risers : (Nat → Int64)) (o_table_fallers : (Nat → Int64)) (o_table_captured : (Nat → Int32)) (o_table_levels_of : (Nat → Int32)) (hf : f_X9_count N y1 i_script_size i_net_inputs i_net_gates i_net_paths i_table_madeFor i_acts_size i_sightings_size i_table_levels_links i_table_levels_sureLinks k_now_kinds k_table_sureLinks k_table_risers k_table_fallers k_net_lefts k_net_rights k_net_nexts k_table_captured k_net_links k_net_starts k_now_delays k_table_levels_of = some (rr, o_table_madeFor, o_table_levels_links, o_table_levels_sureLinks, o_table_sureLinks, o_table_risers, o_table_fallers, o_table_captured, o_table_levels_of)) : MetI l yX9_count wsX9_count rmX9_count D (tyA cI cJ cZ cS) [(a_this, .inr (9, [.ref a_script, .ref a_acts, .ref a_sightings, .ref a_now, .ref a_trial, .ref a_slots, .ref a_levels, .ref a_table, .ref a_waves, .ref a_spans, .ref a_net, .ref a_draft, .long i_this_lastDraw])), (a_script, .inr (4, [.ref a_script_letters, .int i_script_size, .int i_script_at])), (a_net, .inr (2, [.int i_net_inputs, .int i_net_gates, .int i_net_paths, .ref a_net_told, .ref a_net_lefts, .ref a_net_rights, .ref a_net_nexts, .ref a_net_starts, .ref a_net_sizes, .ref a_net_steps, .ref a_net_links])), (a_now, .inr (5, [.ref a_now_kinds, .ref a_now_delays, .int i_now_held])), (a_table, .inr (3, [.ref a_table_levels, .ref a_table_sureLinks, .ref a_table_risers, .ref a_table_fallers, .ref a_table_captured, .int i_table_madeFor])), (a_acts, .inr (0, [.ref a_acts_gates, .ref a_acts_turned, .ref a_acts_olds, .int i_acts_size])), (a_sightings, .inr (6, [.ref a_sightings_pairs, .ref a_sightings_times, .ref a_sightings_lates, .int i_sightings_size])), (a_table_levels, .inr (1, [.ref a_table_levels_of, .int i_table_levels_links, .int i_table_levels_sureLinks])), (a_now_kinds, .inl (cI, 8, .inl k_now_kinds)), (a_table_sureLinks, .inl (cI, 256, .inl k_table_sureLinks)), (a_table_risers, .inl (cJ, 256, .inr (.inl k_table_risers))), (a_table_fallers, .inl (cJ, 256, .inr (.inl k_table_fallers))), (a_net_lefts, .inl (cI, 8, .inl k_net_lefts)), (a_net_rights, .inl (cI, 8, .inl k_net_rights)), (a_net_nexts, .inl (cI, 4, .inl k_net_nexts)), (a_table_captured, .inl (cI, 16, .inl k_table_captured)), (a_net_links, .inl (cI, 55, .inl k_net_links)), (a_net_starts, .inl (cI, 55, .inl k_net_starts)), (a_now_delays, .inl (cI, 8, .inl k_now_delays)), (a_table_levels_of, .inl (cI, 18, .inl k_table_levels_of))] sz [.ref a_this, .int y1] rr [(a_this, .inr (9, [.ref a_script, .ref a_acts, .ref a_sightings, .ref a_now, .ref a_trial, .ref a_slots, .ref a_levels, .ref a_table, .ref a_waves, .ref a_spans, .ref a_net, .ref a_draft, .long i_this_lastDraw])), (a_script, .inr (4, [.ref a_script_letters, .int i_script_size, .int i_script_at])), (a_net, .inr (2, [.int i_net_inputs, .int i_net_gates, .int i_net_paths, .ref a_net_told, .ref a_net_lefts, .ref a_net_rights, .ref a_net_nexts, .ref a_net_starts, .ref a_net_sizes, .ref a_net_steps, .ref a_net_links])), (a_now, .inr (5, [.ref a_now_kinds, .ref a_now_delays, .int i_now_held])), (a_table, .inr (3, [.ref a_table_levels, .ref a_table_sureLinks, .ref a_table_risers, .ref a_table_fallers, .ref a_table_captured, .int o_table_madeFor])), (a_acts, .inr (0, [.ref a_acts_gates, .ref a_acts_turned, .ref a_acts_olds, .int i_acts_size])), (a_sightings, .inr (6, [.ref a_sightings_pairs, .ref a_sightings_times, .ref a_sightings_lates, .int i_sightings_size])), (a_table_levels, .inr (1, [.ref a_table_levels_of, .int o_table_levels_links, .int o_table_levels_sureLinks])), (a_now_kinds, .inl (cI, 8, .inl k_now_kinds)), (a_table_sureLinks, .inl (cI, 256, .inl o_table_sureLinks)), (a_table_risers, .inl (cJ, 256, .inr (.inl o_table_risers))), (a_table_fallers, .inl (cJ, 256, .inr (.inl o_table_fallers))), (a_net_lefts, .inl (cI, 8, .inl k_net_lefts)), (a_net_rights, .inl (cI, 8, .inl k_net_rights)), (a_net_nexts, .inl (cI, 4, .inl k_net_nexts)), (a_table_captured, .inl (cI, 16, .inl o_table_captured)), (a_net_links, .inl (cI, 55, .inl k_net_links)), (a_net_starts, .inl (cI, 55, .inl k_net_starts)), (a_now_delays, .inl (cI, 8, .inl k_now_delays)), (a_table_levels_of, .inl (cI, 18, .inl o_table_levels_of))] := by
  refine entI (cc := cX9_count) (maxL := 2) (own := RX9) (by decide) rfl rfl (Nat.le_of_ble_eq_true rfl) ?_
  intro p e s m args below meth c A ls Q H locs S hr hw hl hQ
  have hx := S.1.1
  have hb := S.1.2.1
  have hts := S.1.2.2.2.2
  have hl : lv_has ls 2 [(0, .ref a_this), (1, .int y1)] := hl
  have hinX9 : ∀ w ∈ u_ws RX9 TX9 13, w ∈ wsX9_count := (fun _ h => List.mem_cons_of_mem _ (List.mem_append_left _ (List.mem_append_left _ (List.mem_append_left _ (List.mem_append_left _ (List.mem_append_left _ (List.mem_append_left _ (List.mem_append_left _ (List.mem_append_right _ h)))))))))
  have F12 : FLk s args wsX9_count RX9 12 RX9 TX9 13 9 0 := ⟨hinX9, rfl, by decide, hts (.fieldLink RX9 12 "SlowPaths" "script" "LSlowPaths$Script;") (List.mem_of_getElem? (i := 1) rfl)⟩
  have F19 : FLk s args wsX9_count RX9 19 RX9 TX9 13 9 1 := ⟨hinX9, rfl, by decide, hts (.fieldLink RX9 19 "SlowPaths" "acts" "LSlowPaths$Acts;") (List.mem_of_getElem? (i := 10) rfl)⟩
  have F26 : FLk s args wsX9_count RX9 26 RX9 TX9 13 9 2 := ⟨hinX9, rfl, by decide, hts (.fieldLink RX9 26 "SlowPaths" "sightings" "LSlowPaths$Sightings;") (List.mem_of_getElem? (i := 12) rfl)⟩
  have F33 : FLk s args wsX9_count RX9 33 RX9 TX9 13 9 3 := ⟨hinX9, rfl, by decide, hts (.fieldLink RX9 33 "SlowPaths" "now" "LSlowPaths$Setting;") (List.mem_of_getElem? (i := 8) rfl)⟩
  have F54 : FLk s args wsX9_count RX9 54 RX9 TX9 13 9 7 := ⟨hinX9, rfl, by decide, hts (.fieldLink RX9 54 "SlowPaths" "table" "LSlowPaths$PairTable;") (List.mem_of_getElem? (i := 7) rfl)⟩
  have F75 : FLk s args wsX9_count RX9 75 RX9 TX9 13 9 10 := ⟨hinX9, rfl, by decide, hts (.fieldLink RX9 75 "SlowPaths" "net" "LSlowPaths$Net;") (List.mem_of_getElem? (i := 3) rfl)⟩
  have hinX4 : ∀ w ∈ u_ws RX4 TX4 3, w ∈ wsX9_count := (fun _ h => List.mem_cons_of_mem _ (List.mem_append_left _ (List.mem_append_left _ (List.mem_append_left _ (List.mem_append_left _ (List.mem_append_left _ (List.mem_append_left _ (List.mem_append_right _ h))))))))
  have F86 : FLk s args wsX9_count RX9 86 RX4 TX4 3 4 1 := ⟨hinX4, rfl, by decide, hts (.fieldLink RX9 86 "SlowPaths$Script" "size" "I") (List.mem_of_getElem? (i := 2) rfl)⟩
  have hinX0 : ∀ w ∈ u_ws RX0 TX0 4, w ∈ wsX9_count := (fun _ h => List.mem_cons_of_mem _ (List.mem_append_left _ (List.mem_append_left _ (List.mem_append_left _ (List.mem_append_right _ h)))))
  have F105 : FLk s args wsX9_count RX9 105 RX0 TX0 4 0 3 := ⟨hinX0, rfl, by decide, hts (.fieldLink RX9 105 "SlowPaths$Acts" "size" "I") (List.mem_of_getElem? (i := 11) rfl)⟩
  have hinX2 : ∀ w ∈ u_ws RX2 TX2 11, w ∈ wsX9_count := (fun _ h => List.mem_cons_of_mem _ (List.mem_append_left _ (List.mem_append_left _ (List.mem_append_left _ (List.mem_append_left _ (List.mem_append_left _ (List.mem_append_right _ h)))))))
  have F113 : FLk s args wsX9_count RX9 113 RX2 TX2 11 2 2 := ⟨hinX2, rfl, by decide, hts (.fieldLink RX9 113 "SlowPaths$Net" "paths" "I") (List.mem_of_getElem? (i := 6) rfl)⟩
  have hinX5 : ∀ w ∈ u_ws RX5 TX5 3, w ∈ wsX9_count := (fun _ h => List.mem_cons_of_mem _ (List.mem_append_left _ (List.mem_append_left _ (List.mem_append_left _ (List.mem_append_left _ (List.mem_append_right _ h))))))
  have F120 : FLk s args wsX9_count RX9 120 RX5 TX5 3 5 0 := ⟨hinX5, rfl, by decide, hts (.fieldLink RX9 120 "SlowPaths$Setting" "kinds" "[I") (List.mem_of_getElem? (i := 9) rfl)⟩
  have F197 : FLk s args wsX9_count RX9 197 RX2 TX2 11 2 1 := ⟨hinX2, rfl, by decide, hts (.fieldLink RX9 197 "SlowPaths$Net" "gates" "I") (List.mem_of_getElem? (i := 5) rfl)⟩
  have hinX6 : ∀ w ∈ u_ws RX6 TX6 4, w ∈ wsX9_count := (fun _ h => List.mem_cons_of_mem _ (List.mem_append_left _ (List.mem_append_left _ (List.mem_append_right _ h))))
  have F219 : FLk s args wsX9_count RX9 219 RX6 TX6 4 6 3 := ⟨hinX6, rfl, by decide, hts (.fieldLink RX9 219 "SlowPaths$Sightings" "size" "I") (List.mem_of_getElem? (i := 13) rfl)⟩
  have F258 : FLk s args wsX9_count RX9 258 RX2 TX2 11 2 0 := ⟨hinX2, rfl, by decide, hts (.fieldLink RX9 258 "SlowPaths$Net" "inputs" "I") (List.mem_of_getElem? (i := 4) rfl)⟩
  have F268 : FLk s args wsX9_count RX9 268 RX2 TX2 11 2 6 := ⟨hinX2, rfl, by decide, hts (.fieldLink RX9 268 "SlowPaths$Net" "nexts" "[I") (List.mem_of_getElem? (i := 14) rfl)⟩
  have h := hf
  rw [f_X9_count] at h
  refine lv_iload_n hx hb dX9_count_0 rfl (lv_at hl 1 rfl) ?_
  by_cases hs0 : y1 = (0 : Int32)
  · replace h := if_t hs0 h
    refine lv_tableIn (off := 63) (tgt := 64) hx hb dX9_count_1 (by rw [hs0]; decide) (by rw [hs0]; decide) (by rw [hs0]; rfl) (by decide) ?_
    refine lv_aload_n hx hb dX9_count_64 rfl (lv_at hl 0 rfl) ?_
    refine z_get S hw F12 0 rfl rfl dX9_count_65 ?_
    refine z_get S hw F86 1 rfl rfl dX9_count_68 ?_
    cases h
    exact z_iret S hQ hr hw [0, 1, 2, 3, 4, 5, 6, 7, 8, 9, 10, 11, 12, 13, 14, 15, 16, 17, 18, 19] rfl rfl dX9_count_71
  replace h := if_f hs0 h
  by_cases hs1 : y1 = (1 : Int32)
  · replace h := if_t hs1 h
    refine lv_tableIn (off := 71) (tgt := 72) hx hb dX9_count_1 (by rw [hs1]; decide) (by rw [hs1]; decide) (by rw [hs1]; rfl) (by decide) ?_
    refine lv_aload_n hx hb dX9_count_72 rfl (lv_at hl 0 rfl) ?_
    refine z_get S hw F75 0 rfl rfl dX9_count_73 ?_
    refine z_get S hw F258 2 rfl rfl dX9_count_76 ?_
    cases h
    exact z_iret S hQ hr hw [0, 1, 2, 3, 4, 5, 6, 7, 8, 9, 10, 11, 12, 13, 14, 15, 16, 17, 18, 19] rfl rfl dX9_count_79
  replace h := if_f hs1 h
  by_cases hs2 : y1 = (2 : Int32)
  · replace h := if_t hs2 h
    refine lv_tableIn (off := 79) (tgt := 80) hx hb dX9_count_1 (by rw [hs2]; decide) (by rw [hs2]; decide) (by rw [hs2]; rfl) (by decide) ?_
    refine lv_aload_n hx hb dX9_count_80 rfl (lv_at hl 0 rfl) ?_
    refine z_get S hw F75 0 rfl rfl dX9_count_81 ?_
    refine z_get S hw F197 2 rfl rfl dX9_count_84 ?_
    cases h
    exact z_iret S hQ hr hw [0, 1, 2, 3, 4, 5, 6, 7, 8, 9, 10, 11, 12, 13, 14, 15, 16, 17, 18, 19] rfl rfl dX9_count_87
  replace h := if_f hs2 h
  by_cases hs3 : y1 = (3 : Int32)
  · replace h := if_t hs3 h
    refine lv_tableIn (off := 87) (tgt := 88) hx hb dX9_count_1 (by rw [hs3]; decide) (by rw [hs3]; decide) (by rw [hs3]; rfl) (by decide) ?_
    refine lv_aload_n hx hb dX9_count_88 rfl (lv_at hl 0 rfl) ?_
    refine z_get S hw F75 0 rfl rfl dX9_count_89 ?_
    refine z_get S hw F113 2 rfl rfl dX9_count_92 ?_
    cases h
    exact z_iret S hQ hr hw [0, 1, 2, 3, 4, 5, 6, 7, 8, 9, 10, 11, 12, 13, 14, 15, 16, 17, 18, 19] rfl rfl dX9_count_95
  replace h := if_f hs3 h
  by_cases hs4 : y1 = (4 : Int32)
  · replace h := if_t hs4 h
    refine lv_tableIn (off := 95) (tgt := 96) hx hb dX9_count_1 (by rw [hs4]; decide) (by rw [hs4]; decide) (by rw [hs4]; rfl) (by decide) ?_
    refine lv_aload_n hx hb dX9_count_96 rfl (lv_at hl 0 rfl) ?_
    refine z_get S hw F54 0 rfl rfl dX9_count_97 ?_
    refine lv_aload_n hx hb dX9_count_100 rfl (lv_at hl 0 rfl) ?_
    refine z_get S hw F75 0 rfl rfl dX9_count_101 ?_
    refine lv_aload_n hx hb dX9_count_104 rfl (lv_at hl 0 rfl) ?_
    refine z_get S hw F33 0 rfl rfl dX9_count_105 ?_
    refine z_get S hw F120 3 rfl rfl dX9_count_108 ?_
    obtain ⟨i_table_madeFor_1, i_table_levels_links_2, i_table_levels_sureLinks_3, k_table_sureLinks_4, k_table_risers_5, k_table_fallers_6, k_table_captured_7, k_table_levels_of_8, e111_1, h⟩ := obd8_el h
    refine zc_VV (As := [.ref a_net, .ref a_now_kinds]) (rest := []) (wr := [(a_this, .inr (9, [.ref a_script, .ref a_acts, .ref a_sightings, .ref a_now, .ref a_trial, .ref a_slots, .ref a_levels, .ref a_table, .ref a_waves, .ref a_spans, .ref a_net, .ref a_draft, .long i_this_lastDraw])), (a_script, .inr (4, [.ref a_script_letters, .int i_script_size, .int i_script_at])), (a_now, .inr (5, [.ref a_now_kinds, .ref a_now_delays, .int i_now_held])), (a_acts, .inr (0, [.ref a_acts_gates, .ref a_acts_turned, .ref a_acts_olds, .int i_acts_size])), (a_sightings, .inr (6, [.ref a_sightings_pairs, .ref a_sightings_times, .ref a_sightings_lates, .int i_sightings_size])), (a_now_delays, .inl (cI, 8, .inl k_now_delays))]) (q0 := 1) S hw (c_X3_fitTo l D cI cJ cZ cS H.size N a_net a_table a_now_kinds a_table_levels a_table_sureLinks a_table_risers a_table_fallers a_net_lefts a_net_rights a_net_nexts a_table_captured a_net_links a_net_starts a_table_levels_of a_net_told a_net_sizes a_net_steps i_net_inputs i_net_gates i_net_paths i_table_madeFor k_now_kinds i_table_levels_links i_table_levels_sureLinks k_table_sureLinks k_table_risers k_table_fallers k_net_lefts k_net_rights k_net_nexts k_table_captured k_net_links k_net_starts k_table_levels_of i_table_madeFor_1 i_table_levels_links_2 i_table_levels_sureLinks_3 k_table_sureLinks_4 k_table_risers_5 k_table_fallers_6 k_table_captured_7 k_table_levels_of_8 e111_1) (cwV 2 hts gX9_count_X3_fitTo rfl rfl rfl dv_X3_fitTo ⟨Nat.le_of_ble_eq_true rfl, Nat.le_of_ble_eq_true rfl⟩) [2, 4, 8, 7, 9, 10, 11, 12, 13, 14, 15, 16, 17, 19] [0, 1, 3, 5, 6, 18] rfl rfl rfl rfl (by decide) rfl rfl rfl rfl hl.1 rfl (Nat.le_of_ble_eq_true rfl) dX9_count_111 ⟨Nat.zero_le _, Nat.zero_le _⟩ (fun H locs hw => ?_)
    refine lv_aload_n hx hb dX9_count_114 rfl (lv_at hl 0 rfl) ?_
    refine z_get S hw F54 0 rfl rfl dX9_count_115 ?_
    obtain ⟨r_9, e118_1, h⟩ := obd1_el h
    refine zr_VI (As := []) (rest := []) (q0 := 0) S hw (c_X3_provenPaths l D cI cJ cZ cS H.size N a_table a_table_risers a_table_fallers a_table_levels a_table_sureLinks a_table_captured i_table_madeFor_1 k_table_risers_5 k_table_fallers_6 r_9 e118_1) (cwV 0 hts gX9_count_X3_provenPaths rfl rfl rfl dv_X3_provenPaths ⟨Nat.le_of_ble_eq_true rfl, Nat.le_of_ble_eq_true rfl⟩) [7, 11, 12] rfl rfl rfl rfl rfl rfl hl.1 rfl (Nat.le_of_ble_eq_true rfl) dX9_count_118 ⟨Nat.zero_le _, Nat.zero_le _⟩ ?_
    cases h
    exact z_iret S hQ hr hw [0, 1, 6, 2, 7, 3, 4, 9, 8, 10, 11, 12, 13, 14, 15, 16, 17, 18, 5, 19] rfl rfl dX9_count_121
  replace h := if_f hs4 h
  by_cases hs5 : y1 = (5 : Int32)
  · replace h := if_t hs5 h
    refine lv_tableIn (off := 121) (tgt := 122) hx hb dX9_count_1 (by rw [hs5]; decide) (by rw [hs5]; decide) (by rw [hs5]; rfl) (by decide) ?_
    refine lv_aload_n hx hb dX9_count_122 rfl (lv_at hl 0 rfl) ?_
    refine z_get S hw F33 0 rfl rfl dX9_count_123 ?_
    refine lv_aload_n hx hb dX9_count_126 rfl (lv_at hl 0 rfl) ?_
    refine z_get S hw F75 0 rfl rfl dX9_count_127 ?_
    obtain ⟨r_10, e130_1, h⟩ := obd1_el h
    refine zr_VI (As := [.ref a_net]) (rest := []) (q0 := 1) S hw (c_X5_delaysTogether l D cI cJ cZ cS H.size N a_net a_now a_now_delays a_net_told a_net_lefts a_net_rights a_net_nexts a_net_starts a_net_sizes a_net_steps a_net_links a_now_kinds i_net_inputs i_net_gates i_net_paths i_now_held k_now_delays r_10 e130_1) (cwV 1 hts gX9_count_X5_delaysTogether rfl rfl rfl dv_X5_delaysTogether ⟨Nat.le_of_ble_eq_true rfl, Nat.le_of_ble_eq_true rfl⟩) [2, 3, 18] rfl rfl rfl rfl rfl rfl hl.1 rfl (Nat.le_of_ble_eq_true rfl) dX9_count_130 ⟨Nat.zero_le _, Nat.zero_le _⟩ ?_
    cases h
    exact z_iret S hQ hr hw [0, 1, 2, 3, 4, 5, 6, 7, 8, 9, 10, 11, 12, 13, 14, 15, 16, 17, 18, 19] rfl rfl dX9_count_133
  replace h := if_f hs5 h
  by_cases hs6 : y1 = (6 : Int32)
  · replace h := if_t hs6 h
    refine lv_tableIn (off := 133) (tgt := 134) hx hb dX9_count_1 (by rw [hs6]; decide) (by rw [hs6]; decide) (by rw [hs6]; rfl) (by decide) ?_
    refine lv_aload_n hx hb dX9_count_134 rfl (lv_at hl 0 rfl) ?_
    refine z_get S hw F19 0 rfl rfl dX9_count_135 ?_
    refine z_get S hw F105 5 rfl rfl dX9_count_138 ?_
    cases h
    exact z_iret S hQ hr hw [0, 1, 2, 3, 4, 5, 6, 7, 8, 9, 10, 11, 12, 13, 14, 15, 16, 17, 18, 19] rfl rfl dX9_count_141
  replace h := if_f hs6 h
  by_cases hs7 : y1 = (7 : Int32)
  · replace h := if_t hs7 h
    refine lv_tableIn (off := 141) (tgt := 142) hx hb dX9_count_1 (by rw [hs7]; decide) (by rw [hs7]; decide) (by rw [hs7]; rfl) (by decide) ?_
    refine lv_aload_n hx hb dX9_count_142 rfl (lv_at hl 0 rfl) ?_
    refine z_get S hw F26 0 rfl rfl dX9_count_143 ?_
    refine z_get S hw F219 6 rfl rfl dX9_count_146 ?_
    cases h
    exact z_iret S hQ hr hw [0, 1, 2, 3, 4, 5, 6, 7, 8, 9, 10, 11, 12, 13, 14, 15, 16, 17, 18, 19] rfl rfl dX9_count_149
  replace h := if_f hs7 h
  by_cases hs8 : y1 = (8 : Int32)
  · replace h := if_t hs8 h
    refine lv_tableIn (off := 149) (tgt := 150) hx hb dX9_count_1 (by rw [hs8]; decide) (by rw [hs8]; decide) (by rw [hs8]; rfl) (by decide) ?_
    refine lv_iload_n hx hb dX9_count_150 rfl (lv_at hl 1 rfl) ?_
    refine lv_bipush (v := (8 : Int32)) hx hb dX9_count_151 (by decide) ?_
    refine lv_isub hx hb dX9_count_153 ?_
    refine lv_aload_n hx hb dX9_count_154 rfl (lv_at hl 0 rfl) ?_
    refine z_get S hw F75 0 rfl rfl dX9_count_155 ?_
    refine z_get S hw F258 2 rfl rfl dX9_count_158 ?_
    refine lv_icmp_ge (tgt := 179) hx hb dX9_count_161 (by decide) (fun hc => ?_) (fun hc => ?_)
    · replace h := if_t hc h
      refine lv_bipush (v := (-9 : Int32)) hx hb dX9_count_179 (by decide) ?_
      cases h
      exact z_iret S hQ hr hw [0, 1, 2, 3, 4, 5, 6, 7, 8, 9, 10, 11, 12, 13, 14, 15, 16, 17, 18, 19] rfl rfl dX9_count_181
    · replace h := if_f hc h
      refine lv_aload_n hx hb dX9_count_164 rfl (lv_at hl 0 rfl) ?_
      refine z_get S hw F75 0 rfl rfl dX9_count_165 ?_
      refine z_get S hw F268 2 rfl rfl dX9_count_168 ?_
      refine lv_iload_n hx hb dX9_count_171 rfl (lv_at hl 1 rfl) ?_
      refine lv_bipush (v := (8 : Int32)) hx hb dX9_count_172 (by decide) ?_
      refine lv_isub hx hb dX9_count_174 ?_
      obtain ⟨hg, h⟩ := grd_el h
      refine z_iald S hw 14 0 rfl rfl hg dX9_count_175 ?_
      refine lv_goto (tgt := 181) hx hb dX9_count_176 (by decide) ?_
      cases h
      exact z_iret S hQ hr hw [0, 1, 2, 3, 4, 5, 6, 7, 8, 9, 10, 11, 12, 13, 14, 15, 16, 17, 18, 19] rfl rfl dX9_count_181
  replace h := if_f hs8 h
  by_cases hs9 : y1 = (9 : Int32)
  · replace h := if_t hs9 h
    refine lv_tableIn (off := 149) (tgt := 150) hx hb dX9_count_1 (by rw [hs9]; decide) (by rw [hs9]; decide) (by rw [hs9]; rfl) (by decide) ?_
    refine lv_iload_n hx hb dX9_count_150 rfl (lv_at hl 1 rfl) ?_
    refine lv_bipush (v := (8 : Int32)) hx hb dX9_count_151 (by decide) ?_
    refine lv_isub hx hb dX9_count_153 ?_
    refine lv_aload_n hx hb dX9_count_154 rfl (lv_at hl 0 rfl) ?_
    refine z_get S hw F75 0 rfl rfl dX9_count_155 ?_
    refine z_get S hw F258 2 rfl rfl dX9_count_158 ?_
    refine lv_icmp_ge (tgt := 179) hx hb dX9_count_161 (by decide) (fun hc => ?_) (fun hc => ?_)
    · replace h := if_t hc h
      refine lv_bipush (v := (-9 : Int32)) hx hb dX9_count_179 (by decide) ?_
      cases h
      exact z_iret S hQ hr hw [0, 1, 2, 3, 4, 5, 6, 7, 8, 9, 10, 11, 12, 13, 14, 15, 16, 17, 18, 19] rfl rfl dX9_count_181
    · replace h := if_f hc h
      refine lv_aload_n hx hb dX9_count_164 rfl (lv_at hl 0 rfl) ?_
      refine z_get S hw F75 0 rfl rfl dX9_count_165 ?_
      refine z_get S hw F268 2 rfl rfl dX9_count_168 ?_
      refine lv_iload_n hx hb dX9_count_171 rfl (lv_at hl 1 rfl) ?_
      refine lv_bipush (v := (8 : Int32)) hx hb dX9_count_172 (by decide) ?_
      refine lv_isub hx hb dX9_count_174 ?_
      obtain ⟨hg, h⟩ := grd_el h
      refine z_iald S hw 14 0 rfl rfl hg dX9_count_175 ?_
      refine lv_goto (tgt := 181) hx hb dX9_count_176 (by decide) ?_
      cases h
      exact z_iret S hQ hr hw [0, 1, 2, 3, 4, 5, 6, 7, 8, 9, 10, 11, 12, 13, 14, 15, 16, 17, 18, 19] rfl rfl dX9_count_181
  replace h := if_f hs9 h
  by_cases hs10 : y1 = (10 : Int32)
  · replace h := if_t hs10 h
    refine lv_tableIn (off := 149) (tgt := 150) hx hb dX9_count_1 (by rw [hs10]; decide) (by rw [hs10]; decide) (by rw [hs10]; rfl) (by decide) ?_
    refine lv_iload_n hx hb dX9_count_150 rfl (lv_at hl 1 rfl) ?_
    refine lv_bipush (v := (8 : Int32)) hx hb dX9_count_151 (by decide) ?_
    refine lv_isub hx hb dX9_count_153 ?_
    refine lv_aload_n hx hb dX9_count_154 rfl (lv_at hl 0 rfl) ?_
    refine z_get S hw F75 0 rfl rfl dX9_count_155 ?_
    refine z_get S hw F258 2 rfl rfl dX9_count_158 ?_
    refine lv_icmp_ge (tgt := 179) hx hb dX9_count_161 (by decide) (fun hc => ?_) (fun hc => ?_)
    · replace h := if_t hc h
      refine lv_bipush (v := (-9 : Int32)) hx hb dX9_count_179 (by decide) ?_
      cases h
      exact z_iret S hQ hr hw [0, 1, 2, 3, 4, 5, 6, 7, 8, 9, 10, 11, 12, 13, 14, 15, 16, 17, 18, 19] rfl rfl dX9_count_181
    · replace h := if_f hc h
      refine lv_aload_n hx hb dX9_count_164 rfl (lv_at hl 0 rfl) ?_
      refine z_get S hw F75 0 rfl rfl dX9_count_165 ?_
      refine z_get S hw F268 2 rfl rfl dX9_count_168 ?_
      refine lv_iload_n hx hb dX9_count_171 rfl (lv_at hl 1 rfl) ?_
      refine lv_bipush (v := (8 : Int32)) hx hb dX9_count_172 (by decide) ?_
      refine lv_isub hx hb dX9_count_174 ?_
      obtain ⟨hg, h⟩ := grd_el h
      refine z_iald S hw 14 0 rfl rfl hg dX9_count_175 ?_
      refine lv_goto (tgt := 181) hx hb dX9_count_176 (by decide) ?_
      cases h
      exact z_iret S hQ hr hw [0, 1, 2, 3, 4, 5, 6, 7, 8, 9, 10, 11, 12, 13, 14, 15, 16, 17, 18, 19] rfl rfl dX9_count_181
  replace h := if_f hs10 h
  by_cases hs11 : y1 = (11 : Int32)
  · replace h := if_t hs11 h
    refine lv_tableIn (off := 149) (tgt := 150) hx hb dX9_count_1 (by rw [hs11]; decide) (by rw [hs11]; decide) (by rw [hs11]; rfl) (by decide) ?_
    refine lv_iload_n hx hb dX9_count_150 rfl (lv_at hl 1 rfl) ?_
    refine lv_bipush (v := (8 : Int32)) hx hb dX9_count_151 (by decide) ?_
    refine lv_isub hx hb dX9_count_153 ?_
    refine lv_aload_n hx hb dX9_count_154 rfl (lv_at hl 0 rfl) ?_
    refine z_get S hw F75 0 rfl rfl dX9_count_155 ?_
    refine z_get S hw F258 2 rfl rfl dX9_count_158 ?_
    refine lv_icmp_ge (tgt := 179) hx hb dX9_count_161 (by decide) (fun hc => ?_) (fun hc => ?_)
    · replace h := if_t hc h
      refine lv_bipush (v := (-9 : Int32)) hx hb dX9_count_179 (by decide) ?_
      cases h
      exact z_iret S hQ hr hw [0, 1, 2, 3, 4, 5, 6, 7, 8, 9, 10, 11, 12, 13, 14, 15, 16, 17, 18, 19] rfl rfl dX9_count_181
    · replace h := if_f hc h
      refine lv_aload_n hx hb dX9_count_164 rfl (lv_at hl 0 rfl) ?_
      refine z_get S hw F75 0 rfl rfl dX9_count_165 ?_
      refine z_get S hw F268 2 rfl rfl dX9_count_168 ?_
      refine lv_iload_n hx hb dX9_count_171 rfl (lv_at hl 1 rfl) ?_
      refine lv_bipush (v := (8 : Int32)) hx hb dX9_count_172 (by decide) ?_
      refine lv_isub hx hb dX9_count_174 ?_
      obtain ⟨hg, h⟩ := grd_el h
      refine z_iald S hw 14 0 rfl rfl hg dX9_count_175 ?_
      refine lv_goto (tgt := 181) hx hb dX9_count_176 (by decide) ?_
      cases h
      exact z_iret S hQ hr hw [0, 1, 2, 3, 4, 5, 6, 7, 8, 9, 10, 11, 12, 13, 14, 15, 16, 17, 18, 19] rfl rfl dX9_count_181
  replace h := if_f hs11 h
  refine lv_tableOut (tgt := 182) hx hb dX9_count_1 (tb_out (fun j h1 h2 => ?_)) (by decide) ?_
  · rcases (show j = 0 ∨ j = 1 ∨ j = 2 ∨ j = 3 ∨ j = 4 ∨ j = 5 ∨ j = 6 ∨ j = 7 ∨ j = 8 ∨ j = 9 ∨ j = 10 ∨ j = 11 by omega) with rfl | rfl | rfl | rfl | rfl | rfl | rfl | rfl | rfl | rfl | rfl | rfl
    · exact fun he => hs0 (he.trans (by decide))
    · exact fun he => hs1 (he.trans (by decide))
    · exact fun he => hs2 (he.trans (by decide))
    · exact fun he => hs3 (he.trans (by decide))
    · exact fun he => hs4 (he.trans (by decide))
    · exact fun he => hs5 (he.trans (by decide))
    · exact fun he => hs6 (he.trans (by decide))
    · exact fun he => hs7 (he.trans (by decide))
    · exact fun he => hs8 (he.trans (by decide))
    · exact fun he => hs9 (he.trans (by decide))
    · exact fun he => hs10 (he.trans (by decide))
    · exact fun he => hs11 (he.trans (by decide))
  refine lv_bipush (v := (-2 : Int32)) hx hb dX9_count_182 (by decide) ?_
  cases h
  exact z_iret S hQ hr hw [0, 1, 2, 3, 4, 5, 6, 7, 8, 9, 10, 11, 12, 13, 14, 15, 16, 17, 18, 19] rfl rfl dX9_count_184
abbrev rmX10_in : Room := { frames := 0, cells := 0, slots := 0, locals := 0 }
theorem ds_X10_in : yX10_in.cls ≠ "java/lang/invoke/MethodHandle" ∧ yX10_in.cls ≠ "java/lang/invoke/VarHandle" ∧ (parseMethodDescriptor yX10_in.desc).map (fun d => d.parameters.length) = some 3 := by decide +kernel
noncomputable def f_X10_in (N : Nat) (y0 : Int64) (y1 : Int64) (y2 : Int64)  : Option (Int32) :=
  bnd (α := Option (Int32)) (some ((0 : Int32))) fun (j17_1 : Option (Int32)) => (if (lg_cmp y0 y1) < (0 : Int32) then (j17_1) else ((if (0 : Int32) < (lg_cmp y0 y2) then (j17_1) else (some ((1 : Int32))))))
set_option maxHeartbeats 4000000 in
set_option maxRecDepth 100000 in
theorem c_X10_in (l : Launch) (D : va_G) (cI cJ cZ cS : ClassId) (sz N : Nat)   (y0 : Int64) (y1 : Int64) (y2 : Int64) (rr : Int32) (hf : f_X10_in N y0 y1 y2 = some (rr)) : MetIr l yX10_in wsX10_in rmX10_in D (tyA cI cJ cZ cS) [] sz [.long y0, .long y1, .long y2] rr := by
  refine entZr (cc := cX10_in) (maxL := 6) (own := RX10) (by decide) rfl rfl (Nat.le_of_ble_eq_true rfl) ?_
  intro p e s m args below meth c A ls Q S hr hw hl hQ
  have hx := S.1.1
  have hb := S.1.2.1
  have hts := S.1.2.2.2.2
  have hl : lv_has ls 6 [(0, .long y0), (2, .long y1), (4, .long y2)] := hl
  have h := hf
  rw [f_X10_in] at h
  refine lv_lload_n hx hb dX10_in_0 rfl (lv_at hl 0 rfl) ?_
  refine lv_lload_n hx hb dX10_in_1 rfl (lv_at hl 1 rfl) ?_
  refine W.lcmp hx hb dX10_in_2 ?_
  obtain ⟨j17_1, ej17_1, h⟩ := bnd_ex h
  have hj17_1 : ∀ (ls : Array Slot), j17_1 = some (rr) → lv_has ls 6 [] → W p l e rmX10_in s m args below meth c s.heap [] 0 0 Q (F0 m 17 ls []) := by
    intro ls h hl
    replace h := ap0 ej17_1 h
    refine lv_iconst (v := (0 : Int32)) hx hb dX10_in_17 (by decide) ?_
    cases h
    exact z_zretr S hQ hr rfl dX10_in_18
  refine lv_if_lt (tgt := 17) hx hb dX10_in_3 (by decide) (fun hc => ?_) (fun hc => ?_)
  · replace h := if_t hc h
    exact hj17_1  ls h (lv_sub hl [] rfl)
  · replace h := if_f hc h
    refine lv_lload_n hx hb dX10_in_6 rfl (lv_at hl 0 rfl) ?_
    refine lv_lload hx hb dX10_in_7 (lv_at hl 2 rfl) ?_
    refine W.lcmp hx hb dX10_in_9 ?_
    refine lv_if_gt (tgt := 17) hx hb dX10_in_10 (by decide) (fun hc => ?_) (fun hc => ?_)
    · replace h := if_t hc h
      exact hj17_1  ls h (lv_sub hl [] rfl)
    · replace h := if_f hc h
      refine lv_iconst (v := (1 : Int32)) hx hb dX10_in_13 (by decide) ?_
      refine lv_goto (tgt := 18) hx hb dX10_in_14 (by decide) ?_
      cases h
      exact z_zretr S hQ hr rfl dX10_in_18
abbrev rmX10_has : Room := { frames := 0, cells := 0, slots := 0, locals := 0 }
theorem ds_X10_has : yX10_has.cls ≠ "java/lang/invoke/MethodHandle" ∧ yX10_has.cls ≠ "java/lang/invoke/VarHandle" ∧ (parseMethodDescriptor yX10_has.desc).map (fun d => d.parameters.length) = some 2 := by decide +kernel
noncomputable def f_X10_has (N : Nat) (y0 : Int32) (y1 : Int32)  : Option (Int32) :=
  (if ((y0 >>> (y1 &&& 31)) &&& (1 : Int32)) = (1 : Int32) then (some ((1 : Int32))) else (some ((0 : Int32))))
set_option maxHeartbeats 4000000 in
set_option maxRecDepth 100000 in
theorem c_X10_has (l : Launch) (D : va_G) (cI cJ cZ cS : ClassId) (sz N : Nat)   (y0 : Int32) (y1 : Int32) (rr : Int32) (hf : f_X10_has N y0 y1 = some (rr)) : MetIr l yX10_has wsX10_has rmX10_has D (tyA cI cJ cZ cS) [] sz [.int y0, .int y1] rr := by
  refine entZr (cc := cX10_has) (maxL := 2) (own := RX10) (by decide) rfl rfl (Nat.le_of_ble_eq_true rfl) ?_
  intro p e s m args below meth c A ls Q S hr hw hl hQ
  have hx := S.1.1
  have hb := S.1.2.1
  have hts := S.1.2.2.2.2
  have hl : lv_has ls 2 [(0, .int y0), (1, .int y1)] := hl
  have h := hf
  rw [f_X10_has] at h
  refine lv_iload_n hx hb dX10_has_0 rfl (lv_at hl 0 rfl) ?_
  refine lv_iload_n hx hb dX10_has_1 rfl (lv_at hl 1 rfl) ?_
  refine lv_ishr hx hb dX10_has_2 ?_
  refine lv_iconst (v := (1 : Int32)) hx hb dX10_has_3 (by decide) ?_
  refine lv_iand hx hb dX10_has_4 ?_
  refine lv_iconst (v := (1 : Int32)) hx hb dX10_has_5 (by decide) ?_
  refine lv_icmp_ne (tgt := 13) hx hb dX10_has_6 (by decide) (fun hc => ?_) (fun hc => ?_)
  · replace h := if_f hc h
    refine lv_iconst (v := (0 : Int32)) hx hb dX10_has_13 (by decide) ?_
    cases h
    exact z_zretr S hQ hr rfl dX10_has_14
  · replace h := if_t hc h
    refine lv_iconst (v := (1 : Int32)) hx hb dX10_has_9 (by decide) ?_
    refine lv_goto (tgt := 14) hx hb dX10_has_10 (by decide) ?_
    cases h
    exact z_zretr S hQ hr rfl dX10_has_14
abbrev rmX10_ones : Room := { frames := 0, cells := 0, slots := 0, locals := 0 }
theorem ds_X10_ones : yX10_ones.cls ≠ "java/lang/invoke/MethodHandle" ∧ yX10_ones.cls ≠ "java/lang/invoke/VarHandle" ∧ (parseMethodDescriptor yX10_ones.desc).map (fun d => d.parameters.length) = some 1 := by decide +kernel
noncomputable def f_X10_ones_L4 (N : Nat) (y0 : Int32) (j24_1 : Int32 → Option (Int32)) : Nat → Int32 → Int32 → Option (Int32)
  | 0, _, _ => none
  | n_4 + 1, x1_2, x2_3 =>
    (if (8 : Int32) ≤ x2_3 then (j24_1 x1_2) else (bnd ((x1_2 + ((y0 >>> (x2_3 &&& 31)) &&& (1 : Int32)))) fun (x1_4 : Int32) => bnd (x2_3 + (1 : Int32)) fun (x2_5 : Int32) => f_X10_ones_L4 N y0 j24_1 n_4 x1_4 x2_5))
noncomputable def f_X10_ones (N : Nat) (y0 : Int32)  : Option (Int32) :=
  bnd (fun (x1_1 : Int32) => (some (x1_1))) fun (j24_1 : Int32 → Option (Int32)) => f_X10_ones_L4 N y0 j24_1 N ((0 : Int32)) ((0 : Int32))
set_option maxHeartbeats 4000000 in
set_option maxRecDepth 100000 in
theorem c_X10_ones (l : Launch) (D : va_G) (cI cJ cZ cS : ClassId) (sz N : Nat)   (y0 : Int32) (rr : Int32) (hf : f_X10_ones N y0 = some (rr)) : MetIr l yX10_ones wsX10_ones rmX10_ones D (tyA cI cJ cZ cS) [] sz [.int y0] rr := by
  refine entIr (cc := cX10_ones) (maxL := 3) (own := RX10) (by decide) rfl rfl (Nat.le_of_ble_eq_true rfl) ?_
  intro p e s m args below meth c A ls Q S hr hw hl hQ
  have hx := S.1.1
  have hb := S.1.2.1
  have hts := S.1.2.2.2.2
  have hl : lv_has ls 3 [(0, .int y0)] := hl
  have h := hf
  rw [f_X10_ones] at h
  refine lv_iconst (v := (0 : Int32)) hx hb dX10_ones_0 (by decide) ?_
  refine lv_istore_n (lv' := [(1, .int (0 : Int32)), (0, .int y0)]) hx hb dX10_ones_1 rfl hl (by decide) rfl (fun ls hl => ?_)
  refine lv_iconst (v := (0 : Int32)) hx hb dX10_ones_2 (by decide) ?_
  refine lv_istore_n (lv' := [(2, .int (0 : Int32)), (1, .int (0 : Int32)), (0, .int y0)]) hx hb dX10_ones_3 rfl hl (by decide) rfl (fun ls hl => ?_)
  obtain ⟨j24_1, ej24_1, h⟩ := bnd_ex h
  have hj24_1 : ∀ (x1_1 : Int32) (ls : Array Slot), j24_1 x1_1 = some (rr) → lv_has ls 3 [(1, .int x1_1)] → W p l e rmX10_ones s m args below meth c s.heap [] 0 0 Q (F0 m 24 ls []) := by
    intro x1_1 ls h hl
    replace h := ap1 ej24_1 h
    refine lv_iload_n hx hb dX10_ones_24 rfl (lv_at hl 0 rfl) ?_
    cases h
    exact z_iretr S hQ hr dX10_ones_25
  have hL4_1 : ∀ (nf : Nat) (x1_2 : Int32) (x2_3 : Int32) (ls : Array Slot), f_X10_ones_L4 N y0 j24_1 nf x1_2 x2_3 = some (rr) → lv_has ls 3 [(0, .int y0), (1, .int x1_2), (2, .int x2_3)] → W p l e rmX10_ones s m args below meth c s.heap [] 0 0 Q (F0 m 4 ls []) := by
    intro nf
    induction nf with
    | zero =>
      intro x1_2 x2_3 ls h
      rw [f_X10_ones_L4] at h
      cases h
    | succ n_4 ih_4 =>
      intro x1_2 x2_3 ls h hl
      rw [f_X10_ones_L4] at h
      refine lv_iload_n hx hb dX10_ones_4 rfl (lv_at hl 2 rfl) ?_
      refine lv_bipush (v := (8 : Int32)) hx hb dX10_ones_5 (by decide) ?_
      refine lv_icmp_ge (tgt := 24) hx hb dX10_ones_7 (by decide) (fun hc => ?_) (fun hc => ?_)
      · replace h := if_t hc h
        exact hj24_1 x1_2 ls h (lv_sub hl [1] rfl)
      · replace h := if_f hc h
        refine lv_iload_n hx hb dX10_ones_10 rfl (lv_at hl 1 rfl) ?_
        refine lv_iload_n hx hb dX10_ones_11 rfl (lv_at hl 0 rfl) ?_
        refine lv_iload_n hx hb dX10_ones_12 rfl (lv_at hl 2 rfl) ?_
        refine lv_ishr hx hb dX10_ones_13 ?_
        refine lv_iconst (v := (1 : Int32)) hx hb dX10_ones_14 (by decide) ?_
        refine lv_iand hx hb dX10_ones_15 ?_
        refine lv_iadd hx hb dX10_ones_16 ?_
        refine lv_topi (fun x1_4 ex1_4 => ?_)
        replace h := bnd_at ex1_4 h
        refine lv_istore_n (lv' := [(1, .int x1_4), (0, .int y0), (2, .int x2_3)]) hx hb dX10_ones_17 rfl hl (by decide) rfl (fun ls hl => ?_)
        obtain ⟨x2_5, ex2_5, h⟩ := bnd_ex h
        refine lv_iinc (v := x2_5) (lv' := [(2, .int x2_5), (1, .int x1_4), (0, .int y0)]) hx hb dX10_ones_18 hl (k := 2) rfl (by rw [ex2_5]; rfl) (by decide) rfl (fun ls hl => ?_)
        refine lv_goto (tgt := 4) hx hb dX10_ones_21 (by decide) ?_
        exact ih_4 x1_4 x2_5 ls h (lv_sub hl [2, 1, 0] rfl)
  exact hL4_1 N ((0 : Int32)) ((0 : Int32)) ls h (lv_sub hl [2, 1, 0] rfl)
