abbrev rmX9_best : Room := { frames := 5, cells := 0, slots := 0, locals := 121 }
theorem dv_X9_best : yX9_best.cls = RX9 ∧ yX9_best.cls ≠ "java/lang/invoke/MethodHandle" ∧ yX9_best.cls ≠ "java/lang/invoke/VarHandle" ∧ (parseMethodDescriptor yX9_best.desc).map (fun d => d.parameters.length) = some 4 := by decide +kernel
noncomputable def f_X9_best_L73 (N : Nat) (y1 : Int32) (y2 : Int32) (y3 : Int32) (i_net_inputs : Int32) (k_table_risers_6 : (Nat → Int64)) (k_table_fallers_7 : (Nat → Int64)) (k_table_captured_8 : (Nat → Int32)) (j135_1 : Int32 → Int32 → Option (Int32 × Int32 × Int32 × Int32 × (Nat → Int32) × (Nat → Int64) × (Nat → Int64) × (Nat → Int32) × (Nat → Int32))) : Nat → Int32 → Int32 → Int32 → Option (Int32 × Int32 × Int32 × Int32 × (Nat → Int32) × (Nat → Int64) × (Nat → Int64) × (Nat → Int32) × (Nat → Int32))
  | 0, _, _, _ => none
  | n_73 + 1, x5_12, x6_13, x7_14 =>
    (if (256 : Int32) ≤ x7_14 then (j135_1 x5_12 x6_13) else (obd1 (f_X3_provesPath N x7_14 y1 y2 k_table_fallers_7 k_table_risers_6) fun (r_15 : Int32) => bnd (fun (x5_16 : Int32) (x6_17 : Int32) => (bnd (x7_14 + (1 : Int32)) fun (x7_18 : Int32) => f_X9_best_L73 N y1 y2 y3 i_net_inputs k_table_risers_6 k_table_fallers_7 k_table_captured_8 j135_1 n_73 x5_16 x6_17 x7_18)) fun (j129_1 : Int32 → Int32 → Option (Int32 × Int32 × Int32 × Int32 × (Nat → Int32) × (Nat → Int64) × (Nat → Int64) × (Nat → Int32) × (Nat → Int32))) => (if r_15 = (0 : Int32) then (j129_1 x5_12 x6_13) else (obd1 (f_X3_isLaunched N y3 x7_14 i_net_inputs k_table_captured_8) fun (r_19 : Int32) => (if r_19 = (0 : Int32) then (j129_1 x5_12 x6_13) else (bnd (fun (t_20 : Int32) => (bnd (x6_13 + (1 : Int32)) fun (x6_21 : Int32) => j129_1 t_20 x6_21)) fun (j124_1 : Int32 → Option (Int32 × Int32 × Int32 × Int32 × (Nat → Int32) × (Nat → Int64) × (Nat → Int64) × (Nat → Int32) × (Nat → Int32))) => (if x6_13 = (0 : Int32) then (j124_1 x7_14) else (j124_1 x5_12))))))))
noncomputable def f_X9_best (N : Nat) (y1 : Int32) (y2 : Int32) (y3 : Int32) (y4 : Int32) (i_net_inputs : Int32) (i_net_gates : Int32) (i_net_paths : Int32) (i_table_madeFor : Int32) (i_table_levels_links : Int32) (i_table_levels_sureLinks : Int32) (k_now_kinds : (Nat → Int32)) (k_table_sureLinks : (Nat → Int32)) (k_table_risers : (Nat → Int64)) (k_table_fallers : (Nat → Int64)) (k_net_lefts : (Nat → Int32)) (k_net_rights : (Nat → Int32)) (k_net_nexts : (Nat → Int32)) (k_table_captured : (Nat → Int32)) (k_net_links : (Nat → Int32)) (k_net_starts : (Nat → Int32)) (k_table_levels_of : (Nat → Int32)) : Option (Int32 × Int32 × Int32 × Int32 × (Nat → Int32) × (Nat → Int64) × (Nat → Int64) × (Nat → Int32) × (Nat → Int32)) :=
  obd1 (f_X2_hasPath N y1 i_net_paths) fun (r_1 : Int32) => (if r_1 = (0 : Int32) then (some ((-1 : Int32), i_table_madeFor, i_table_levels_links, i_table_levels_sureLinks, k_table_sureLinks, k_table_risers, k_table_fallers, k_table_captured, k_table_levels_of)) else ((if y2 < (0 : Int32) then (some ((-2 : Int32), i_table_madeFor, i_table_levels_links, i_table_levels_sureLinks, k_table_sureLinks, k_table_risers, k_table_fallers, k_table_captured, k_table_levels_of)) else ((if (1 : Int32) < y2 then (some ((-2 : Int32), i_table_madeFor, i_table_levels_links, i_table_levels_sureLinks, k_table_sureLinks, k_table_risers, k_table_fallers, k_table_captured, k_table_levels_of)) else ((if y3 < (0 : Int32) then (some ((-2 : Int32), i_table_madeFor, i_table_levels_links, i_table_levels_sureLinks, k_table_sureLinks, k_table_risers, k_table_fallers, k_table_captured, k_table_levels_of)) else ((if (2 : Int32) < y3 then (some ((-2 : Int32), i_table_madeFor, i_table_levels_links, i_table_levels_sureLinks, k_table_sureLinks, k_table_risers, k_table_fallers, k_table_captured, k_table_levels_of)) else ((if y4 < (0 : Int32) then (some ((-2 : Int32), i_table_madeFor, i_table_levels_links, i_table_levels_sureLinks, k_table_sureLinks, k_table_risers, k_table_fallers, k_table_captured, k_table_levels_of)) else ((if y4 ≤ (1 : Int32) then (obd8 (f_X3_fitTo N i_net_inputs i_net_gates i_net_paths i_table_madeFor k_now_kinds i_table_levels_links i_table_levels_sureLinks k_table_sureLinks k_table_risers k_table_fallers k_net_lefts k_net_rights k_net_nexts k_table_captured k_net_links k_net_starts k_table_levels_of) fun (i_table_madeFor_2 : Int32) (i_table_levels_links_3 : Int32) (i_table_levels_sureLinks_4 : Int32) (k_table_sureLinks_5 : (Nat → Int32)) (k_table_risers_6 : (Nat → Int64)) (k_table_fallers_7 : (Nat → Int64)) (k_table_captured_8 : (Nat → Int32)) (k_table_levels_of_9 : (Nat → Int32)) => bnd (fun (x5_10 : Int32) (x6_11 : Int32) => ((if y4 = (0 : Int32) then (some (x5_10, i_table_madeFor_2, i_table_levels_links_3, i_table_levels_sureLinks_4, k_table_sureLinks_5, k_table_risers_6, k_table_fallers_7, k_table_captured_8, k_table_levels_of_9)) else (some (x6_11, i_table_madeFor_2, i_table_levels_links_3, i_table_levels_sureLinks_4, k_table_sureLinks_5, k_table_risers_6, k_table_fallers_7, k_table_captured_8, k_table_levels_of_9))))) fun (j135_1 : Int32 → Int32 → Option (Int32 × Int32 × Int32 × Int32 × (Nat → Int32) × (Nat → Int64) × (Nat → Int64) × (Nat → Int32) × (Nat → Int32))) => f_X9_best_L73 N y1 y2 y3 i_net_inputs k_table_risers_6 k_table_fallers_7 k_table_captured_8 j135_1 N ((-9 : Int32)) ((0 : Int32)) ((0 : Int32))) else (some ((-2 : Int32), i_table_madeFor, i_table_levels_links, i_table_levels_sureLinks, k_table_sureLinks, k_table_risers, k_table_fallers, k_table_captured, k_table_levels_of)))))))))))))))
set_option maxHeartbeats 4000000 in
set_option maxRecDepth 100000 in
theorem c_X9_best (l : Launch) (D : va_G) (cI cJ cZ cS : ClassId) (sz N : Nat) (a_this a_net a_now a_table a_table_levels a_now_kinds a_table_sureLinks a_table_risers a_table_fallers a_net_lefts a_net_rights a_net_nexts a_table_captured a_net_links a_net_starts a_table_levels_of a_script a_acts a_sightings a_trial a_slots a_levels a_waves a_spans a_draft a_net_told a_net_sizes a_net_steps a_now_delays : Nat) (i_this_lastDraw : Int64) (i_net_inputs : Int32) (i_net_gates : Int32) (i_net_paths : Int32) (i_now_held : Int32) (i_table_madeFor : Int32) (i_table_levels_links : Int32) (i_table_levels_sureLinks : Int32) (k_now_kinds : (Nat → Int32)) (k_table_sureLinks : (Nat → Int32)) (k_table_risers : (Nat → Int64)) (k_table_fallers : (Nat → Int64)) (k_net_lefts : (Nat → Int32)) (k_net_rights : (Nat → Int32)) (k_net_nexts : (Nat → Int32)) (k_table_captured : (Nat → Int32)) (k_net_links : (Nat → Int32)) (k_net_starts : (Nat → Int32)) (k_table_levels_of : (Nat → Int32)) (y1 : Int32) (y2 : Int32) (y3 : Int32) (y4 : Int32) (rr : Int32) (o_table_madeFor : Int32) (o_table_levels_links : Int32) (o_table_levels_sureLinks : Int32) (o_table_sureLinks : (Nat → Int32)) (o_table_risers : (Nat → Int64)) (o_table_fallers : (Nat → Int64)) (o_table_captured : (Nat → Int32)) (o_table_levels_of : (Nat → Int32)) (hf : f_X9_best N y1 y2 y3 y4 i_net_inputs i_net_gates i_net_paths i_table_madeFor i_table_levels_links i_table_levels_sureLinks k_now_kinds k_table_sureLinks k_table_risers k_table_fallers k_net_lefts k_net_rights k_net_nexts k_table_captured k_net_links k_net_starts k_table_levels_of = some (rr, o_table_madeFor, o_table_levels_links, o_table_levels_sureLinks, o_table_sureLinks, o_table_risers, o_table_fallers, o_table_captured, o_table_levels_of)) : MetI l yX9_best wsX9_best rmX9_best D (tyA cI cJ cZ cS) [(a_this, .inr (9, [.ref a_script, .ref a_acts, .ref a_sightings, .ref a_now, .ref a_trial, .ref a_slots, .ref a_levels, .ref a_table, .ref a_waves, .ref a_spans, .ref a_net, .ref a_draft, .long i_this_lastDraw])), (a_net, .inr (2, [.int i_net_inputs, .int i_net_gates, .int i_net_paths, .ref a_net_told, .ref a_net_lefts, .ref a_net_rights, .ref a_net_nexts, .ref a_net_starts, .ref a_net_sizes, .ref a_net_steps, .ref a_net_links])), (a_now, .inr (5, [.ref a_now_kinds, .ref a_now_delays, .int i_now_held])), (a_table, .inr (3, [.ref a_table_levels, .ref a_table_sureLinks, .ref a_table_risers, .ref a_table_fallers, .ref a_table_captured, .int i_table_madeFor])), (a_table_levels, .inr (1, [.ref a_table_levels_of, .int i_table_levels_links, .int i_table_levels_sureLinks])), (a_now_kinds, .inl (cI, 8, .inl k_now_kinds)), (a_table_sureLinks, .inl (cI, 256, .inl k_table_sureLinks)), (a_table_risers, .inl (cJ, 256, .inr (.inl k_table_risers))), (a_table_fallers, .inl (cJ, 256, .inr (.inl k_table_fallers))), (a_net_lefts, .inl (cI, 8, .inl k_net_lefts)), (a_net_rights, .inl (cI, 8, .inl k_net_rights)), (a_net_nexts, .inl (cI, 4, .inl k_net_nexts)), (a_table_captured, .inl (cI, 16, .inl k_table_captured)), (a_net_links, .inl (cI, 55, .inl k_net_links)), (a_net_starts, .inl (cI, 55, .inl k_net_starts)), (a_table_levels_of, .inl (cI, 18, .inl k_table_levels_of))] sz [.ref a_this, .int y1, .int y2, .int y3, .int y4] rr [(a_this, .inr (9, [.ref a_script, .ref a_acts, .ref a_sightings, .ref a_now, .ref a_trial, .ref a_slots, .ref a_levels, .ref a_table, .ref a_waves, .ref a_spans, .ref a_net, .ref a_draft, .long i_this_lastDraw])), (a_net, .inr (2, [.int i_net_inputs, .int i_net_gates, .int i_net_paths, .ref a_net_told, .ref a_net_lefts, .ref a_net_rights, .ref a_net_nexts, .ref a_net_starts, .ref a_net_sizes, .ref a_net_steps, .ref a_net_links])), (a_now, .inr (5, [.ref a_now_kinds, .ref a_now_delays, .int i_now_held])), (a_table, .inr (3, [.ref a_table_levels, .ref a_table_sureLinks, .ref a_table_risers, .ref a_table_fallers, .ref a_table_captured, .int o_table_madeFor])), (a_table_levels, .inr (1, [.ref a_table_levels_of, .int o_table_levels_links, .int o_table_levels_sureLinks])), (a_now_kinds, .inl (cI, 8, .inl k_now_kinds)), (a_table_sureLinks, .inl (cI, 256, .inl o_table_sureLinks)), (a_table_risers, .inl (cJ, 256, .inr (.inl o_table_risers))), (a_table_fallers, .inl (cJ, 256, .inr (.inl o_table_fallers))), (a_net_lefts, .inl (cI, 8, .inl k_net_lefts)), (a_net_rights, .inl (cI, 8, .inl k_net_rights)), (a_net_nexts, .inl (cI, 4, .inl k_net_nexts)), (a_table_captured, .inl (cI, 16, .inl o_table_captured)), (a_net_links, .inl (cI, 55, .inl k_net_links)), (a_net_starts, .inl (cI, 55, .inl k_net_starts)), (a_table_levels_of, .inl (cI, 18, .inl o_table_levels_of))] := by
  refine entI (cc := cX9_best) (maxL := 8) (own := RX9) (by decide) rfl rfl (Nat.le_of_ble_eq_true rfl) ?_
  intro p e s m args below meth c A ls Q H locs S hr hw hl hQ
  have hx := S.1.1
  have hb := S.1.2.1
  have hts := S.1.2.2.2.2
  have hl : lv_has ls 8 [(0, .ref a_this), (1, .int y1), (2, .int y2), (3, .int y3), (4, .int y4)] := hl
  have hinX9 : ∀ w ∈ u_ws RX9 TX9 13, w ∈ wsX9_best := (fun _ h => List.mem_cons_of_mem _ (List.mem_append_left _ (List.mem_append_left _ (List.mem_append_left _ (List.mem_append_left _ (List.mem_append_right _ h))))))
  have F33 : FLk s args wsX9_best RX9 33 RX9 TX9 13 9 3 := ⟨hinX9, rfl, by decide, hts (.fieldLink RX9 33 "SlowPaths" "now" "LSlowPaths$Setting;") (List.mem_of_getElem? (i := 3) rfl)⟩
  have F54 : FLk s args wsX9_best RX9 54 RX9 TX9 13 9 7 := ⟨hinX9, rfl, by decide, hts (.fieldLink RX9 54 "SlowPaths" "table" "LSlowPaths$PairTable;") (List.mem_of_getElem? (i := 2) rfl)⟩
  have F75 : FLk s args wsX9_best RX9 75 RX9 TX9 13 9 10 := ⟨hinX9, rfl, by decide, hts (.fieldLink RX9 75 "SlowPaths" "net" "LSlowPaths$Net;") (List.mem_of_getElem? (i := 1) rfl)⟩
  have hinX5 : ∀ w ∈ u_ws RX5 TX5 3, w ∈ wsX9_best := (fun _ h => List.mem_cons_of_mem _ (List.mem_append_left _ (List.mem_append_left _ (List.mem_append_left _ (List.mem_append_right _ h)))))
  have F120 : FLk s args wsX9_best RX9 120 RX5 TX5 3 5 0 := ⟨hinX5, rfl, by decide, hts (.fieldLink RX9 120 "SlowPaths$Setting" "kinds" "[I") (List.mem_of_getElem? (i := 4) rfl)⟩
  have h := hf
  rw [f_X9_best] at h
  refine lv_aload_n hx hb dX9_best_0 rfl (lv_at hl 0 rfl) ?_
  refine z_get S hw F75 0 rfl rfl dX9_best_1 ?_
  refine lv_iload_n hx hb dX9_best_4 rfl (lv_at hl 1 rfl) ?_
  obtain ⟨r_1, e5_1, h⟩ := obd1_el h
  refine zr_VI (As := [.int y1]) (rest := []) (q0 := 0) S hw (c_X2_hasPath l D cI cJ cZ cS H.size N a_net a_net_told a_net_lefts a_net_rights a_net_nexts a_net_starts a_net_sizes a_net_steps a_net_links i_net_inputs i_net_gates i_net_paths y1 r_1 e5_1) (cwV 1 hts gX9_best_X2_hasPath rfl rfl rfl dv_X2_hasPath ⟨Nat.le_of_ble_eq_true rfl, Nat.le_of_ble_eq_true rfl⟩) [1] rfl rfl rfl rfl rfl rfl hl.1 rfl (Nat.le_of_ble_eq_true rfl) dX9_best_5 ⟨Nat.zero_le _, Nat.zero_le _⟩ ?_
  refine lv_if_ne (tgt := 13) hx hb dX9_best_8 (by decide) (fun hc => ?_) (fun hc => ?_)
  · replace h := if_f hc h
    refine lv_iload_n hx hb dX9_best_13 rfl (lv_at hl 2 rfl) ?_
    refine lv_if_lt (tgt := 42) hx hb dX9_best_14 (by decide) (fun hc => ?_) (fun hc => ?_)
    · replace h := if_t hc h
      refine lv_bipush (v := (-2 : Int32)) hx hb dX9_best_42 (by decide) ?_
      cases h
      exact z_iret S hQ hr hw [0, 1, 2, 3, 4, 5, 6, 7, 8, 9, 10, 11, 12, 13, 14, 15] rfl rfl dX9_best_44
    · replace h := if_f hc h
      refine lv_iload_n hx hb dX9_best_17 rfl (lv_at hl 2 rfl) ?_
      refine lv_iconst (v := (1 : Int32)) hx hb dX9_best_18 (by decide) ?_
      refine lv_icmp_gt (tgt := 42) hx hb dX9_best_19 (by decide) (fun hc => ?_) (fun hc => ?_)
      · replace h := if_t hc h
        refine lv_bipush (v := (-2 : Int32)) hx hb dX9_best_42 (by decide) ?_
        cases h
        exact z_iret S hQ hr hw [0, 1, 2, 3, 4, 5, 6, 7, 8, 9, 10, 11, 12, 13, 14, 15] rfl rfl dX9_best_44
      · replace h := if_f hc h
        refine lv_iload_n hx hb dX9_best_22 rfl (lv_at hl 3 rfl) ?_
        refine lv_if_lt (tgt := 42) hx hb dX9_best_23 (by decide) (fun hc => ?_) (fun hc => ?_)
        · replace h := if_t hc h
          refine lv_bipush (v := (-2 : Int32)) hx hb dX9_best_42 (by decide) ?_
          cases h
          exact z_iret S hQ hr hw [0, 1, 2, 3, 4, 5, 6, 7, 8, 9, 10, 11, 12, 13, 14, 15] rfl rfl dX9_best_44
        · replace h := if_f hc h
          refine lv_iload_n hx hb dX9_best_26 rfl (lv_at hl 3 rfl) ?_
          refine lv_iconst (v := (2 : Int32)) hx hb dX9_best_27 (by decide) ?_
          refine lv_icmp_gt (tgt := 42) hx hb dX9_best_28 (by decide) (fun hc => ?_) (fun hc => ?_)
          · replace h := if_t hc h
            refine lv_bipush (v := (-2 : Int32)) hx hb dX9_best_42 (by decide) ?_
            cases h
            exact z_iret S hQ hr hw [0, 1, 2, 3, 4, 5, 6, 7, 8, 9, 10, 11, 12, 13, 14, 15] rfl rfl dX9_best_44
          · replace h := if_f hc h
            refine lv_iload hx hb dX9_best_31 (lv_at hl 4 rfl) ?_
            refine lv_if_lt (tgt := 42) hx hb dX9_best_33 (by decide) (fun hc => ?_) (fun hc => ?_)
            · replace h := if_t hc h
              refine lv_bipush (v := (-2 : Int32)) hx hb dX9_best_42 (by decide) ?_
              cases h
              exact z_iret S hQ hr hw [0, 1, 2, 3, 4, 5, 6, 7, 8, 9, 10, 11, 12, 13, 14, 15] rfl rfl dX9_best_44
            · replace h := if_f hc h
              refine lv_iload hx hb dX9_best_36 (lv_at hl 4 rfl) ?_
              refine lv_iconst (v := (1 : Int32)) hx hb dX9_best_38 (by decide) ?_
              refine lv_icmp_le (tgt := 45) hx hb dX9_best_39 (by decide) (fun hc => ?_) (fun hc => ?_)
              · replace h := if_t hc h
                refine lv_aload_n hx hb dX9_best_45 rfl (lv_at hl 0 rfl) ?_
                refine z_get S hw F54 0 rfl rfl dX9_best_46 ?_
                refine lv_aload_n hx hb dX9_best_49 rfl (lv_at hl 0 rfl) ?_
                refine z_get S hw F75 0 rfl rfl dX9_best_50 ?_
                refine lv_aload_n hx hb dX9_best_53 rfl (lv_at hl 0 rfl) ?_
                refine z_get S hw F33 0 rfl rfl dX9_best_54 ?_
                refine z_get S hw F120 2 rfl rfl dX9_best_57 ?_
                obtain ⟨i_table_madeFor_2, i_table_levels_links_3, i_table_levels_sureLinks_4, k_table_sureLinks_5, k_table_risers_6, k_table_fallers_7, k_table_captured_8, k_table_levels_of_9, e60_1, h⟩ := obd8_el h
                refine zc_VV (As := [.ref a_net, .ref a_now_kinds]) (rest := []) (wr := [(a_this, .inr (9, [.ref a_script, .ref a_acts, .ref a_sightings, .ref a_now, .ref a_trial, .ref a_slots, .ref a_levels, .ref a_table, .ref a_waves, .ref a_spans, .ref a_net, .ref a_draft, .long i_this_lastDraw])), (a_now, .inr (5, [.ref a_now_kinds, .ref a_now_delays, .int i_now_held]))]) (q0 := 1) S hw (c_X3_fitTo l D cI cJ cZ cS H.size N a_net a_table a_now_kinds a_table_levels a_table_sureLinks a_table_risers a_table_fallers a_net_lefts a_net_rights a_net_nexts a_table_captured a_net_links a_net_starts a_table_levels_of a_net_told a_net_sizes a_net_steps i_net_inputs i_net_gates i_net_paths i_table_madeFor k_now_kinds i_table_levels_links i_table_levels_sureLinks k_table_sureLinks k_table_risers k_table_fallers k_net_lefts k_net_rights k_net_nexts k_table_captured k_net_links k_net_starts k_table_levels_of i_table_madeFor_2 i_table_levels_links_3 i_table_levels_sureLinks_4 k_table_sureLinks_5 k_table_risers_6 k_table_fallers_7 k_table_captured_8 k_table_levels_of_9 e60_1) (cwV 2 hts gX9_best_X3_fitTo rfl rfl rfl dv_X3_fitTo ⟨Nat.le_of_ble_eq_true rfl, Nat.le_of_ble_eq_true rfl⟩) [1, 3, 5, 4, 6, 7, 8, 9, 10, 11, 12, 13, 14, 15] [0, 2] rfl rfl rfl rfl (by decide) rfl rfl rfl rfl hl.1 rfl (Nat.le_of_ble_eq_true rfl) dX9_best_60 ⟨Nat.zero_le _, Nat.zero_le _⟩ (fun H locs hw => ?_)
                refine lv_bipush (v := (-9 : Int32)) hx hb dX9_best_63 (by decide) ?_
                refine lv_istore (lv' := [(5, .int (-9 : Int32)), (0, .ref a_this), (1, .int y1), (2, .int y2), (3, .int y3), (4, .int y4)]) hx hb dX9_best_65 hl (by decide) rfl (fun ls hl => ?_)
                refine lv_iconst (v := (0 : Int32)) hx hb dX9_best_67 (by decide) ?_
                refine lv_istore (lv' := [(6, .int (0 : Int32)), (5, .int (-9 : Int32)), (0, .ref a_this), (1, .int y1), (2, .int y2), (3, .int y3), (4, .int y4)]) hx hb dX9_best_68 hl (by decide) rfl (fun ls hl => ?_)
                refine lv_iconst (v := (0 : Int32)) hx hb dX9_best_70 (by decide) ?_
                refine lv_istore (lv' := [(7, .int (0 : Int32)), (6, .int (0 : Int32)), (5, .int (-9 : Int32)), (0, .ref a_this), (1, .int y1), (2, .int y2), (3, .int y3), (4, .int y4)]) hx hb dX9_best_71 hl (by decide) rfl (fun ls hl => ?_)
                obtain ⟨j135_1, ej135_1, h⟩ := bnd_ex h
                have hj135_1 : ∀ (x5_10 : Int32) (x6_11 : Int32) (H : Heap) (locs : List Loc) (ls : Array Slot), j135_1 x5_10 x6_11 = some (rr, o_table_madeFor, o_table_levels_links, o_table_levels_sureLinks, o_table_sureLinks, o_table_risers, o_table_fallers, o_table_captured, o_table_levels_of) → Wd D (tyA cI cJ cZ cS) A s [(a_this, .inr (9, [.ref a_script, .ref a_acts, .ref a_sightings, .ref a_now, .ref a_trial, .ref a_slots, .ref a_levels, .ref a_table, .ref a_waves, .ref a_spans, .ref a_net, .ref a_draft, .long i_this_lastDraw])), (a_net, .inr (2, [.int i_net_inputs, .int i_net_gates, .int i_net_paths, .ref a_net_told, .ref a_net_lefts, .ref a_net_rights, .ref a_net_nexts, .ref a_net_starts, .ref a_net_sizes, .ref a_net_steps, .ref a_net_links])), (a_now, .inr (5, [.ref a_now_kinds, .ref a_now_delays, .int i_now_held])), (a_table, .inr (3, [.ref a_table_levels, .ref a_table_sureLinks, .ref a_table_risers, .ref a_table_fallers, .ref a_table_captured, .int i_table_madeFor_2])), (a_table_levels, .inr (1, [.ref a_table_levels_of, .int i_table_levels_links_3, .int i_table_levels_sureLinks_4])), (a_now_kinds, .inl (cI, 8, .inl k_now_kinds)), (a_table_sureLinks, .inl (cI, 256, .inl k_table_sureLinks_5)), (a_table_risers, .inl (cJ, 256, .inr (.inl k_table_risers_6))), (a_table_fallers, .inl (cJ, 256, .inr (.inl k_table_fallers_7))), (a_net_lefts, .inl (cI, 8, .inl k_net_lefts)), (a_net_rights, .inl (cI, 8, .inl k_net_rights)), (a_net_nexts, .inl (cI, 4, .inl k_net_nexts)), (a_table_captured, .inl (cI, 16, .inl k_table_captured_8)), (a_net_links, .inl (cI, 55, .inl k_net_links)), (a_net_starts, .inl (cI, 55, .inl k_net_starts)), (a_table_levels_of, .inl (cI, 18, .inl k_table_levels_of_9))] H locs → lv_has ls 8 [(4, .int y4), (5, .int x5_10), (6, .int x6_11)] → W p l e rmX9_best s m args below meth c H locs 0 0 Q (F0 m 135 ls []) := by
                  intro x5_10 x6_11 H locs ls h hw hl
                  replace h := ap2 ej135_1 h
                  refine lv_iload hx hb dX9_best_135 (lv_at hl 0 rfl) ?_
                  refine lv_if_ne (tgt := 145) hx hb dX9_best_137 (by decide) (fun hc => ?_) (fun hc => ?_)
                  · replace h := if_f hc h
                    refine lv_iload hx hb dX9_best_145 (lv_at hl 2 rfl) ?_
                    cases h
                    exact z_iret S hQ hr hw [0, 1, 2, 3, 4, 5, 6, 7, 8, 9, 10, 11, 12, 13, 14, 15] rfl rfl dX9_best_147
                  · replace h := if_t hc h
                    refine lv_iload hx hb dX9_best_140 (lv_at hl 1 rfl) ?_
                    refine lv_goto (tgt := 147) hx hb dX9_best_142 (by decide) ?_
                    cases h
                    exact z_iret S hQ hr hw [0, 1, 2, 3, 4, 5, 6, 7, 8, 9, 10, 11, 12, 13, 14, 15] rfl rfl dX9_best_147
                have hL73_1 : ∀ (nf : Nat) (x5_12 : Int32) (x6_13 : Int32) (x7_14 : Int32) (H : Heap) (locs : List Loc) (ls : Array Slot), f_X9_best_L73 N y1 y2 y3 i_net_inputs k_table_risers_6 k_table_fallers_7 k_table_captured_8 j135_1 nf x5_12 x6_13 x7_14 = some (rr, o_table_madeFor, o_table_levels_links, o_table_levels_sureLinks, o_table_sureLinks, o_table_risers, o_table_fallers, o_table_captured, o_table_levels_of) → Wd D (tyA cI cJ cZ cS) A s [(a_this, .inr (9, [.ref a_script, .ref a_acts, .ref a_sightings, .ref a_now, .ref a_trial, .ref a_slots, .ref a_levels, .ref a_table, .ref a_waves, .ref a_spans, .ref a_net, .ref a_draft, .long i_this_lastDraw])), (a_net, .inr (2, [.int i_net_inputs, .int i_net_gates, .int i_net_paths, .ref a_net_told, .ref a_net_lefts, .ref a_net_rights, .ref a_net_nexts, .ref a_net_starts, .ref a_net_sizes, .ref a_net_steps, .ref a_net_links])), (a_now, .inr (5, [.ref a_now_kinds, .ref a_now_delays, .int i_now_held])), (a_table, .inr (3, [.ref a_table_levels, .ref a_table_sureLinks, .ref a_table_risers, .ref a_table_fallers, .ref a_table_captured, .int i_table_madeFor_2])), (a_table_levels, .inr (1, [.ref a_table_levels_of, .int i_table_levels_links_3, .int i_table_levels_sureLinks_4])), (a_now_kinds, .inl (cI, 8, .inl k_now_kinds)), (a_table_sureLinks, .inl (cI, 256, .inl k_table_sureLinks_5)), (a_table_risers, .inl (cJ, 256, .inr (.inl k_table_risers_6))), (a_table_fallers, .inl (cJ, 256, .inr (.inl k_table_fallers_7))), (a_net_lefts, .inl (cI, 8, .inl k_net_lefts)), (a_net_rights, .inl (cI, 8, .inl k_net_rights)), (a_net_nexts, .inl (cI, 4, .inl k_net_nexts)), (a_table_captured, .inl (cI, 16, .inl k_table_captured_8)), (a_net_links, .inl (cI, 55, .inl k_net_links)), (a_net_starts, .inl (cI, 55, .inl k_net_starts)), (a_table_levels_of, .inl (cI, 18, .inl k_table_levels_of_9))] H locs → lv_has ls 8 [(0, .ref a_this), (1, .int y1), (2, .int y2), (3, .int y3), (4, .int y4), (5, .int x5_12), (6, .int x6_13), (7, .int x7_14)] → W p l e rmX9_best s m args below meth c H locs 0 0 Q (F0 m 73 ls []) := by
                  intro nf
                  induction nf with
                  | zero =>
                    intro x5_12 x6_13 x7_14 H locs ls h
                    rw [f_X9_best_L73] at h
                    cases h
                  | succ n_73 ih_73 =>
                    intro x5_12 x6_13 x7_14 H locs ls h hw hl
                    rw [f_X9_best_L73] at h
                    refine lv_iload hx hb dX9_best_73 (lv_at hl 7 rfl) ?_
                    refine lv_sipush (v := (256 : Int32)) hx hb dX9_best_75 (by decide) ?_
                    refine lv_icmp_ge (tgt := 135) hx hb dX9_best_78 (by decide) (fun hc => ?_) (fun hc => ?_)
                    · replace h := if_t hc h
                      exact hj135_1 x5_12 x6_13 H locs ls h hw (lv_sub hl [4, 5, 6] rfl)
                    · replace h := if_f hc h
                      refine lv_aload_n hx hb dX9_best_81 rfl (lv_at hl 0 rfl) ?_
                      refine z_get S hw F54 0 rfl rfl dX9_best_82 ?_
                      refine lv_iload hx hb dX9_best_85 (lv_at hl 7 rfl) ?_
                      refine lv_iload_n hx hb dX9_best_87 rfl (lv_at hl 1 rfl) ?_
                      refine lv_iload_n hx hb dX9_best_88 rfl (lv_at hl 2 rfl) ?_
                      obtain ⟨r_15, e89_1, h⟩ := obd1_el h
                      refine zr_VI (As := [.int x7_14, .int y1, .int y2]) (rest := []) (q0 := 0) S hw (c_X3_provesPath l D cI cJ cZ cS H.size N a_table a_table_fallers a_table_risers a_table_levels a_table_sureLinks a_table_captured i_table_madeFor_2 k_table_fallers_7 k_table_risers_6 x7_14 y1 y2 r_15 e89_1) (cwV 3 hts gX9_best_X3_provesPath rfl rfl rfl dv_X3_provesPath ⟨Nat.le_of_ble_eq_true rfl, Nat.le_of_ble_eq_true rfl⟩) [3, 8, 7] rfl rfl rfl rfl rfl rfl hl.1 rfl (Nat.le_of_ble_eq_true rfl) dX9_best_89 ⟨Nat.zero_le _, Nat.zero_le _⟩ ?_
                      obtain ⟨j129_1, ej129_1, h⟩ := bnd_ex h
                      have hj129_1 : ∀ (x5_16 : Int32) (x6_17 : Int32) (H : Heap) (locs : List Loc) (ls : Array Slot), j129_1 x5_16 x6_17 = some (rr, o_table_madeFor, o_table_levels_links, o_table_levels_sureLinks, o_table_sureLinks, o_table_risers, o_table_fallers, o_table_captured, o_table_levels_of) → Wd D (tyA cI cJ cZ cS) A s [(a_this, .inr (9, [.ref a_script, .ref a_acts, .ref a_sightings, .ref a_now, .ref a_trial, .ref a_slots, .ref a_levels, .ref a_table, .ref a_waves, .ref a_spans, .ref a_net, .ref a_draft, .long i_this_lastDraw])), (a_net, .inr (2, [.int i_net_inputs, .int i_net_gates, .int i_net_paths, .ref a_net_told, .ref a_net_lefts, .ref a_net_rights, .ref a_net_nexts, .ref a_net_starts, .ref a_net_sizes, .ref a_net_steps, .ref a_net_links])), (a_now, .inr (5, [.ref a_now_kinds, .ref a_now_delays, .int i_now_held])), (a_table, .inr (3, [.ref a_table_levels, .ref a_table_sureLinks, .ref a_table_risers, .ref a_table_fallers, .ref a_table_captured, .int i_table_madeFor_2])), (a_table_levels, .inr (1, [.ref a_table_levels_of, .int i_table_levels_links_3, .int i_table_levels_sureLinks_4])), (a_now_kinds, .inl (cI, 8, .inl k_now_kinds)), (a_table_sureLinks, .inl (cI, 256, .inl k_table_sureLinks_5)), (a_table_risers, .inl (cJ, 256, .inr (.inl k_table_risers_6))), (a_table_fallers, .inl (cJ, 256, .inr (.inl k_table_fallers_7))), (a_net_lefts, .inl (cI, 8, .inl k_net_lefts)), (a_net_rights, .inl (cI, 8, .inl k_net_rights)), (a_net_nexts, .inl (cI, 4, .inl k_net_nexts)), (a_table_captured, .inl (cI, 16, .inl k_table_captured_8)), (a_net_links, .inl (cI, 55, .inl k_net_links)), (a_net_starts, .inl (cI, 55, .inl k_net_starts)), (a_table_levels_of, .inl (cI, 18, .inl k_table_levels_of_9))] H locs → lv_has ls 8 [(0, .ref a_this), (1, .int y1), (2, .int y2), (3, .int y3), (4, .int y4), (5, .int x5_16), (6, .int x6_17), (7, .int x7_14)] → W p l e rmX9_best s m args below meth c H locs 0 0 Q (F0 m 129 ls []) := by
                        intro x5_16 x6_17 H locs ls h hw hl
                        replace h := ap2 ej129_1 h
                        obtain ⟨x7_18, ex7_18, h⟩ := bnd_ex h
                        refine lv_iinc (v := x7_18) (lv' := [(7, .int x7_18), (0, .ref a_this), (1, .int y1), (2, .int y2), (3, .int y3), (4, .int y4), (5, .int x5_16), (6, .int x6_17)]) hx hb dX9_best_129 hl (k := 7) rfl (by rw [ex7_18]; rfl) (by decide) rfl (fun ls hl => ?_)
                        refine lv_goto (tgt := 73) hx hb dX9_best_132 (by decide) ?_
                        exact ih_73 x5_16 x6_17 x7_18 H locs ls h hw (lv_sub hl [1, 2, 3, 4, 5, 6, 7, 0] rfl)
                      refine lv_if_eq (tgt := 129) hx hb dX9_best_92 (by decide) (fun hc => ?_) (fun hc => ?_)
                      · replace h := if_t hc h
                        exact hj129_1 x5_12 x6_13 H locs ls h hw hl
                      · replace h := if_f hc h
                        refine lv_aload_n hx hb dX9_best_95 rfl (lv_at hl 0 rfl) ?_
                        refine z_get S hw F54 0 rfl rfl dX9_best_96 ?_
                        refine lv_aload_n hx hb dX9_best_99 rfl (lv_at hl 0 rfl) ?_
                        refine z_get S hw F75 0 rfl rfl dX9_best_100 ?_
                        refine lv_iload_n hx hb dX9_best_103 rfl (lv_at hl 3 rfl) ?_
                        refine lv_iload hx hb dX9_best_104 (lv_at hl 7 rfl) ?_
                        obtain ⟨r_19, e106_1, h⟩ := obd1_el h
                        refine zr_VI (As := [.ref a_net, .int y3, .int x7_14]) (rest := []) (q0 := 1) S hw (c_X3_isLaunched l D cI cJ cZ cS H.size N a_net a_table a_table_captured a_net_told a_net_lefts a_net_rights a_net_nexts a_net_starts a_net_sizes a_net_steps a_net_links a_table_levels a_table_sureLinks a_table_risers a_table_fallers i_net_inputs i_net_gates i_net_paths i_table_madeFor_2 k_table_captured_8 y3 x7_14 r_19 e106_1) (cwV 3 hts gX9_best_X3_isLaunched rfl rfl rfl dv_X3_isLaunched ⟨Nat.le_of_ble_eq_true rfl, Nat.le_of_ble_eq_true rfl⟩) [1, 3, 12] rfl rfl rfl rfl rfl rfl hl.1 rfl (Nat.le_of_ble_eq_true rfl) dX9_best_106 ⟨Nat.zero_le _, Nat.zero_le _⟩ ?_
                        refine lv_if_eq (tgt := 129) hx hb dX9_best_109 (by decide) (fun hc => ?_) (fun hc => ?_)
                        · replace h := if_t hc h
                          exact hj129_1 x5_12 x6_13 H locs ls h hw hl
                        · replace h := if_f hc h
                          refine lv_iload hx hb dX9_best_112 (lv_at hl 6 rfl) ?_
                          obtain ⟨j124_1, ej124_1, h⟩ := bnd_ex h
                          have hj124_1 : ∀ (t_20 : Int32) (H : Heap) (locs : List Loc) (ls : Array Slot), j124_1 t_20 = some (rr, o_table_madeFor, o_table_levels_links, o_table_levels_sureLinks, o_table_sureLinks, o_table_risers, o_table_fallers, o_table_captured, o_table_levels_of) → Wd D (tyA cI cJ cZ cS) A s [(a_this, .inr (9, [.ref a_script, .ref a_acts, .ref a_sightings, .ref a_now, .ref a_trial, .ref a_slots, .ref a_levels, .ref a_table, .ref a_waves, .ref a_spans, .ref a_net, .ref a_draft, .long i_this_lastDraw])), (a_net, .inr (2, [.int i_net_inputs, .int i_net_gates, .int i_net_paths, .ref a_net_told, .ref a_net_lefts, .ref a_net_rights, .ref a_net_nexts, .ref a_net_starts, .ref a_net_sizes, .ref a_net_steps, .ref a_net_links])), (a_now, .inr (5, [.ref a_now_kinds, .ref a_now_delays, .int i_now_held])), (a_table, .inr (3, [.ref a_table_levels, .ref a_table_sureLinks, .ref a_table_risers, .ref a_table_fallers, .ref a_table_captured, .int i_table_madeFor_2])), (a_table_levels, .inr (1, [.ref a_table_levels_of, .int i_table_levels_links_3, .int i_table_levels_sureLinks_4])), (a_now_kinds, .inl (cI, 8, .inl k_now_kinds)), (a_table_sureLinks, .inl (cI, 256, .inl k_table_sureLinks_5)), (a_table_risers, .inl (cJ, 256, .inr (.inl k_table_risers_6))), (a_table_fallers, .inl (cJ, 256, .inr (.inl k_table_fallers_7))), (a_net_lefts, .inl (cI, 8, .inl k_net_lefts)), (a_net_rights, .inl (cI, 8, .inl k_net_rights)), (a_net_nexts, .inl (cI, 4, .inl k_net_nexts)), (a_table_captured, .inl (cI, 16, .inl k_table_captured_8)), (a_net_links, .inl (cI, 55, .inl k_net_links)), (a_net_starts, .inl (cI, 55, .inl k_net_starts)), (a_table_levels_of, .inl (cI, 18, .inl k_table_levels_of_9))] H locs → lv_has ls 8 [(0, .ref a_this), (1, .int y1), (2, .int y2), (3, .int y3), (4, .int y4), (6, .int x6_13), (7, .int x7_14)] → W p l e rmX9_best s m args below meth c H locs 0 0 Q (F0 m 124 ls [.int t_20]) := by
                            intro t_20 H locs ls h hw hl
                            replace h := ap1 ej124_1 h
                            refine lv_istore (lv' := [(5, .int t_20), (0, .ref a_this), (1, .int y1), (2, .int y2), (3, .int y3), (4, .int y4), (6, .int x6_13), (7, .int x7_14)]) hx hb dX9_best_124 hl (by decide) rfl (fun ls hl => ?_)
                            obtain ⟨x6_21, ex6_21, h⟩ := bnd_ex h
                            refine lv_iinc (v := x6_21) (lv' := [(6, .int x6_21), (5, .int t_20), (0, .ref a_this), (1, .int y1), (2, .int y2), (3, .int y3), (4, .int y4), (7, .int x7_14)]) hx hb dX9_best_126 hl (k := 6) rfl (by rw [ex6_21]; rfl) (by decide) rfl (fun ls hl => ?_)
                            exact hj129_1 t_20 x6_21 H locs ls h hw (lv_sub hl [2, 3, 4, 5, 6, 1, 0, 7] rfl)
                          refine lv_if_ne (tgt := 122) hx hb dX9_best_114 (by decide) (fun hc => ?_) (fun hc => ?_)
                          · replace h := if_f hc h
                            refine lv_iload hx hb dX9_best_122 (lv_at hl 5 rfl) ?_
                            exact hj124_1 x5_12 H locs ls h hw (lv_sub hl [0, 1, 2, 3, 4, 6, 7] rfl)
                          · replace h := if_t hc h
                            refine lv_iload hx hb dX9_best_117 (lv_at hl 7 rfl) ?_
                            refine lv_goto (tgt := 124) hx hb dX9_best_119 (by decide) ?_
                            exact hj124_1 x7_14 H locs ls h hw (lv_sub hl [0, 1, 2, 3, 4, 6, 7] rfl)
                exact hL73_1 N ((-9 : Int32)) ((0 : Int32)) ((0 : Int32)) H locs ls h (hw.sub [0, 2, 1, 3, 5, 4, 6, 7, 8, 9, 10, 11, 12, 13, 14, 15] rfl rfl) (lv_sub hl [3, 4, 5, 6, 7, 2, 1, 0] rfl)
              · replace h := if_f hc h
                refine lv_bipush (v := (-2 : Int32)) hx hb dX9_best_42 (by decide) ?_
                cases h
                exact z_iret S hQ hr hw [0, 1, 2, 3, 4, 5, 6, 7, 8, 9, 10, 11, 12, 13, 14, 15] rfl rfl dX9_best_44
  · replace h := if_t hc h
    refine lv_iconst (v := (-1 : Int32)) hx hb dX9_best_11 (by decide) ?_
    cases h
    exact z_iret S hQ hr hw [0, 1, 2, 3, 4, 5, 6, 7, 8, 9, 10, 11, 12, 13, 14, 15] rfl rfl dX9_best_12
abbrev rmX9_pruned : Room := { frames := 5, cells := 0, slots := 0, locals := 121 }
theorem dv_X9_pruned : yX9_pruned.cls = RX9 ∧ yX9_pruned.cls ≠ "java/lang/invoke/MethodHandle" ∧ yX9_pruned.cls ≠ "java/lang/invoke/VarHandle" ∧ (parseMethodDescriptor yX9_pruned.desc).map (fun d => d.parameters.length) = some 0 := by decide +kernel
noncomputable def f_X9_pruned (N : Nat)  (i_table_madeFor : Int32) (i_net_inputs : Int32) (i_net_gates : Int32) (i_net_paths : Int32) (i_table_levels_links : Int32) (i_table_levels_sureLinks : Int32) (k_now_kinds : (Nat → Int32)) (k_table_sureLinks : (Nat → Int32)) (k_table_risers : (Nat → Int64)) (k_table_fallers : (Nat → Int64)) (k_net_lefts : (Nat → Int32)) (k_net_rights : (Nat → Int32)) (k_net_nexts : (Nat → Int32)) (k_table_captured : (Nat → Int32)) (k_net_links : (Nat → Int32)) (k_net_starts : (Nat → Int32)) (k_net_sizes : (Nat → Int32)) (k_net_steps : (Nat → Int32)) (k_table_levels_of : (Nat → Int32)) : Option (Int32 × Int32 × Int32 × Int32 × (Nat → Int32) × (Nat → Int64) × (Nat → Int64) × (Nat → Int32) × (Nat → Int32)) :=
  obd8 (f_X3_fitTo N i_net_inputs i_net_gates i_net_paths i_table_madeFor k_now_kinds i_table_levels_links i_table_levels_sureLinks k_table_sureLinks k_table_risers k_table_fallers k_net_lefts k_net_rights k_net_nexts k_table_captured k_net_links k_net_starts k_table_levels_of) fun (i_table_madeFor_1 : Int32) (i_table_levels_links_2 : Int32) (i_table_levels_sureLinks_3 : Int32) (k_table_sureLinks_4 : (Nat → Int32)) (k_table_risers_5 : (Nat → Int64)) (k_table_fallers_6 : (Nat → Int64)) (k_table_captured_7 : (Nat → Int32)) (k_table_levels_of_8 : (Nat → Int32)) => obd1 (f_X3_deadBeginnings N i_net_paths k_net_sizes k_net_starts k_net_steps k_net_links k_table_sureLinks_4) fun (r_9 : Int32) => some (r_9, i_table_madeFor_1, i_table_levels_links_2, i_table_levels_sureLinks_3, k_table_sureLinks_4, k_table_risers_5, k_table_fallers_6, k_table_captured_7, k_table_levels_of_8)
set_option maxHeartbeats 4000000 in
set_option maxRecDepth 100000 in
theorem c_X9_pruned (l : Launch) (D : va_G) (cI cJ cZ cS : ClassId) (sz N : Nat) (a_this a_now a_table a_net a_table_levels a_now_kinds a_table_sureLinks a_table_risers a_table_fallers a_net_lefts a_net_rights a_net_nexts a_table_captured a_net_links a_net_starts a_net_sizes a_net_steps a_table_levels_of a_script a_acts a_sightings a_trial a_slots a_levels a_waves a_spans a_draft a_now_delays a_net_told : Nat) (i_this_lastDraw : Int64) (i_now_held : Int32) (i_table_madeFor : Int32) (i_net_inputs : Int32) (i_net_gates : Int32) (i_net_paths : Int32) (i_table_levels_links : Int32) (i_table_levels_sureLinks : Int32) (k_now_kinds : (Nat → Int32)) (k_table_sureLinks : (Nat → Int32)) (k_table_risers : (Nat → Int64)) (k_table_fallers : (Nat → Int64)) (k_net_lefts : (Nat → Int32)) (k_net_rights : (Nat → Int32)) (k_net_nexts : (Nat → Int32)) (k_table_captured : (Nat → Int32)) (k_net_links : (Nat → Int32)) (k_net_starts : (Nat → Int32)) (k_net_sizes : (Nat → Int32)) (k_net_steps : (Nat → Int32)) (k_table_levels_of : (Nat → Int32))  (rr : Int32) (o_table_madeFor : Int32) (o_table_levels_links : Int32) (o_table_levels_sureLinks : Int32) (o_table_sureLinks : (Nat → Int32)) (o_table_risers : (Nat → Int64)) (o_table_fallers : (Nat → Int64)) (o_table_captured : (Nat → Int32)) (o_table_levels_of : (Nat → Int32)) (hf : f_X9_pruned N i_table_madeFor i_net_inputs i_net_gates i_net_paths i_table_levels_links i_table_levels_sureLinks k_now_kinds k_table_sureLinks k_table_risers k_table_fallers k_net_lefts k_net_rights k_net_nexts k_table_captured k_net_links k_net_starts k_net_sizes k_net_steps k_table_levels_of = some (rr, o_table_madeFor, o_table_levels_links, o_table_levels_sureLinks, o_table_sureLinks, o_table_risers, o_table_fallers, o_table_captured, o_table_levels_of)) : MetI l yX9_pruned wsX9_pruned rmX9_pruned D (tyA cI cJ cZ cS) [(a_this, .inr (9, [.ref a_script, .ref a_acts, .ref a_sightings, .ref a_now, .ref a_trial, .ref a_slots, .ref a_levels, .ref a_table, .ref a_waves, .ref a_spans, .ref a_net, .ref a_draft, .long i_this_lastDraw])), (a_now, .inr (5, [.ref a_now_kinds, .ref a_now_delays, .int i_now_held])), (a_table, .inr (3, [.ref a_table_levels, .ref a_table_sureLinks, .ref a_table_risers, .ref a_table_fallers, .ref a_table_captured, .int i_table_madeFor])), (a_net, .inr (2, [.int i_net_inputs, .int i_net_gates, .int i_net_paths, .ref a_net_told, .ref a_net_lefts, .ref a_net_rights, .ref a_net_nexts, .ref a_net_starts, .ref a_net_sizes, .ref a_net_steps, .ref a_net_links])), (a_table_levels, .inr (1, [.ref a_table_levels_of, .int i_table_levels_links, .int i_table_levels_sureLinks])), (a_now_kinds, .inl (cI, 8, .inl k_now_kinds)), (a_table_sureLinks, .inl (cI, 256, .inl k_table_sureLinks)), (a_table_risers, .inl (cJ, 256, .inr (.inl k_table_risers))), (a_table_fallers, .inl (cJ, 256, .inr (.inl k_table_fallers))), (a_net_lefts, .inl (cI, 8, .inl k_net_lefts)), (a_net_rights, .inl (cI, 8, .inl k_net_rights)), (a_net_nexts, .inl (cI, 4, .inl k_net_nexts)), (a_table_captured, .inl (cI, 16, .inl k_table_captured)), (a_net_links, .inl (cI, 55, .inl k_net_links)), (a_net_starts, .inl (cI, 55, .inl k_net_starts)), (a_net_sizes, .inl (cI, 55, .inl k_net_sizes)), (a_net_steps, .inl (cI, 440, .inl k_net_steps)), (a_table_levels_of, .inl (cI, 18, .inl k_table_levels_of))] sz [.ref a_this] rr [(a_this, .inr (9, [.ref a_script, .ref a_acts, .ref a_sightings, .ref a_now, .ref a_trial, .ref a_slots, .ref a_levels, .ref a_table, .ref a_waves, .ref a_spans, .ref a_net, .ref a_draft, .long i_this_lastDraw])), (a_now, .inr (5, [.ref a_now_kinds, .ref a_now_delays, .int i_now_held])), (a_table, .inr (3, [.ref a_table_levels, .ref a_table_sureLinks, .ref a_table_risers, .ref a_table_fallers, .ref a_table_captured, .int o_table_madeFor])), (a_net, .inr (2, [.int i_net_inputs, .int i_net_gates, .int i_net_paths, .ref a_net_told, .ref a_net_lefts, .ref a_net_rights, .ref a_net_nexts, .ref a_net_starts, .ref a_net_sizes, .ref a_net_steps, .ref a_net_links])), (a_table_levels, .inr (1, [.ref a_table_levels_of, .int o_table_levels_links, .int o_table_levels_sureLinks])), (a_now_kinds, .inl (cI, 8, .inl k_now_kinds)), (a_table_sureLinks, .inl (cI, 256, .inl o_table_sureLinks)), (a_table_risers, .inl (cJ, 256, .inr (.inl o_table_risers))), (a_table_fallers, .inl (cJ, 256, .inr (.inl o_table_fallers))), (a_net_lefts, .inl (cI, 8, .inl k_net_lefts)), (a_net_rights, .inl (cI, 8, .inl k_net_rights)), (a_net_nexts, .inl (cI, 4, .inl k_net_nexts)), (a_table_captured, .inl (cI, 16, .inl o_table_captured)), (a_net_links, .inl (cI, 55, .inl k_net_links)), (a_net_starts, .inl (cI, 55, .inl k_net_starts)), (a_net_sizes, .inl (cI, 55, .inl k_net_sizes)), (a_net_steps, .inl (cI, 440, .inl k_net_steps)), (a_table_levels_of, .inl (cI, 18, .inl o_table_levels_of))] := by
  refine entI (cc := cX9_pruned) (maxL := 1) (own := RX9) (by decide) rfl rfl (Nat.le_of_ble_eq_true rfl) ?_
  intro p e s m args below meth c A ls Q H locs S hr hw hl hQ
  have hx := S.1.1
  have hb := S.1.2.1
  have hts := S.1.2.2.2.2
  have hl : lv_has ls 1 [(0, .ref a_this)] := hl
  have hinX9 : ∀ w ∈ u_ws RX9 TX9 13, w ∈ wsX9_pruned := (fun _ h => List.mem_cons_of_mem _ (List.mem_append_left _ (List.mem_append_left _ (List.mem_append_left _ (List.mem_append_left _ (List.mem_append_right _ h))))))
  have F33 : FLk s args wsX9_pruned RX9 33 RX9 TX9 13 9 3 := ⟨hinX9, rfl, by decide, hts (.fieldLink RX9 33 "SlowPaths" "now" "LSlowPaths$Setting;") (List.mem_of_getElem? (i := 3) rfl)⟩
  have F54 : FLk s args wsX9_pruned RX9 54 RX9 TX9 13 9 7 := ⟨hinX9, rfl, by decide, hts (.fieldLink RX9 54 "SlowPaths" "table" "LSlowPaths$PairTable;") (List.mem_of_getElem? (i := 1) rfl)⟩
  have F75 : FLk s args wsX9_pruned RX9 75 RX9 TX9 13 9 10 := ⟨hinX9, rfl, by decide, hts (.fieldLink RX9 75 "SlowPaths" "net" "LSlowPaths$Net;") (List.mem_of_getElem? (i := 2) rfl)⟩
  have hinX5 : ∀ w ∈ u_ws RX5 TX5 3, w ∈ wsX9_pruned := (fun _ h => List.mem_cons_of_mem _ (List.mem_append_left _ (List.mem_append_left _ (List.mem_append_left _ (List.mem_append_right _ h)))))
  have F120 : FLk s args wsX9_pruned RX9 120 RX5 TX5 3 5 0 := ⟨hinX5, rfl, by decide, hts (.fieldLink RX9 120 "SlowPaths$Setting" "kinds" "[I") (List.mem_of_getElem? (i := 4) rfl)⟩
  have h := hf
  rw [f_X9_pruned] at h
  refine lv_aload_n hx hb dX9_pruned_0 rfl (lv_at hl 0 rfl) ?_
  refine z_get S hw F54 0 rfl rfl dX9_pruned_1 ?_
  refine lv_aload_n hx hb dX9_pruned_4 rfl (lv_at hl 0 rfl) ?_
  refine z_get S hw F75 0 rfl rfl dX9_pruned_5 ?_
  refine lv_aload_n hx hb dX9_pruned_8 rfl (lv_at hl 0 rfl) ?_
  refine z_get S hw F33 0 rfl rfl dX9_pruned_9 ?_
  refine z_get S hw F120 1 rfl rfl dX9_pruned_12 ?_
  obtain ⟨i_table_madeFor_1, i_table_levels_links_2, i_table_levels_sureLinks_3, k_table_sureLinks_4, k_table_risers_5, k_table_fallers_6, k_table_captured_7, k_table_levels_of_8, e15_1, h⟩ := obd8_el h
  refine zc_VV (As := [.ref a_net, .ref a_now_kinds]) (rest := []) (wr := [(a_this, .inr (9, [.ref a_script, .ref a_acts, .ref a_sightings, .ref a_now, .ref a_trial, .ref a_slots, .ref a_levels, .ref a_table, .ref a_waves, .ref a_spans, .ref a_net, .ref a_draft, .long i_this_lastDraw])), (a_now, .inr (5, [.ref a_now_kinds, .ref a_now_delays, .int i_now_held])), (a_net_sizes, .inl (cI, 55, .inl k_net_sizes)), (a_net_steps, .inl (cI, 440, .inl k_net_steps))]) (q0 := 1) S hw (c_X3_fitTo l D cI cJ cZ cS H.size N a_net a_table a_now_kinds a_table_levels a_table_sureLinks a_table_risers a_table_fallers a_net_lefts a_net_rights a_net_nexts a_table_captured a_net_links a_net_starts a_table_levels_of a_net_told a_net_sizes a_net_steps i_net_inputs i_net_gates i_net_paths i_table_madeFor k_now_kinds i_table_levels_links i_table_levels_sureLinks k_table_sureLinks k_table_risers k_table_fallers k_net_lefts k_net_rights k_net_nexts k_table_captured k_net_links k_net_starts k_table_levels_of i_table_madeFor_1 i_table_levels_links_2 i_table_levels_sureLinks_3 k_table_sureLinks_4 k_table_risers_5 k_table_fallers_6 k_table_captured_7 k_table_levels_of_8 e15_1) (cwV 2 hts gX9_pruned_X3_fitTo rfl rfl rfl dv_X3_fitTo ⟨Nat.le_of_ble_eq_true rfl, Nat.le_of_ble_eq_true rfl⟩) [3, 2, 5, 4, 6, 7, 8, 9, 10, 11, 12, 13, 14, 17] [0, 1, 15, 16] rfl rfl rfl rfl (by decide) rfl rfl rfl rfl hl.1 rfl (Nat.le_of_ble_eq_true rfl) dX9_pruned_15 ⟨Nat.zero_le _, Nat.zero_le _⟩ (fun H locs hw => ?_)
  refine lv_aload_n hx hb dX9_pruned_18 rfl (lv_at hl 0 rfl) ?_
  refine z_get S hw F54 0 rfl rfl dX9_pruned_19 ?_
  refine lv_aload_n hx hb dX9_pruned_22 rfl (lv_at hl 0 rfl) ?_
  refine z_get S hw F75 0 rfl rfl dX9_pruned_23 ?_
  obtain ⟨r_9, e26_1, h⟩ := obd1_el h
  refine zr_VI (As := [.ref a_net]) (rest := []) (q0 := 1) S hw (c_X3_deadBeginnings l D cI cJ cZ cS H.size N a_net a_table a_net_sizes a_net_starts a_net_steps a_net_links a_table_sureLinks a_net_told a_net_lefts a_net_rights a_net_nexts a_table_levels a_table_risers a_table_fallers a_table_captured i_net_inputs i_net_gates i_net_paths i_table_madeFor_1 k_net_sizes k_net_starts k_net_steps k_net_links k_table_sureLinks_4 r_9 e26_1) (cwV 1 hts gX9_pruned_X3_deadBeginnings rfl rfl rfl dv_X3_deadBeginnings ⟨Nat.le_of_ble_eq_true rfl, Nat.le_of_ble_eq_true rfl⟩) [4, 5, 2, 16, 3, 15, 8] rfl rfl rfl rfl rfl rfl hl.1 rfl (Nat.le_of_ble_eq_true rfl) dX9_pruned_26 ⟨Nat.zero_le _, Nat.zero_le _⟩ ?_
  cases h
  exact z_iret S hQ hr hw [0, 1, 5, 4, 7, 6, 8, 9, 10, 11, 12, 13, 14, 15, 16, 2, 3, 17] rfl rfl dX9_pruned_29
abbrev rmX9_packed : Room := { frames := 5, cells := 0, slots := 0, locals := 121 }
theorem dv_X9_packed : yX9_packed.cls = RX9 ∧ yX9_packed.cls ≠ "java/lang/invoke/MethodHandle" ∧ yX9_packed.cls ≠ "java/lang/invoke/VarHandle" ∧ (parseMethodDescriptor yX9_packed.desc).map (fun d => d.parameters.length) = some 2 := by decide +kernel
noncomputable def f_X9_packed (N : Nat) (y1 : Int32) (y2 : Int32) (i_table_madeFor : Int32) (i_net_inputs : Int32) (i_net_gates : Int32) (i_net_paths : Int32) (i_table_levels_links : Int32) (i_table_levels_sureLinks : Int32) (k_now_kinds : (Nat → Int32)) (k_table_sureLinks : (Nat → Int32)) (k_table_risers : (Nat → Int64)) (k_table_fallers : (Nat → Int64)) (k_net_lefts : (Nat → Int32)) (k_net_rights : (Nat → Int32)) (k_net_nexts : (Nat → Int32)) (k_table_captured : (Nat → Int32)) (k_net_links : (Nat → Int32)) (k_net_starts : (Nat → Int32)) (k_table_levels_of : (Nat → Int32)) : Option (Int32 × Int32 × Int32 × Int32 × (Nat → Int32) × (Nat → Int64) × (Nat → Int64) × (Nat → Int32) × (Nat → Int32)) :=
  (if y1 < (0 : Int32) then (some ((-2 : Int32), i_table_madeFor, i_table_levels_links, i_table_levels_sureLinks, k_table_sureLinks, k_table_risers, k_table_fallers, k_table_captured, k_table_levels_of)) else ((if (2 : Int32) < y1 then (some ((-2 : Int32), i_table_madeFor, i_table_levels_links, i_table_levels_sureLinks, k_table_sureLinks, k_table_risers, k_table_fallers, k_table_captured, k_table_levels_of)) else ((if (-1 : Int32) ≤ y2 then (obd8 (f_X3_fitTo N i_net_inputs i_net_gates i_net_paths i_table_madeFor k_now_kinds i_table_levels_links i_table_levels_sureLinks k_table_sureLinks k_table_risers k_table_fallers k_net_lefts k_net_rights k_net_nexts k_table_captured k_net_links k_net_starts k_table_levels_of) fun (i_table_madeFor_1 : Int32) (i_table_levels_links_2 : Int32) (i_table_levels_sureLinks_3 : Int32) (k_table_sureLinks_4 : (Nat → Int32)) (k_table_risers_5 : (Nat → Int64)) (k_table_fallers_6 : (Nat → Int64)) (k_table_captured_7 : (Nat → Int32)) (k_table_levels_of_8 : (Nat → Int32)) => obd1 (f_X3_pack N y1 y2 i_net_inputs k_table_risers_5 k_table_fallers_6 k_table_captured_7) fun (r_9 : Int32) => some (r_9, i_table_madeFor_1, i_table_levels_links_2, i_table_levels_sureLinks_3, k_table_sureLinks_4, k_table_risers_5, k_table_fallers_6, k_table_captured_7, k_table_levels_of_8)) else (some ((-2 : Int32), i_table_madeFor, i_table_levels_links, i_table_levels_sureLinks, k_table_sureLinks, k_table_risers, k_table_fallers, k_table_captured, k_table_levels_of)))))))
set_option maxHeartbeats 4000000 in
set_option maxRecDepth 100000 in
theorem c_X9_packed (l : Launch) (D : va_G) (cI cJ cZ cS : ClassId) (sz N : Nat) (a_this a_now a_table a_net a_table_levels a_now_kinds a_table_sureLinks a_table_risers a_table_fallers a_net_lefts a_net_rights a_net_nexts a_table_captured a_net_links a_net_starts a_table_levels_of a_script a_acts a_sightings a_trial a_slots a_levels a_waves a_spans a_draft a_now_delays a_net_told a_net_sizes a_net_steps : Nat) (i_this_lastDraw : Int64) (i_now_held : Int32) (i_table_madeFor : Int32) (i_net_inputs : Int32) (i_net_gates : Int32) (i_net_paths : Int32) (i_table_levels_links : Int32) (i_table_levels_sureLinks : Int32) (k_now_kinds : (Nat → Int32)) (k_table_sureLinks : (Nat → Int32)) (k_table_risers : (Nat → Int64)) (k_table_fallers : (Nat → Int64)) (k_net_lefts : (Nat → Int32)) (k_net_rights : (Nat → Int32)) (k_net_nexts : (Nat → Int32)) (k_table_captured : (Nat → Int32)) (k_net_links : (Nat → Int32)) (k_net_starts : (Nat → Int32)) (k_table_levels_of : (Nat → Int32)) (y1 : Int32) (y2 : Int32) (rr : Int32) (o_table_madeFor : Int32) (o_table_levels_links : Int32) (o_table_levels_sureLinks : Int32) (o_table_sureLinks : (Nat → Int32)) (o_table_risers : (Nat → Int64)) (o_table_fallers : (Nat → Int64)) (o_table_captured : (Nat → Int32)) (o_table_levels_of : (Nat → Int32)) (hf : f_X9_packed N y1 y2 i_table_madeFor i_net_inputs i_net_gates i_net_paths i_table_levels_links i_table_levels_sureLinks k_now_kinds k_table_sureLinks k_table_risers k_table_fallers k_net_lefts k_net_rights k_net_nexts k_table_captured k_net_links k_net_starts k_table_levels_of = some (rr, o_table_madeFor, o_table_levels_links, o_table_levels_sureLinks, o_table_sureLinks, o_table_risers, o_table_fallers, o_table_captured, o_table_levels_of)) : MetI l yX9_packed wsX9_packed rmX9_packed D (tyA cI cJ cZ cS) [(a_this, .inr (9, [.ref a_script, .ref a_acts, .ref a_sightings, .ref a_now, .ref a_trial, .ref a_slots, .ref a_levels, .ref a_table, .ref a_waves, .ref a_spans, .ref a_net, .ref a_draft, .long i_this_lastDraw])), (a_now, .inr (5, [.ref a_now_kinds, .ref a_now_delays, .int i_now_held])), (a_table, .inr (3, [.ref a_table_levels, .ref a_table_sureLinks, .ref a_table_risers, .ref a_table_fallers, .ref a_table_captured, .int i_table_madeFor])), (a_net, .inr (2, [.int i_net_inputs, .int i_net_gates, .int i_net_paths, .ref a_net_told, .ref a_net_lefts, .ref a_net_rights, .ref a_net_nexts, .ref a_net_starts, .ref a_net_sizes, .ref a_net_steps, .ref a_net_links])), (a_table_levels, .inr (1, [.ref a_table_levels_of, .int i_table_levels_links, .int i_table_levels_sureLinks])), (a_now_kinds, .inl (cI, 8, .inl k_now_kinds)), (a_table_sureLinks, .inl (cI, 256, .inl k_table_sureLinks)), (a_table_risers, .inl (cJ, 256, .inr (.inl k_table_risers))), (a_table_fallers, .inl (cJ, 256, .inr (.inl k_table_fallers))), (a_net_lefts, .inl (cI, 8, .inl k_net_lefts)), (a_net_rights, .inl (cI, 8, .inl k_net_rights)), (a_net_nexts, .inl (cI, 4, .inl k_net_nexts)), (a_table_captured, .inl (cI, 16, .inl k_table_captured)), (a_net_links, .inl (cI, 55, .inl k_net_links)), (a_net_starts, .inl (cI, 55, .inl k_net_starts)), (a_table_levels_of, .inl (cI, 18, .inl k_table_levels_of))] sz [.ref a_this, .int y1, .int y2] rr [(a_this, .inr (9, [.ref a_script, .ref a_acts, .ref a_sightings, .ref a_now, .ref a_trial, .ref a_slots, .ref a_levels, .ref a_table, .ref a_waves, .ref a_spans, .ref a_net, .ref a_draft, .long i_this_lastDraw])), (a_now, .inr (5, [.ref a_now_kinds, .ref a_now_delays, .int i_now_held])), (a_table, .inr (3, [.ref a_table_levels, .ref a_table_sureLinks, .ref a_table_risers, .ref a_table_fallers, .ref a_table_captured, .int o_table_madeFor])), (a_net, .inr (2, [.int i_net_inputs, .int i_net_gates, .int i_net_paths, .ref a_net_told, .ref a_net_lefts, .ref a_net_rights, .ref a_net_nexts, .ref a_net_starts, .ref a_net_sizes, .ref a_net_steps, .ref a_net_links])), (a_table_levels, .inr (1, [.ref a_table_levels_of, .int o_table_levels_links, .int o_table_levels_sureLinks])), (a_now_kinds, .inl (cI, 8, .inl k_now_kinds)), (a_table_sureLinks, .inl (cI, 256, .inl o_table_sureLinks)), (a_table_risers, .inl (cJ, 256, .inr (.inl o_table_risers))), (a_table_fallers, .inl (cJ, 256, .inr (.inl o_table_fallers))), (a_net_lefts, .inl (cI, 8, .inl k_net_lefts)), (a_net_rights, .inl (cI, 8, .inl k_net_rights)), (a_net_nexts, .inl (cI, 4, .inl k_net_nexts)), (a_table_captured, .inl (cI, 16, .inl o_table_captured)), (a_net_links, .inl (cI, 55, .inl k_net_links)), (a_net_starts, .inl (cI, 55, .inl k_net_starts)), (a_table_levels_of, .inl (cI, 18, .inl o_table_levels_of))] := by
  refine entI (cc := cX9_packed) (maxL := 3) (own := RX9) (by decide) rfl rfl (Nat.le_of_ble_eq_true rfl) ?_
  intro p e s m args below meth c A ls Q H locs S hr hw hl hQ
  have hx := S.1.1
  have hb := S.1.2.1
  have hts := S.1.2.2.2.2
  have hl : lv_has ls 3 [(0, .ref a_this), (1, .int y1), (2, .int y2)] := hl
  have hinX9 : ∀ w ∈ u_ws RX9 TX9 13, w ∈ wsX9_packed := (fun _ h => List.mem_cons_of_mem _ (List.mem_append_left _ (List.mem_append_left _ (List.mem_append_left _ (List.mem_append_left _ (List.mem_append_right _ h))))))
  have F33 : FLk s args wsX9_packed RX9 33 RX9 TX9 13 9 3 := ⟨hinX9, rfl, by decide, hts (.fieldLink RX9 33 "SlowPaths" "now" "LSlowPaths$Setting;") (List.mem_of_getElem? (i := 3) rfl)⟩
  have F54 : FLk s args wsX9_packed RX9 54 RX9 TX9 13 9 7 := ⟨hinX9, rfl, by decide, hts (.fieldLink RX9 54 "SlowPaths" "table" "LSlowPaths$PairTable;") (List.mem_of_getElem? (i := 1) rfl)⟩
  have F75 : FLk s args wsX9_packed RX9 75 RX9 TX9 13 9 10 := ⟨hinX9, rfl, by decide, hts (.fieldLink RX9 75 "SlowPaths" "net" "LSlowPaths$Net;") (List.mem_of_getElem? (i := 2) rfl)⟩
  have hinX5 : ∀ w ∈ u_ws RX5 TX5 3, w ∈ wsX9_packed := (fun _ h => List.mem_cons_of_mem _ (List.mem_append_left _ (List.mem_append_left _ (List.mem_append_left _ (List.mem_append_right _ h)))))
  have F120 : FLk s args wsX9_packed RX9 120 RX5 TX5 3 5 0 := ⟨hinX5, rfl, by decide, hts (.fieldLink RX9 120 "SlowPaths$Setting" "kinds" "[I") (List.mem_of_getElem? (i := 4) rfl)⟩
  have h := hf
  rw [f_X9_packed] at h
  refine lv_iload_n hx hb dX9_packed_0 rfl (lv_at hl 1 rfl) ?_
  refine lv_if_lt (tgt := 14) hx hb dX9_packed_1 (by decide) (fun hc => ?_) (fun hc => ?_)
  · replace h := if_t hc h
    refine lv_bipush (v := (-2 : Int32)) hx hb dX9_packed_14 (by decide) ?_
    cases h
    exact z_iret S hQ hr hw [0, 1, 2, 3, 4, 5, 6, 7, 8, 9, 10, 11, 12, 13, 14, 15] rfl rfl dX9_packed_16
  · replace h := if_f hc h
    refine lv_iload_n hx hb dX9_packed_4 rfl (lv_at hl 1 rfl) ?_
    refine lv_iconst (v := (2 : Int32)) hx hb dX9_packed_5 (by decide) ?_
    refine lv_icmp_gt (tgt := 14) hx hb dX9_packed_6 (by decide) (fun hc => ?_) (fun hc => ?_)
    · replace h := if_t hc h
      refine lv_bipush (v := (-2 : Int32)) hx hb dX9_packed_14 (by decide) ?_
      cases h
      exact z_iret S hQ hr hw [0, 1, 2, 3, 4, 5, 6, 7, 8, 9, 10, 11, 12, 13, 14, 15] rfl rfl dX9_packed_16
    · replace h := if_f hc h
      refine lv_iload_n hx hb dX9_packed_9 rfl (lv_at hl 2 rfl) ?_
      refine lv_iconst (v := (-1 : Int32)) hx hb dX9_packed_10 (by decide) ?_
      refine lv_icmp_ge (tgt := 17) hx hb dX9_packed_11 (by decide) (fun hc => ?_) (fun hc => ?_)
      · replace h := if_t hc h
        refine lv_aload_n hx hb dX9_packed_17 rfl (lv_at hl 0 rfl) ?_
        refine z_get S hw F54 0 rfl rfl dX9_packed_18 ?_
        refine lv_aload_n hx hb dX9_packed_21 rfl (lv_at hl 0 rfl) ?_
        refine z_get S hw F75 0 rfl rfl dX9_packed_22 ?_
        refine lv_aload_n hx hb dX9_packed_25 rfl (lv_at hl 0 rfl) ?_
        refine z_get S hw F33 0 rfl rfl dX9_packed_26 ?_
        refine z_get S hw F120 1 rfl rfl dX9_packed_29 ?_
        obtain ⟨i_table_madeFor_1, i_table_levels_links_2, i_table_levels_sureLinks_3, k_table_sureLinks_4, k_table_risers_5, k_table_fallers_6, k_table_captured_7, k_table_levels_of_8, e32_1, h⟩ := obd8_el h
        refine zc_VV (As := [.ref a_net, .ref a_now_kinds]) (rest := []) (wr := [(a_this, .inr (9, [.ref a_script, .ref a_acts, .ref a_sightings, .ref a_now, .ref a_trial, .ref a_slots, .ref a_levels, .ref a_table, .ref a_waves, .ref a_spans, .ref a_net, .ref a_draft, .long i_this_lastDraw])), (a_now, .inr (5, [.ref a_now_kinds, .ref a_now_delays, .int i_now_held]))]) (q0 := 1) S hw (c_X3_fitTo l D cI cJ cZ cS H.size N a_net a_table a_now_kinds a_table_levels a_table_sureLinks a_table_risers a_table_fallers a_net_lefts a_net_rights a_net_nexts a_table_captured a_net_links a_net_starts a_table_levels_of a_net_told a_net_sizes a_net_steps i_net_inputs i_net_gates i_net_paths i_table_madeFor k_now_kinds i_table_levels_links i_table_levels_sureLinks k_table_sureLinks k_table_risers k_table_fallers k_net_lefts k_net_rights k_net_nexts k_table_captured k_net_links k_net_starts k_table_levels_of i_table_madeFor_1 i_table_levels_links_2 i_table_levels_sureLinks_3 k_table_sureLinks_4 k_table_risers_5 k_table_fallers_6 k_table_captured_7 k_table_levels_of_8 e32_1) (cwV 2 hts gX9_packed_X3_fitTo rfl rfl rfl dv_X3_fitTo ⟨Nat.le_of_ble_eq_true rfl, Nat.le_of_ble_eq_true rfl⟩) [3, 2, 5, 4, 6, 7, 8, 9, 10, 11, 12, 13, 14, 15] [0, 1] rfl rfl rfl rfl (by decide) rfl rfl rfl rfl hl.1 rfl (Nat.le_of_ble_eq_true rfl) dX9_packed_32 ⟨Nat.zero_le _, Nat.zero_le _⟩ (fun H locs hw => ?_)
        refine lv_aload_n hx hb dX9_packed_35 rfl (lv_at hl 0 rfl) ?_
        refine z_get S hw F54 0 rfl rfl dX9_packed_36 ?_
        refine lv_aload_n hx hb dX9_packed_39 rfl (lv_at hl 0 rfl) ?_
        refine z_get S hw F75 0 rfl rfl dX9_packed_40 ?_
        refine lv_iload_n hx hb dX9_packed_43 rfl (lv_at hl 1 rfl) ?_
        refine lv_iload_n hx hb dX9_packed_44 rfl (lv_at hl 2 rfl) ?_
        obtain ⟨r_9, e45_1, h⟩ := obd1_el h
        refine zr_VI (As := [.ref a_net, .int y1, .int y2]) (rest := []) (q0 := 0) S hw (c_X3_pack l D cI cJ cZ cS H.size N a_table a_net a_table_risers a_table_fallers a_table_captured a_table_levels a_table_sureLinks a_net_told a_net_lefts a_net_rights a_net_nexts a_net_starts a_net_sizes a_net_steps a_net_links i_table_madeFor_1 i_net_inputs i_net_gates i_net_paths k_table_risers_5 k_table_fallers_6 k_table_captured_7 y1 y2 r_9 e45_1) (cwV 3 hts gX9_packed_X3_pack rfl rfl rfl dv_X3_pack ⟨Nat.le_of_ble_eq_true rfl, Nat.le_of_ble_eq_true rfl⟩) [3, 2, 7, 8, 12] rfl rfl rfl rfl rfl rfl hl.1 rfl (Nat.le_of_ble_eq_true rfl) dX9_packed_45 ⟨Nat.zero_le _, Nat.zero_le _⟩ ?_
        cases h
        exact z_iret S hQ hr hw [0, 1, 3, 2, 5, 4, 6, 7, 8, 9, 10, 11, 12, 13, 14, 15] rfl rfl dX9_packed_48
      · replace h := if_f hc h
        refine lv_bipush (v := (-2 : Int32)) hx hb dX9_packed_14 (by decide) ?_
        cases h
        exact z_iret S hQ hr hw [0, 1, 2, 3, 4, 5, 6, 7, 8, 9, 10, 11, 12, 13, 14, 15] rfl rfl dX9_packed_16
abbrev rmX9_wave : Room := { frames := 3, cells := 0, slots := 0, locals := 62 }
theorem dv_X9_wave : yX9_wave.cls = RX9 ∧ yX9_wave.cls ≠ "java/lang/invoke/MethodHandle" ∧ yX9_wave.cls ≠ "java/lang/invoke/VarHandle" ∧ (parseMethodDescriptor yX9_wave.desc).map (fun d => d.parameters.length) = some 3 := by decide +kernel
noncomputable def f_X9_wave (N : Nat) (y1 : Int32) (y2 : Int32) (y3 : Int32) (i_net_inputs : Int32) (i_net_gates : Int32) (k_now_kinds : (Nat → Int32)) (k_now_delays : (Nat → Int32)) (k_net_lefts : (Nat → Int32)) (k_net_rights : (Nat → Int32)) (k_waves_before : (Nat → Int64)) (k_waves_after : (Nat → Int64)) (k_waves_low : (Nat → Int64)) (k_waves_high : (Nat → Int64)) : Option (Int32 × (Nat → Int64) × (Nat → Int64) × (Nat → Int64) × (Nat → Int64)) :=
  obd1 (f_X2_hasGate N y1 i_net_gates) fun (r_1 : Int32) => (if r_1 = (0 : Int32) then (some ((-1 : Int32), k_waves_before, k_waves_after, k_waves_low, k_waves_high)) else (obd1 (f_X2_hasPair N y2 i_net_inputs) fun (r_2 : Int32) => (if r_2 = (0 : Int32) then (some ((-2 : Int32), k_waves_before, k_waves_after, k_waves_low, k_waves_high)) else ((if y3 < (0 : Int32) then (some ((-2 : Int32), k_waves_before, k_waves_after, k_waves_low, k_waves_high)) else ((if y3 ≤ (99 : Int32) then (obd4 (f_X8_run N y2 i_net_inputs i_net_gates k_now_kinds k_now_delays k_net_lefts k_net_rights k_waves_before k_waves_after k_waves_low k_waves_high) fun (k_waves_before_3 : (Nat → Int64)) (k_waves_after_4 : (Nat → Int64)) (k_waves_low_5 : (Nat → Int64)) (k_waves_high_6 : (Nat → Int64)) => obd1 (f_X8_at N ((10 : Int32) + y1) y3 k_waves_high_6 k_waves_low_5) fun (r_7 : Int32) => some (r_7, k_waves_before_3, k_waves_after_4, k_waves_low_5, k_waves_high_6)) else (some ((-2 : Int32), k_waves_before, k_waves_after, k_waves_low, k_waves_high)))))))))
set_option maxHeartbeats 4000000 in
set_option maxRecDepth 100000 in
theorem c_X9_wave (l : Launch) (D : va_G) (cI cJ cZ cS : ClassId) (sz N : Nat) (a_this a_net a_now a_waves a_now_kinds a_now_delays a_net_lefts a_net_rights a_waves_before a_waves_after a_waves_low a_waves_high a_script a_acts a_sightings a_trial a_slots a_levels a_table a_spans a_draft a_net_told a_net_nexts a_net_starts a_net_sizes a_net_steps a_net_links : Nat) (i_this_lastDraw : Int64) (i_net_inputs : Int32) (i_net_gates : Int32) (i_net_paths : Int32) (i_now_held : Int32) (k_now_kinds : (Nat → Int32)) (k_now_delays : (Nat → Int32)) (k_net_lefts : (Nat → Int32)) (k_net_rights : (Nat → Int32)) (k_waves_before : (Nat → Int64)) (k_waves_after : (Nat → Int64)) (k_waves_low : (Nat → Int64)) (k_waves_high : (Nat → Int64)) (y1 : Int32) (y2 : Int32) (y3 : Int32) (rr : Int32) (o_waves_before : (Nat → Int64)) (o_waves_after : (Nat → Int64)) (o_waves_low : (Nat → Int64)) (o_waves_high : (Nat → Int64)) (hf : f_X9_wave N y1 y2 y3 i_net_inputs i_net_gates k_now_kinds k_now_delays k_net_lefts k_net_rights k_waves_before k_waves_after k_waves_low k_waves_high = some (rr, o_waves_before, o_waves_after, o_waves_low, o_waves_high)) : MetI l yX9_wave wsX9_wave rmX9_wave D (tyA cI cJ cZ cS) [(a_this, .inr (9, [.ref a_script, .ref a_acts, .ref a_sightings, .ref a_now, .ref a_trial, .ref a_slots, .ref a_levels, .ref a_table, .ref a_waves, .ref a_spans, .ref a_net, .ref a_draft, .long i_this_lastDraw])), (a_net, .inr (2, [.int i_net_inputs, .int i_net_gates, .int i_net_paths, .ref a_net_told, .ref a_net_lefts, .ref a_net_rights, .ref a_net_nexts, .ref a_net_starts, .ref a_net_sizes, .ref a_net_steps, .ref a_net_links])), (a_now, .inr (5, [.ref a_now_kinds, .ref a_now_delays, .int i_now_held])), (a_waves, .inr (8, [.ref a_waves_before, .ref a_waves_after, .ref a_waves_low, .ref a_waves_high])), (a_now_kinds, .inl (cI, 8, .inl k_now_kinds)), (a_now_delays, .inl (cI, 8, .inl k_now_delays)), (a_net_lefts, .inl (cI, 8, .inl k_net_lefts)), (a_net_rights, .inl (cI, 8, .inl k_net_rights)), (a_waves_before, .inl (cJ, 18, .inr (.inl k_waves_before))), (a_waves_after, .inl (cJ, 18, .inr (.inl k_waves_after))), (a_waves_low, .inl (cJ, 18, .inr (.inl k_waves_low))), (a_waves_high, .inl (cJ, 18, .inr (.inl k_waves_high)))] sz [.ref a_this, .int y1, .int y2, .int y3] rr [(a_this, .inr (9, [.ref a_script, .ref a_acts, .ref a_sightings, .ref a_now, .ref a_trial, .ref a_slots, .ref a_levels, .ref a_table, .ref a_waves, .ref a_spans, .ref a_net, .ref a_draft, .long i_this_lastDraw])), (a_net, .inr (2, [.int i_net_inputs, .int i_net_gates, .int i_net_paths, .ref a_net_told, .ref a_net_lefts, .ref a_net_rights, .ref a_net_nexts, .ref a_net_starts, .ref a_net_sizes, .ref a_net_steps, .ref a_net_links])), (a_now, .inr (5, [.ref a_now_kinds, .ref a_now_delays, .int i_now_held])), (a_waves, .inr (8, [.ref a_waves_before, .ref a_waves_after, .ref a_waves_low, .ref a_waves_high])), (a_now_kinds, .inl (cI, 8, .inl k_now_kinds)), (a_now_delays, .inl (cI, 8, .inl k_now_delays)), (a_net_lefts, .inl (cI, 8, .inl k_net_lefts)), (a_net_rights, .inl (cI, 8, .inl k_net_rights)), (a_waves_before, .inl (cJ, 18, .inr (.inl o_waves_before))), (a_waves_after, .inl (cJ, 18, .inr (.inl o_waves_after))), (a_waves_low, .inl (cJ, 18, .inr (.inl o_waves_low))), (a_waves_high, .inl (cJ, 18, .inr (.inl o_waves_high)))] := by
  refine entI (cc := cX9_wave) (maxL := 4) (own := RX9) (by decide) rfl rfl (Nat.le_of_ble_eq_true rfl) ?_
  intro p e s m args below meth c A ls Q H locs S hr hw hl hQ
  have hx := S.1.1
  have hb := S.1.2.1
  have hts := S.1.2.2.2.2
  have hl : lv_has ls 4 [(0, .ref a_this), (1, .int y1), (2, .int y2), (3, .int y3)] := hl
  have hinX9 : ∀ w ∈ u_ws RX9 TX9 13, w ∈ wsX9_wave := (fun _ h => List.mem_cons_of_mem _ (List.mem_append_left _ (List.mem_append_left _ (List.mem_append_left _ (List.mem_append_right _ h)))))
  have F33 : FLk s args wsX9_wave RX9 33 RX9 TX9 13 9 3 := ⟨hinX9, rfl, by decide, hts (.fieldLink RX9 33 "SlowPaths" "now" "LSlowPaths$Setting;") (List.mem_of_getElem? (i := 3) rfl)⟩
  have F61 : FLk s args wsX9_wave RX9 61 RX9 TX9 13 9 8 := ⟨hinX9, rfl, by decide, hts (.fieldLink RX9 61 "SlowPaths" "waves" "LSlowPaths$Waves;") (List.mem_of_getElem? (i := 2) rfl)⟩
  have F75 : FLk s args wsX9_wave RX9 75 RX9 TX9 13 9 10 := ⟨hinX9, rfl, by decide, hts (.fieldLink RX9 75 "SlowPaths" "net" "LSlowPaths$Net;") (List.mem_of_getElem? (i := 1) rfl)⟩
  have hinX5 : ∀ w ∈ u_ws RX5 TX5 3, w ∈ wsX9_wave := (fun _ h => List.mem_cons_of_mem _ (List.mem_append_left _ (List.mem_append_left _ (List.mem_append_right _ h))))
  have F120 : FLk s args wsX9_wave RX9 120 RX5 TX5 3 5 0 := ⟨hinX5, rfl, by decide, hts (.fieldLink RX9 120 "SlowPaths$Setting" "kinds" "[I") (List.mem_of_getElem? (i := 4) rfl)⟩
  have F129 : FLk s args wsX9_wave RX9 129 RX5 TX5 3 5 1 := ⟨hinX5, rfl, by decide, hts (.fieldLink RX9 129 "SlowPaths$Setting" "delays" "[I") (List.mem_of_getElem? (i := 5) rfl)⟩
  have h := hf
  rw [f_X9_wave] at h
  refine lv_aload_n hx hb dX9_wave_0 rfl (lv_at hl 0 rfl) ?_
  refine z_get S hw F75 0 rfl rfl dX9_wave_1 ?_
  refine lv_iload_n hx hb dX9_wave_4 rfl (lv_at hl 1 rfl) ?_
  obtain ⟨r_1, e5_1, h⟩ := obd1_el h
  refine zr_VI (As := [.int y1]) (rest := []) (q0 := 0) S hw (c_X2_hasGate l D cI cJ cZ cS H.size N a_net a_net_told a_net_lefts a_net_rights a_net_nexts a_net_starts a_net_sizes a_net_steps a_net_links i_net_inputs i_net_gates i_net_paths y1 r_1 e5_1) (cwV 1 hts gX9_wave_X2_hasGate rfl rfl rfl dv_X2_hasGate ⟨Nat.le_of_ble_eq_true rfl, Nat.le_of_ble_eq_true rfl⟩) [1] rfl rfl rfl rfl rfl rfl hl.1 rfl (Nat.le_of_ble_eq_true rfl) dX9_wave_5 ⟨Nat.zero_le _, Nat.zero_le _⟩ ?_
  refine lv_if_ne (tgt := 13) hx hb dX9_wave_8 (by decide) (fun hc => ?_) (fun hc => ?_)
  · replace h := if_f hc h
    refine lv_aload_n hx hb dX9_wave_13 rfl (lv_at hl 0 rfl) ?_
    refine z_get S hw F75 0 rfl rfl dX9_wave_14 ?_
    refine lv_iload_n hx hb dX9_wave_17 rfl (lv_at hl 2 rfl) ?_
    obtain ⟨r_2, e18_1, h⟩ := obd1_el h
    refine zr_VI (As := [.int y2]) (rest := []) (q0 := 0) S hw (c_X2_hasPair l D cI cJ cZ cS H.size N a_net a_net_told a_net_lefts a_net_rights a_net_nexts a_net_starts a_net_sizes a_net_steps a_net_links i_net_inputs i_net_gates i_net_paths y2 r_2 e18_1) (cwV 1 hts gX9_wave_X2_hasPair rfl rfl rfl dv_X2_hasPair ⟨Nat.le_of_ble_eq_true rfl, Nat.le_of_ble_eq_true rfl⟩) [1] rfl rfl rfl rfl rfl rfl hl.1 rfl (Nat.le_of_ble_eq_true rfl) dX9_wave_18 ⟨Nat.zero_le _, Nat.zero_le _⟩ ?_
    refine lv_if_eq (tgt := 34) hx hb dX9_wave_21 (by decide) (fun hc => ?_) (fun hc => ?_)
    · replace h := if_t hc h
      refine lv_bipush (v := (-2 : Int32)) hx hb dX9_wave_34 (by decide) ?_
      cases h
      exact z_iret S hQ hr hw [0, 1, 2, 3, 4, 5, 6, 7, 8, 9, 10, 11] rfl rfl dX9_wave_36
    · replace h := if_f hc h
      refine lv_iload_n hx hb dX9_wave_24 rfl (lv_at hl 3 rfl) ?_
      refine lv_if_lt (tgt := 34) hx hb dX9_wave_25 (by decide) (fun hc => ?_) (fun hc => ?_)
      · replace h := if_t hc h
        refine lv_bipush (v := (-2 : Int32)) hx hb dX9_wave_34 (by decide) ?_
        cases h
        exact z_iret S hQ hr hw [0, 1, 2, 3, 4, 5, 6, 7, 8, 9, 10, 11] rfl rfl dX9_wave_36
      · replace h := if_f hc h
        refine lv_iload_n hx hb dX9_wave_28 rfl (lv_at hl 3 rfl) ?_
        refine lv_bipush (v := (99 : Int32)) hx hb dX9_wave_29 (by decide) ?_
        refine lv_icmp_le (tgt := 37) hx hb dX9_wave_31 (by decide) (fun hc => ?_) (fun hc => ?_)
        · replace h := if_t hc h
          refine lv_aload_n hx hb dX9_wave_37 rfl (lv_at hl 0 rfl) ?_
          refine z_get S hw F61 0 rfl rfl dX9_wave_38 ?_
          refine lv_aload_n hx hb dX9_wave_41 rfl (lv_at hl 0 rfl) ?_
          refine z_get S hw F75 0 rfl rfl dX9_wave_42 ?_
          refine lv_aload_n hx hb dX9_wave_45 rfl (lv_at hl 0 rfl) ?_
          refine z_get S hw F33 0 rfl rfl dX9_wave_46 ?_
          refine z_get S hw F120 2 rfl rfl dX9_wave_49 ?_
          refine lv_aload_n hx hb dX9_wave_52 rfl (lv_at hl 0 rfl) ?_
          refine z_get S hw F33 0 rfl rfl dX9_wave_53 ?_
          refine z_get S hw F129 2 rfl rfl dX9_wave_56 ?_
          refine lv_iload_n hx hb dX9_wave_59 rfl (lv_at hl 2 rfl) ?_
          obtain ⟨k_waves_before_3, k_waves_after_4, k_waves_low_5, k_waves_high_6, e60_1, h⟩ := obd4_el h
          refine zc_VV (As := [.ref a_net, .ref a_now_kinds, .ref a_now_delays, .int y2]) (rest := []) (wr := [(a_this, .inr (9, [.ref a_script, .ref a_acts, .ref a_sightings, .ref a_now, .ref a_trial, .ref a_slots, .ref a_levels, .ref a_table, .ref a_waves, .ref a_spans, .ref a_net, .ref a_draft, .long i_this_lastDraw])), (a_now, .inr (5, [.ref a_now_kinds, .ref a_now_delays, .int i_now_held]))]) (q0 := 3) S hw (c_X8_run l D cI cJ cZ cS H.size N a_net a_now_kinds a_now_delays a_waves a_net_lefts a_net_rights a_waves_before a_waves_after a_waves_low a_waves_high a_net_told a_net_nexts a_net_starts a_net_sizes a_net_steps a_net_links i_net_inputs i_net_gates i_net_paths k_now_kinds k_now_delays k_net_lefts k_net_rights k_waves_before k_waves_after k_waves_low k_waves_high y2 k_waves_before_3 k_waves_after_4 k_waves_low_5 k_waves_high_6 e60_1) (cwV 4 hts gX9_wave_X8_run rfl rfl rfl dv_X8_run ⟨Nat.le_of_ble_eq_true rfl, Nat.le_of_ble_eq_true rfl⟩) [1, 4, 5, 3, 6, 7, 8, 9, 10, 11] [0, 2] rfl rfl rfl rfl (by decide) rfl rfl rfl rfl hl.1 rfl (Nat.le_of_ble_eq_true rfl) dX9_wave_60 ⟨Nat.zero_le _, Nat.zero_le _⟩ (fun H locs hw => ?_)
          refine lv_aload_n hx hb dX9_wave_63 rfl (lv_at hl 0 rfl) ?_
          refine z_get S hw F61 0 rfl rfl dX9_wave_64 ?_
          refine lv_bipush (v := (10 : Int32)) hx hb dX9_wave_67 (by decide) ?_
          refine lv_iload_n hx hb dX9_wave_69 rfl (lv_at hl 1 rfl) ?_
          refine lv_iadd hx hb dX9_wave_70 ?_
          refine lv_iload_n hx hb dX9_wave_71 rfl (lv_at hl 3 rfl) ?_
          obtain ⟨r_7, e72_1, h⟩ := obd1_el h
          refine zr_VI (As := [.int ((10 : Int32) + y1), .int y3]) (rest := []) (q0 := 0) S hw (c_X8_at l D cI cJ cZ cS H.size N a_waves a_waves_high a_waves_low a_waves_before a_waves_after k_waves_high_6 k_waves_low_5 ((10 : Int32) + y1) y3 r_7 e72_1) (cwV 2 hts gX9_wave_X8_at rfl rfl rfl dv_X8_at ⟨Nat.le_of_ble_eq_true rfl, Nat.le_of_ble_eq_true rfl⟩) [5, 11, 10] rfl rfl rfl rfl rfl rfl hl.1 rfl (Nat.le_of_ble_eq_true rfl) dX9_wave_72 ⟨Nat.zero_le _, Nat.zero_le _⟩ ?_
          cases h
          exact z_iret S hQ hr hw [0, 2, 1, 5, 3, 4, 6, 7, 8, 9, 10, 11] rfl rfl dX9_wave_75
        · replace h := if_f hc h
          refine lv_bipush (v := (-2 : Int32)) hx hb dX9_wave_34 (by decide) ?_
          cases h
          exact z_iret S hQ hr hw [0, 1, 2, 3, 4, 5, 6, 7, 8, 9, 10, 11] rfl rfl dX9_wave_36
  · replace h := if_t hc h
    refine lv_iconst (v := (-1 : Int32)) hx hb dX9_wave_11 (by decide) ?_
    cases h
    exact z_iret S hQ hr hw [0, 1, 2, 3, 4, 5, 6, 7, 8, 9, 10, 11] rfl rfl dX9_wave_12
abbrev rmX9_late : Room := { frames := 3, cells := 0, slots := 0, locals := 62 }
theorem dv_X9_late : yX9_late.cls = RX9 ∧ yX9_late.cls ≠ "java/lang/invoke/MethodHandle" ∧ yX9_late.cls ≠ "java/lang/invoke/VarHandle" ∧ (parseMethodDescriptor yX9_late.desc).map (fun d => d.parameters.length) = some 2 := by decide +kernel
noncomputable def f_X9_late (N : Nat) (y1 : Int32) (y2 : Int32) (i_net_inputs : Int32) (i_net_gates : Int32) (k_now_kinds : (Nat → Int32)) (k_now_delays : (Nat → Int32)) (k_net_lefts : (Nat → Int32)) (k_net_rights : (Nat → Int32)) (k_waves_before : (Nat → Int64)) (k_waves_after : (Nat → Int64)) (k_waves_low : (Nat → Int64)) (k_waves_high : (Nat → Int64)) : Option (Int32 × (Nat → Int64) × (Nat → Int64) × (Nat → Int64) × (Nat → Int64)) :=
  obd1 (f_X2_hasPair N y1 i_net_inputs) fun (r_1 : Int32) => (if r_1 = (0 : Int32) then (some ((-2 : Int32), k_waves_before, k_waves_after, k_waves_low, k_waves_high)) else ((if y2 < (0 : Int32) then (some ((-2 : Int32), k_waves_before, k_waves_after, k_waves_low, k_waves_high)) else ((if y2 ≤ (99 : Int32) then ((if i_net_gates = (0 : Int32) then (some ((-3 : Int32), k_waves_before, k_waves_after, k_waves_low, k_waves_high)) else (obd4 (f_X8_run N y1 i_net_inputs i_net_gates k_now_kinds k_now_delays k_net_lefts k_net_rights k_waves_before k_waves_after k_waves_low k_waves_high) fun (k_waves_before_2 : (Nat → Int64)) (k_waves_after_3 : (Nat → Int64)) (k_waves_low_4 : (Nat → Int64)) (k_waves_high_5 : (Nat → Int64)) => obd1 (f_X8_isLate N y2 i_net_gates k_waves_high_5 k_waves_low_4 k_waves_after_3) fun (r_6 : Int32) => (if r_6 = (0 : Int32) then (some ((0 : Int32), k_waves_before_2, k_waves_after_3, k_waves_low_4, k_waves_high_5)) else (some ((1 : Int32), k_waves_before_2, k_waves_after_3, k_waves_low_4, k_waves_high_5)))))) else (some ((-2 : Int32), k_waves_before, k_waves_after, k_waves_low, k_waves_high)))))))
set_option maxHeartbeats 4000000 in
set_option maxRecDepth 100000 in
theorem c_X9_late (l : Launch) (D : va_G) (cI cJ cZ cS : ClassId) (sz N : Nat) (a_this a_net a_now a_waves a_now_kinds a_now_delays a_net_lefts a_net_rights a_waves_before a_waves_after a_waves_low a_waves_high a_script a_acts a_sightings a_trial a_slots a_levels a_table a_spans a_draft a_net_told a_net_nexts a_net_starts a_net_sizes a_net_steps a_net_links : Nat) (i_this_lastDraw : Int64) (i_net_inputs : Int32) (i_net_gates : Int32) (i_net_paths : Int32) (i_now_held : Int32) (k_now_kinds : (Nat → Int32)) (k_now_delays : (Nat → Int32)) (k_net_lefts : (Nat → Int32)) (k_net_rights : (Nat → Int32)) (k_waves_before : (Nat → Int64)) (k_waves_after : (Nat → Int64)) (k_waves_low : (Nat → Int64)) (k_waves_high : (Nat → Int64)) (y1 : Int32) (y2 : Int32) (rr : Int32) (o_waves_before : (Nat → Int64)) (o_waves_after : (Nat → Int64)) (o_waves_low : (Nat → Int64)) (o_waves_high : (Nat → Int64)) (hf : f_X9_late N y1 y2 i_net_inputs i_net_gates k_now_kinds k_now_delays k_net_lefts k_net_rights k_waves_before k_waves_after k_waves_low k_waves_high = some (rr, o_waves_before, o_waves_after, o_waves_low, o_waves_high)) : MetI l yX9_late wsX9_late rmX9_late D (tyA cI cJ cZ cS) [(a_this, .inr (9, [.ref a_script, .ref a_acts, .ref a_sightings, .ref a_now, .ref a_trial, .ref a_slots, .ref a_levels, .ref a_table, .ref a_waves, .ref a_spans, .ref a_net, .ref a_draft, .long i_this_lastDraw])), (a_net, .inr (2, [.int i_net_inputs, .int i_net_gates, .int i_net_paths, .ref a_net_told, .ref a_net_lefts, .ref a_net_rights, .ref a_net_nexts, .ref a_net_starts, .ref a_net_sizes, .ref a_net_steps, .ref a_net_links])), (a_now, .inr (5, [.ref a_now_kinds, .ref a_now_delays, .int i_now_held])), (a_waves, .inr (8, [.ref a_waves_before, .ref a_waves_after, .ref a_waves_low, .ref a_waves_high])), (a_now_kinds, .inl (cI, 8, .inl k_now_kinds)), (a_now_delays, .inl (cI, 8, .inl k_now_delays)), (a_net_lefts, .inl (cI, 8, .inl k_net_lefts)), (a_net_rights, .inl (cI, 8, .inl k_net_rights)), (a_waves_before, .inl (cJ, 18, .inr (.inl k_waves_before))), (a_waves_after, .inl (cJ, 18, .inr (.inl k_waves_after))), (a_waves_low, .inl (cJ, 18, .inr (.inl k_waves_low))), (a_waves_high, .inl (cJ, 18, .inr (.inl k_waves_high)))] sz [.ref a_this, .int y1, .int y2] rr [(a_this, .inr (9, [.ref a_script, .ref a_acts, .ref a_sightings, .ref a_now, .ref a_trial, .ref a_slots, .ref a_levels, .ref a_table, .ref a_waves, .ref a_spans, .ref a_net, .ref a_draft, .long i_this_lastDraw])), (a_net, .inr (2, [.int i_net_inputs, .int i_net_gates, .int i_net_paths, .ref a_net_told, .ref a_net_lefts, .ref a_net_rights, .ref a_net_nexts, .ref a_net_starts, .ref a_net_sizes, .ref a_net_steps, .ref a_net_links])), (a_now, .inr (5, [.ref a_now_kinds, .ref a_now_delays, .int i_now_held])), (a_waves, .inr (8, [.ref a_waves_before, .ref a_waves_after, .ref a_waves_low, .ref a_waves_high])), (a_now_kinds, .inl (cI, 8, .inl k_now_kinds)), (a_now_delays, .inl (cI, 8, .inl k_now_delays)), (a_net_lefts, .inl (cI, 8, .inl k_net_lefts)), (a_net_rights, .inl (cI, 8, .inl k_net_rights)), (a_waves_before, .inl (cJ, 18, .inr (.inl o_waves_before))), (a_waves_after, .inl (cJ, 18, .inr (.inl o_waves_after))), (a_waves_low, .inl (cJ, 18, .inr (.inl o_waves_low))), (a_waves_high, .inl (cJ, 18, .inr (.inl o_waves_high)))] := by
  refine entI (cc := cX9_late) (maxL := 3) (own := RX9) (by decide) rfl rfl (Nat.le_of_ble_eq_true rfl) ?_
  intro p e s m args below meth c A ls Q H locs S hr hw hl hQ
  have hx := S.1.1
  have hb := S.1.2.1
  have hts := S.1.2.2.2.2
  have hl : lv_has ls 3 [(0, .ref a_this), (1, .int y1), (2, .int y2)] := hl
  have hinX9 : ∀ w ∈ u_ws RX9 TX9 13, w ∈ wsX9_late := (fun _ h => List.mem_cons_of_mem _ (List.mem_append_left _ (List.mem_append_left _ (List.mem_append_left _ (List.mem_append_right _ h)))))
  have F33 : FLk s args wsX9_late RX9 33 RX9 TX9 13 9 3 := ⟨hinX9, rfl, by decide, hts (.fieldLink RX9 33 "SlowPaths" "now" "LSlowPaths$Setting;") (List.mem_of_getElem? (i := 4) rfl)⟩
  have F61 : FLk s args wsX9_late RX9 61 RX9 TX9 13 9 8 := ⟨hinX9, rfl, by decide, hts (.fieldLink RX9 61 "SlowPaths" "waves" "LSlowPaths$Waves;") (List.mem_of_getElem? (i := 3) rfl)⟩
  have F75 : FLk s args wsX9_late RX9 75 RX9 TX9 13 9 10 := ⟨hinX9, rfl, by decide, hts (.fieldLink RX9 75 "SlowPaths" "net" "LSlowPaths$Net;") (List.mem_of_getElem? (i := 1) rfl)⟩
  have hinX5 : ∀ w ∈ u_ws RX5 TX5 3, w ∈ wsX9_late := (fun _ h => List.mem_cons_of_mem _ (List.mem_append_left _ (List.mem_append_right _ h)))
  have F120 : FLk s args wsX9_late RX9 120 RX5 TX5 3 5 0 := ⟨hinX5, rfl, by decide, hts (.fieldLink RX9 120 "SlowPaths$Setting" "kinds" "[I") (List.mem_of_getElem? (i := 5) rfl)⟩
  have F129 : FLk s args wsX9_late RX9 129 RX5 TX5 3 5 1 := ⟨hinX5, rfl, by decide, hts (.fieldLink RX9 129 "SlowPaths$Setting" "delays" "[I") (List.mem_of_getElem? (i := 6) rfl)⟩
  have hinX2 : ∀ w ∈ u_ws RX2 TX2 11, w ∈ wsX9_late := (fun _ h => List.mem_cons_of_mem _ (List.mem_append_left _ (List.mem_append_left _ (List.mem_append_right _ h))))
  have F197 : FLk s args wsX9_late RX9 197 RX2 TX2 11 2 1 := ⟨hinX2, rfl, by decide, hts (.fieldLink RX9 197 "SlowPaths$Net" "gates" "I") (List.mem_of_getElem? (i := 2) rfl)⟩
  have h := hf
  rw [f_X9_late] at h
  refine lv_aload_n hx hb dX9_late_0 rfl (lv_at hl 0 rfl) ?_
  refine z_get S hw F75 0 rfl rfl dX9_late_1 ?_
  refine lv_iload_n hx hb dX9_late_4 rfl (lv_at hl 1 rfl) ?_
  obtain ⟨r_1, e5_1, h⟩ := obd1_el h
  refine zr_VI (As := [.int y1]) (rest := []) (q0 := 0) S hw (c_X2_hasPair l D cI cJ cZ cS H.size N a_net a_net_told a_net_lefts a_net_rights a_net_nexts a_net_starts a_net_sizes a_net_steps a_net_links i_net_inputs i_net_gates i_net_paths y1 r_1 e5_1) (cwV 1 hts gX9_late_X2_hasPair rfl rfl rfl dv_X2_hasPair ⟨Nat.le_of_ble_eq_true rfl, Nat.le_of_ble_eq_true rfl⟩) [1] rfl rfl rfl rfl rfl rfl hl.1 rfl (Nat.le_of_ble_eq_true rfl) dX9_late_5 ⟨Nat.zero_le _, Nat.zero_le _⟩ ?_
  refine lv_if_eq (tgt := 21) hx hb dX9_late_8 (by decide) (fun hc => ?_) (fun hc => ?_)
  · replace h := if_t hc h
    refine lv_bipush (v := (-2 : Int32)) hx hb dX9_late_21 (by decide) ?_
    cases h
    exact z_iret S hQ hr hw [0, 1, 2, 3, 4, 5, 6, 7, 8, 9, 10, 11] rfl rfl dX9_late_23
  · replace h := if_f hc h
    refine lv_iload_n hx hb dX9_late_11 rfl (lv_at hl 2 rfl) ?_
    refine lv_if_lt (tgt := 21) hx hb dX9_late_12 (by decide) (fun hc => ?_) (fun hc => ?_)
    · replace h := if_t hc h
      refine lv_bipush (v := (-2 : Int32)) hx hb dX9_late_21 (by decide) ?_
      cases h
      exact z_iret S hQ hr hw [0, 1, 2, 3, 4, 5, 6, 7, 8, 9, 10, 11] rfl rfl dX9_late_23
    · replace h := if_f hc h
      refine lv_iload_n hx hb dX9_late_15 rfl (lv_at hl 2 rfl) ?_
      refine lv_bipush (v := (99 : Int32)) hx hb dX9_late_16 (by decide) ?_
      refine lv_icmp_le (tgt := 24) hx hb dX9_late_18 (by decide) (fun hc => ?_) (fun hc => ?_)
      · replace h := if_t hc h
        refine lv_aload_n hx hb dX9_late_24 rfl (lv_at hl 0 rfl) ?_
        refine z_get S hw F75 0 rfl rfl dX9_late_25 ?_
        refine z_get S hw F197 1 rfl rfl dX9_late_28 ?_
        refine lv_if_ne (tgt := 37) hx hb dX9_late_31 (by decide) (fun hc => ?_) (fun hc => ?_)
        · replace h := if_f hc h
          refine lv_aload_n hx hb dX9_late_37 rfl (lv_at hl 0 rfl) ?_
          refine z_get S hw F61 0 rfl rfl dX9_late_38 ?_
          refine lv_aload_n hx hb dX9_late_41 rfl (lv_at hl 0 rfl) ?_
          refine z_get S hw F75 0 rfl rfl dX9_late_42 ?_
          refine lv_aload_n hx hb dX9_late_45 rfl (lv_at hl 0 rfl) ?_
          refine z_get S hw F33 0 rfl rfl dX9_late_46 ?_
          refine z_get S hw F120 2 rfl rfl dX9_late_49 ?_
          refine lv_aload_n hx hb dX9_late_52 rfl (lv_at hl 0 rfl) ?_
          refine z_get S hw F33 0 rfl rfl dX9_late_53 ?_
          refine z_get S hw F129 2 rfl rfl dX9_late_56 ?_
          refine lv_iload_n hx hb dX9_late_59 rfl (lv_at hl 1 rfl) ?_
          obtain ⟨k_waves_before_2, k_waves_after_3, k_waves_low_4, k_waves_high_5, e60_1, h⟩ := obd4_el h
          refine zc_VV (As := [.ref a_net, .ref a_now_kinds, .ref a_now_delays, .int y1]) (rest := []) (wr := [(a_this, .inr (9, [.ref a_script, .ref a_acts, .ref a_sightings, .ref a_now, .ref a_trial, .ref a_slots, .ref a_levels, .ref a_table, .ref a_waves, .ref a_spans, .ref a_net, .ref a_draft, .long i_this_lastDraw])), (a_now, .inr (5, [.ref a_now_kinds, .ref a_now_delays, .int i_now_held]))]) (q0 := 3) S hw (c_X8_run l D cI cJ cZ cS H.size N a_net a_now_kinds a_now_delays a_waves a_net_lefts a_net_rights a_waves_before a_waves_after a_waves_low a_waves_high a_net_told a_net_nexts a_net_starts a_net_sizes a_net_steps a_net_links i_net_inputs i_net_gates i_net_paths k_now_kinds k_now_delays k_net_lefts k_net_rights k_waves_before k_waves_after k_waves_low k_waves_high y1 k_waves_before_2 k_waves_after_3 k_waves_low_4 k_waves_high_5 e60_1) (cwV 4 hts gX9_late_X8_run rfl rfl rfl dv_X8_run ⟨Nat.le_of_ble_eq_true rfl, Nat.le_of_ble_eq_true rfl⟩) [1, 4, 5, 3, 6, 7, 8, 9, 10, 11] [0, 2] rfl rfl rfl rfl (by decide) rfl rfl rfl rfl hl.1 rfl (Nat.le_of_ble_eq_true rfl) dX9_late_60 ⟨Nat.zero_le _, Nat.zero_le _⟩ (fun H locs hw => ?_)
          refine lv_aload_n hx hb dX9_late_63 rfl (lv_at hl 0 rfl) ?_
          refine z_get S hw F61 0 rfl rfl dX9_late_64 ?_
          refine lv_aload_n hx hb dX9_late_67 rfl (lv_at hl 0 rfl) ?_
          refine z_get S hw F75 0 rfl rfl dX9_late_68 ?_
          refine lv_iload_n hx hb dX9_late_71 rfl (lv_at hl 2 rfl) ?_
          obtain ⟨r_6, e72_1, h⟩ := obd1_el h
          refine zr_VI (As := [.ref a_net, .int y2]) (rest := []) (q0 := 1) S hw (c_X8_isLate l D cI cJ cZ cS H.size N a_net a_waves a_waves_high a_waves_low a_waves_after a_net_told a_net_lefts a_net_rights a_net_nexts a_net_starts a_net_sizes a_net_steps a_net_links a_waves_before i_net_inputs i_net_gates i_net_paths k_waves_high_5 k_waves_low_4 k_waves_after_3 y2 r_6 e72_1) (cwV 2 hts gX9_late_X8_isLate rfl rfl rfl dv_X8_isLate ⟨Nat.le_of_ble_eq_true rfl, Nat.le_of_ble_eq_true rfl⟩) [2, 5, 11, 10, 9] rfl rfl rfl rfl rfl rfl hl.1 rfl (Nat.le_of_ble_eq_true rfl) dX9_late_72 ⟨Nat.zero_le _, Nat.zero_le _⟩ ?_
          refine lv_if_eq (tgt := 82) hx hb dX9_late_75 (by decide) (fun hc => ?_) (fun hc => ?_)
          · replace h := if_t hc h
            refine lv_iconst (v := (0 : Int32)) hx hb dX9_late_82 (by decide) ?_
            cases h
            exact z_iret S hQ hr hw [0, 2, 1, 5, 3, 4, 6, 7, 8, 9, 10, 11] rfl rfl dX9_late_83
          · replace h := if_f hc h
            refine lv_iconst (v := (1 : Int32)) hx hb dX9_late_78 (by decide) ?_
            refine lv_goto (tgt := 83) hx hb dX9_late_79 (by decide) ?_
            cases h
            exact z_iret S hQ hr hw [0, 2, 1, 5, 3, 4, 6, 7, 8, 9, 10, 11] rfl rfl dX9_late_83
        · replace h := if_t hc h
          refine lv_bipush (v := (-3 : Int32)) hx hb dX9_late_34 (by decide) ?_
          cases h
          exact z_iret S hQ hr hw [0, 1, 2, 3, 4, 5, 6, 7, 8, 9, 10, 11] rfl rfl dX9_late_36
      · replace h := if_f hc h
        refine lv_bipush (v := (-2 : Int32)) hx hb dX9_late_21 (by decide) ?_
        cases h
        exact z_iret S hQ hr hw [0, 1, 2, 3, 4, 5, 6, 7, 8, 9, 10, 11] rfl rfl dX9_late_23
abbrev rmX9_triesDelay : Room := { frames := 1, cells := 0, slots := 0, locals := 21 }
theorem dv_X9_triesDelay : yX9_triesDelay.cls = RX9 ∧ yX9_triesDelay.cls ≠ "java/lang/invoke/MethodHandle" ∧ yX9_triesDelay.cls ≠ "java/lang/invoke/VarHandle" ∧ (parseMethodDescriptor yX9_triesDelay.desc).map (fun d => d.parameters.length) = some 2 := by decide +kernel
noncomputable def f_X9_triesDelay (N : Nat) (y1 : Int32) (y2 : Int32) (i_net_gates : Int32) (k_trial_delays : (Nat → Int32)) : Option (Int32 × (Nat → Int32)) :=
  obd1 (f_X2_hasGate N y1 i_net_gates) fun (r_1 : Int32) => (if r_1 = (0 : Int32) then (some ((0 : Int32), k_trial_delays)) else ((if (1 : Int32) ≤ y2 then (grd (inb y1 8) <| bnd (upd k_trial_delays y1.toNatClampNeg y2) fun (k_trial_delays_2 : (Nat → Int32)) => some ((1 : Int32), k_trial_delays_2)) else (some ((0 : Int32), k_trial_delays)))))
set_option maxHeartbeats 4000000 in
set_option maxRecDepth 100000 in
theorem c_X9_triesDelay (l : Launch) (D : va_G) (cI cJ cZ cS : ClassId) (sz N : Nat) (a_this a_net a_trial a_trial_delays a_script a_acts a_sightings a_now a_slots a_levels a_table a_waves a_spans a_draft a_net_told a_net_lefts a_net_rights a_net_nexts a_net_starts a_net_sizes a_net_steps a_net_links a_trial_kinds : Nat) (i_this_lastDraw : Int64) (i_net_inputs : Int32) (i_net_gates : Int32) (i_net_paths : Int32) (i_trial_held : Int32) (k_trial_delays : (Nat → Int32)) (y1 : Int32) (y2 : Int32) (rr : Int32) (o_trial_delays : (Nat → Int32)) (hf : f_X9_triesDelay N y1 y2 i_net_gates k_trial_delays = some (rr, o_trial_delays)) : MetI l yX9_triesDelay wsX9_triesDelay rmX9_triesDelay D (tyA cI cJ cZ cS) [(a_this, .inr (9, [.ref a_script, .ref a_acts, .ref a_sightings, .ref a_now, .ref a_trial, .ref a_slots, .ref a_levels, .ref a_table, .ref a_waves, .ref a_spans, .ref a_net, .ref a_draft, .long i_this_lastDraw])), (a_net, .inr (2, [.int i_net_inputs, .int i_net_gates, .int i_net_paths, .ref a_net_told, .ref a_net_lefts, .ref a_net_rights, .ref a_net_nexts, .ref a_net_starts, .ref a_net_sizes, .ref a_net_steps, .ref a_net_links])), (a_trial, .inr (5, [.ref a_trial_kinds, .ref a_trial_delays, .int i_trial_held])), (a_trial_delays, .inl (cI, 8, .inl k_trial_delays))] sz [.ref a_this, .int y1, .int y2] rr [(a_this, .inr (9, [.ref a_script, .ref a_acts, .ref a_sightings, .ref a_now, .ref a_trial, .ref a_slots, .ref a_levels, .ref a_table, .ref a_waves, .ref a_spans, .ref a_net, .ref a_draft, .long i_this_lastDraw])), (a_net, .inr (2, [.int i_net_inputs, .int i_net_gates, .int i_net_paths, .ref a_net_told, .ref a_net_lefts, .ref a_net_rights, .ref a_net_nexts, .ref a_net_starts, .ref a_net_sizes, .ref a_net_steps, .ref a_net_links])), (a_trial, .inr (5, [.ref a_trial_kinds, .ref a_trial_delays, .int i_trial_held])), (a_trial_delays, .inl (cI, 8, .inl o_trial_delays))] := by
  refine entZ (cc := cX9_triesDelay) (maxL := 3) (own := RX9) (by decide) rfl rfl (Nat.le_of_ble_eq_true rfl) ?_
  intro p e s m args below meth c A ls Q H locs S hr hw hl hQ
  have hx := S.1.1
  have hb := S.1.2.1
  have hts := S.1.2.2.2.2
  have hl : lv_has ls 3 [(0, .ref a_this), (1, .int y1), (2, .int y2)] := hl
  have hinX9 : ∀ w ∈ u_ws RX9 TX9 13, w ∈ wsX9_triesDelay := (fun _ h => List.mem_cons_of_mem _ (List.mem_append_left _ (List.mem_append_left _ (List.mem_append_right _ h))))
  have F37 : FLk s args wsX9_triesDelay RX9 37 RX9 TX9 13 9 4 := ⟨hinX9, rfl, by decide, hts (.fieldLink RX9 37 "SlowPaths" "trial" "LSlowPaths$Setting;") (List.mem_of_getElem? (i := 2) rfl)⟩
  have F75 : FLk s args wsX9_triesDelay RX9 75 RX9 TX9 13 9 10 := ⟨hinX9, rfl, by decide, hts (.fieldLink RX9 75 "SlowPaths" "net" "LSlowPaths$Net;") (List.mem_of_getElem? (i := 1) rfl)⟩
  have hinX5 : ∀ w ∈ u_ws RX5 TX5 3, w ∈ wsX9_triesDelay := (fun _ h => List.mem_cons_of_mem _ (List.mem_append_left _ (List.mem_append_right _ h)))
  have F129 : FLk s args wsX9_triesDelay RX9 129 RX5 TX5 3 5 1 := ⟨hinX5, rfl, by decide, hts (.fieldLink RX9 129 "SlowPaths$Setting" "delays" "[I") (List.mem_of_getElem? (i := 3) rfl)⟩
  have h := hf
  rw [f_X9_triesDelay] at h
  refine lv_aload_n hx hb dX9_triesDelay_0 rfl (lv_at hl 0 rfl) ?_
  refine z_get S hw F75 0 rfl rfl dX9_triesDelay_1 ?_
  refine lv_iload_n hx hb dX9_triesDelay_4 rfl (lv_at hl 1 rfl) ?_
  obtain ⟨r_1, e5_1, h⟩ := obd1_el h
  refine zr_VI (As := [.int y1]) (rest := []) (q0 := 0) S hw (c_X2_hasGate l D cI cJ cZ cS H.size N a_net a_net_told a_net_lefts a_net_rights a_net_nexts a_net_starts a_net_sizes a_net_steps a_net_links i_net_inputs i_net_gates i_net_paths y1 r_1 e5_1) (cwV 1 hts gX9_triesDelay_X2_hasGate rfl rfl rfl dv_X2_hasGate ⟨Nat.le_of_ble_eq_true rfl, Nat.le_of_ble_eq_true rfl⟩) [1] rfl rfl rfl rfl rfl rfl hl.1 rfl (Nat.le_of_ble_eq_true rfl) dX9_triesDelay_5 ⟨Nat.zero_le _, Nat.zero_le _⟩ ?_
  refine lv_if_eq (tgt := 16) hx hb dX9_triesDelay_8 (by decide) (fun hc => ?_) (fun hc => ?_)
  · replace h := if_t hc h
    refine lv_iconst (v := (0 : Int32)) hx hb dX9_triesDelay_16 (by decide) ?_
    cases h
    exact z_zret S hQ hr rfl hw [0, 1, 2, 3] rfl rfl dX9_triesDelay_17
  · replace h := if_f hc h
    refine lv_iload_n hx hb dX9_triesDelay_11 rfl (lv_at hl 2 rfl) ?_
    refine lv_iconst (v := (1 : Int32)) hx hb dX9_triesDelay_12 (by decide) ?_
    refine lv_icmp_ge (tgt := 18) hx hb dX9_triesDelay_13 (by decide) (fun hc => ?_) (fun hc => ?_)
    · replace h := if_t hc h
      refine lv_aload_n hx hb dX9_triesDelay_18 rfl (lv_at hl 0 rfl) ?_
      refine z_get S hw F37 0 rfl rfl dX9_triesDelay_19 ?_
      refine z_get S hw F129 2 rfl rfl dX9_triesDelay_22 ?_
      refine lv_iload_n hx hb dX9_triesDelay_25 rfl (lv_at hl 1 rfl) ?_
      refine lv_iload_n hx hb dX9_triesDelay_26 rfl (lv_at hl 2 rfl) ?_
      obtain ⟨hg, h⟩ := grd_el h
      obtain ⟨k_trial_delays_2, ek_trial_delays_2, h⟩ := bnd_ex h
      refine z_iast S hw ek_trial_delays_2 3 0 rfl rfl hg dX9_triesDelay_27 (fun H locs hw => ?_)
      refine lv_iconst (v := (1 : Int32)) hx hb dX9_triesDelay_28 (by decide) ?_
      cases h
      exact z_zret S hQ hr rfl hw [0, 1, 2, 3] rfl rfl dX9_triesDelay_29
    · replace h := if_f hc h
      refine lv_iconst (v := (0 : Int32)) hx hb dX9_triesDelay_16 (by decide) ?_
      cases h
      exact z_zret S hQ hr rfl hw [0, 1, 2, 3] rfl rfl dX9_triesDelay_17
abbrev rmX9_triesKind : Room := { frames := 1, cells := 0, slots := 0, locals := 21 }
theorem dv_X9_triesKind : yX9_triesKind.cls = RX9 ∧ yX9_triesKind.cls ≠ "java/lang/invoke/MethodHandle" ∧ yX9_triesKind.cls ≠ "java/lang/invoke/VarHandle" ∧ (parseMethodDescriptor yX9_triesKind.desc).map (fun d => d.parameters.length) = some 2 := by decide +kernel
noncomputable def f_X9_triesKind (N : Nat) (y1 : Int32) (y2 : Int32) (i_net_gates : Int32) (k_trial_kinds : (Nat → Int32)) : Option (Int32 × (Nat → Int32)) :=
  obd1 (f_X2_hasGate N y1 i_net_gates) fun (r_1 : Int32) => (if r_1 = (0 : Int32) then (some ((0 : Int32), k_trial_kinds)) else ((if (3 : Int32) < y2 then (some ((0 : Int32), k_trial_kinds)) else (grd (inb y1 8) <| (if (k_trial_kinds y1.toNatClampNeg) = (4 : Int32) then (some ((0 : Int32), k_trial_kinds)) else (grd (inb y1 8) <| bnd (upd k_trial_kinds y1.toNatClampNeg y2) fun (k_trial_kinds_2 : (Nat → Int32)) => some ((1 : Int32), k_trial_kinds_2)))))))
set_option maxHeartbeats 4000000 in
set_option maxRecDepth 100000 in
theorem c_X9_triesKind (l : Launch) (D : va_G) (cI cJ cZ cS : ClassId) (sz N : Nat) (a_this a_net a_trial a_trial_kinds a_script a_acts a_sightings a_now a_slots a_levels a_table a_waves a_spans a_draft a_net_told a_net_lefts a_net_rights a_net_nexts a_net_starts a_net_sizes a_net_steps a_net_links a_trial_delays : Nat) (i_this_lastDraw : Int64) (i_net_inputs : Int32) (i_net_gates : Int32) (i_net_paths : Int32) (i_trial_held : Int32) (k_trial_kinds : (Nat → Int32)) (y1 : Int32) (y2 : Int32) (rr : Int32) (o_trial_kinds : (Nat → Int32)) (hf : f_X9_triesKind N y1 y2 i_net_gates k_trial_kinds = some (rr, o_trial_kinds)) : MetI l yX9_triesKind wsX9_triesKind rmX9_triesKind D (tyA cI cJ cZ cS) [(a_this, .inr (9, [.ref a_script, .ref a_acts, .ref a_sightings, .ref a_now, .ref a_trial, .ref a_slots, .ref a_levels, .ref a_table, .ref a_waves, .ref a_spans, .ref a_net, .ref a_draft, .long i_this_lastDraw])), (a_net, .inr (2, [.int i_net_inputs, .int i_net_gates, .int i_net_paths, .ref a_net_told, .ref a_net_lefts, .ref a_net_rights, .ref a_net_nexts, .ref a_net_starts, .ref a_net_sizes, .ref a_net_steps, .ref a_net_links])), (a_trial, .inr (5, [.ref a_trial_kinds, .ref a_trial_delays, .int i_trial_held])), (a_trial_kinds, .inl (cI, 8, .inl k_trial_kinds))] sz [.ref a_this, .int y1, .int y2] rr [(a_this, .inr (9, [.ref a_script, .ref a_acts, .ref a_sightings, .ref a_now, .ref a_trial, .ref a_slots, .ref a_levels, .ref a_table, .ref a_waves, .ref a_spans, .ref a_net, .ref a_draft, .long i_this_lastDraw])), (a_net, .inr (2, [.int i_net_inputs, .int i_net_gates, .int i_net_paths, .ref a_net_told, .ref a_net_lefts, .ref a_net_rights, .ref a_net_nexts, .ref a_net_starts, .ref a_net_sizes, .ref a_net_steps, .ref a_net_links])), (a_trial, .inr (5, [.ref a_trial_kinds, .ref a_trial_delays, .int i_trial_held])), (a_trial_kinds, .inl (cI, 8, .inl o_trial_kinds))] := by
  refine entZ (cc := cX9_triesKind) (maxL := 3) (own := RX9) (by decide) rfl rfl (Nat.le_of_ble_eq_true rfl) ?_
  intro p e s m args below meth c A ls Q H locs S hr hw hl hQ
  have hx := S.1.1
  have hb := S.1.2.1
  have hts := S.1.2.2.2.2
  have hl : lv_has ls 3 [(0, .ref a_this), (1, .int y1), (2, .int y2)] := hl
  have hinX9 : ∀ w ∈ u_ws RX9 TX9 13, w ∈ wsX9_triesKind := (fun _ h => List.mem_cons_of_mem _ (List.mem_append_left _ (List.mem_append_left _ (List.mem_append_right _ h))))
  have F37 : FLk s args wsX9_triesKind RX9 37 RX9 TX9 13 9 4 := ⟨hinX9, rfl, by decide, hts (.fieldLink RX9 37 "SlowPaths" "trial" "LSlowPaths$Setting;") (List.mem_of_getElem? (i := 2) rfl)⟩
  have F75 : FLk s args wsX9_triesKind RX9 75 RX9 TX9 13 9 10 := ⟨hinX9, rfl, by decide, hts (.fieldLink RX9 75 "SlowPaths" "net" "LSlowPaths$Net;") (List.mem_of_getElem? (i := 1) rfl)⟩
  have hinX5 : ∀ w ∈ u_ws RX5 TX5 3, w ∈ wsX9_triesKind := (fun _ h => List.mem_cons_of_mem _ (List.mem_append_left _ (List.mem_append_right _ h)))
  have F120 : FLk s args wsX9_triesKind RX9 120 RX5 TX5 3 5 0 := ⟨hinX5, rfl, by decide, hts (.fieldLink RX9 120 "SlowPaths$Setting" "kinds" "[I") (List.mem_of_getElem? (i := 3) rfl)⟩
  have h := hf
  rw [f_X9_triesKind] at h
  refine lv_aload_n hx hb dX9_triesKind_0 rfl (lv_at hl 0 rfl) ?_
  refine z_get S hw F75 0 rfl rfl dX9_triesKind_1 ?_
  refine lv_iload_n hx hb dX9_triesKind_4 rfl (lv_at hl 1 rfl) ?_
  obtain ⟨r_1, e5_1, h⟩ := obd1_el h
  refine zr_VI (As := [.int y1]) (rest := []) (q0 := 0) S hw (c_X2_hasGate l D cI cJ cZ cS H.size N a_net a_net_told a_net_lefts a_net_rights a_net_nexts a_net_starts a_net_sizes a_net_steps a_net_links i_net_inputs i_net_gates i_net_paths y1 r_1 e5_1) (cwV 1 hts gX9_triesKind_X2_hasGate rfl rfl rfl dv_X2_hasGate ⟨Nat.le_of_ble_eq_true rfl, Nat.le_of_ble_eq_true rfl⟩) [1] rfl rfl rfl rfl rfl rfl hl.1 rfl (Nat.le_of_ble_eq_true rfl) dX9_triesKind_5 ⟨Nat.zero_le _, Nat.zero_le _⟩ ?_
  refine lv_if_eq (tgt := 29) hx hb dX9_triesKind_8 (by decide) (fun hc => ?_) (fun hc => ?_)
  · replace h := if_t hc h
    refine lv_iconst (v := (0 : Int32)) hx hb dX9_triesKind_29 (by decide) ?_
    cases h
    exact z_zret S hQ hr rfl hw [0, 1, 2, 3] rfl rfl dX9_triesKind_30
  · replace h := if_f hc h
    refine lv_iload_n hx hb dX9_triesKind_11 rfl (lv_at hl 2 rfl) ?_
    refine lv_iconst (v := (3 : Int32)) hx hb dX9_triesKind_12 (by decide) ?_
    refine lv_icmp_gt (tgt := 29) hx hb dX9_triesKind_13 (by decide) (fun hc => ?_) (fun hc => ?_)
    · replace h := if_t hc h
      refine lv_iconst (v := (0 : Int32)) hx hb dX9_triesKind_29 (by decide) ?_
      cases h
      exact z_zret S hQ hr rfl hw [0, 1, 2, 3] rfl rfl dX9_triesKind_30
    · replace h := if_f hc h
      refine lv_aload_n hx hb dX9_triesKind_16 rfl (lv_at hl 0 rfl) ?_
      refine z_get S hw F37 0 rfl rfl dX9_triesKind_17 ?_
      refine z_get S hw F120 2 rfl rfl dX9_triesKind_20 ?_
      refine lv_iload_n hx hb dX9_triesKind_23 rfl (lv_at hl 1 rfl) ?_
      obtain ⟨hg, h⟩ := grd_el h
      refine z_iald S hw 3 0 rfl rfl hg dX9_triesKind_24 ?_
      refine lv_iconst (v := (4 : Int32)) hx hb dX9_triesKind_25 (by decide) ?_
      refine lv_icmp_ne (tgt := 31) hx hb dX9_triesKind_26 (by decide) (fun hc => ?_) (fun hc => ?_)
      · replace h := if_f hc h
        refine lv_aload_n hx hb dX9_triesKind_31 rfl (lv_at hl 0 rfl) ?_
        refine z_get S hw F37 0 rfl rfl dX9_triesKind_32 ?_
        refine z_get S hw F120 2 rfl rfl dX9_triesKind_35 ?_
        refine lv_iload_n hx hb dX9_triesKind_38 rfl (lv_at hl 1 rfl) ?_
        refine lv_iload_n hx hb dX9_triesKind_39 rfl (lv_at hl 2 rfl) ?_
        obtain ⟨hg, h⟩ := grd_el h
        obtain ⟨k_trial_kinds_2, ek_trial_kinds_2, h⟩ := bnd_ex h
        refine z_iast S hw ek_trial_kinds_2 3 0 rfl rfl hg dX9_triesKind_40 (fun H locs hw => ?_)
        refine lv_iconst (v := (1 : Int32)) hx hb dX9_triesKind_41 (by decide) ?_
        cases h
        exact z_zret S hQ hr rfl hw [0, 1, 2, 3] rfl rfl dX9_triesKind_42
      · replace h := if_t hc h
        refine lv_iconst (v := (0 : Int32)) hx hb dX9_triesKind_29 (by decide) ?_
        cases h
        exact z_zret S hQ hr rfl hw [0, 1, 2, 3] rfl rfl dX9_triesKind_30
abbrev rmX9_pathsAsLong : Room := { frames := 1, cells := 0, slots := 0, locals := 24 }
theorem dv_X9_pathsAsLong : yX9_pathsAsLong.cls = RX9 ∧ yX9_pathsAsLong.cls ≠ "java/lang/invoke/MethodHandle" ∧ yX9_pathsAsLong.cls ≠ "java/lang/invoke/VarHandle" ∧ (parseMethodDescriptor yX9_pathsAsLong.desc).map (fun d => d.parameters.length) = some 1 := by decide +kernel
noncomputable def f_X9_pathsAsLong_L4 (N : Nat) (y1 : Int32) (i_net_paths : Int32) (k_trial_delays : (Nat → Int32)) (k_net_sizes : (Nat → Int32)) (k_net_steps : (Nat → Int32)) (j43_1 : Int32 → Option (Int32)) : Nat → Int32 → Int32 → Option (Int32)
  | 0, _, _ => none
  | n_4 + 1, x2_2, x3_3 =>
    (if i_net_paths ≤ x3_3 then (j43_1 x2_2) else (obd1 (f_X2_lengthOf N x3_3 k_trial_delays k_net_sizes k_net_steps) fun (r_4 : Int32) => bnd (fun (x2_5 : Int32) => (bnd (x3_3 + (1 : Int32)) fun (x3_6 : Int32) => f_X9_pathsAsLong_L4 N y1 i_net_paths k_trial_delays k_net_sizes k_net_steps j43_1 n_4 x2_5 x3_6)) fun (j37_1 : Int32 → Option (Int32)) => (if r_4 < y1 then (j37_1 x2_2) else (bnd (x2_2 + (1 : Int32)) fun (x2_7 : Int32) => j37_1 x2_7))))
noncomputable def f_X9_pathsAsLong (N : Nat) (y1 : Int32) (i_net_paths : Int32) (k_trial_delays : (Nat → Int32)) (k_net_sizes : (Nat → Int32)) (k_net_steps : (Nat → Int32)) : Option (Int32) :=
  bnd (fun (x2_1 : Int32) => (some (x2_1))) fun (j43_1 : Int32 → Option (Int32)) => f_X9_pathsAsLong_L4 N y1 i_net_paths k_trial_delays k_net_sizes k_net_steps j43_1 N ((0 : Int32)) ((0 : Int32))
set_option maxHeartbeats 4000000 in
set_option maxRecDepth 100000 in
theorem c_X9_pathsAsLong (l : Launch) (D : va_G) (cI cJ cZ cS : ClassId) (sz N : Nat) (a_this a_net a_trial a_trial_delays a_net_sizes a_net_steps a_script a_acts a_sightings a_now a_slots a_levels a_table a_waves a_spans a_draft a_net_told a_net_lefts a_net_rights a_net_nexts a_net_starts a_net_links a_trial_kinds : Nat) (i_this_lastDraw : Int64) (i_net_inputs : Int32) (i_net_gates : Int32) (i_net_paths : Int32) (i_trial_held : Int32) (k_trial_delays : (Nat → Int32)) (k_net_sizes : (Nat → Int32)) (k_net_steps : (Nat → Int32)) (y1 : Int32) (rr : Int32) (hf : f_X9_pathsAsLong N y1 i_net_paths k_trial_delays k_net_sizes k_net_steps = some (rr)) : MetIr l yX9_pathsAsLong wsX9_pathsAsLong rmX9_pathsAsLong D (tyA cI cJ cZ cS) [(a_this, .inr (9, [.ref a_script, .ref a_acts, .ref a_sightings, .ref a_now, .ref a_trial, .ref a_slots, .ref a_levels, .ref a_table, .ref a_waves, .ref a_spans, .ref a_net, .ref a_draft, .long i_this_lastDraw])), (a_net, .inr (2, [.int i_net_inputs, .int i_net_gates, .int i_net_paths, .ref a_net_told, .ref a_net_lefts, .ref a_net_rights, .ref a_net_nexts, .ref a_net_starts, .ref a_net_sizes, .ref a_net_steps, .ref a_net_links])), (a_trial, .inr (5, [.ref a_trial_kinds, .ref a_trial_delays, .int i_trial_held])), (a_trial_delays, .inl (cI, 8, .inl k_trial_delays)), (a_net_sizes, .inl (cI, 55, .inl k_net_sizes)), (a_net_steps, .inl (cI, 440, .inl k_net_steps))] sz [.ref a_this, .int y1] rr := by
  refine entIr (cc := cX9_pathsAsLong) (maxL := 4) (own := RX9) (by decide) rfl rfl (Nat.le_of_ble_eq_true rfl) ?_
  intro p e s m args below meth c A ls Q S hr hw hl hQ
  have hx := S.1.1
  have hb := S.1.2.1
  have hts := S.1.2.2.2.2
  have hl : lv_has ls 4 [(0, .ref a_this), (1, .int y1)] := hl
  have hinX9 : ∀ w ∈ u_ws RX9 TX9 13, w ∈ wsX9_pathsAsLong := (fun _ h => List.mem_cons_of_mem _ (List.mem_append_left _ (List.mem_append_left _ (List.mem_append_right _ h))))
  have F37 : FLk s args wsX9_pathsAsLong RX9 37 RX9 TX9 13 9 4 := ⟨hinX9, rfl, by decide, hts (.fieldLink RX9 37 "SlowPaths" "trial" "LSlowPaths$Setting;") (List.mem_of_getElem? (i := 3) rfl)⟩
  have F75 : FLk s args wsX9_pathsAsLong RX9 75 RX9 TX9 13 9 10 := ⟨hinX9, rfl, by decide, hts (.fieldLink RX9 75 "SlowPaths" "net" "LSlowPaths$Net;") (List.mem_of_getElem? (i := 1) rfl)⟩
  have hinX2 : ∀ w ∈ u_ws RX2 TX2 11, w ∈ wsX9_pathsAsLong := (fun _ h => List.mem_cons_of_mem _ (List.mem_append_left _ (List.mem_append_right _ h)))
  have F113 : FLk s args wsX9_pathsAsLong RX9 113 RX2 TX2 11 2 2 := ⟨hinX2, rfl, by decide, hts (.fieldLink RX9 113 "SlowPaths$Net" "paths" "I") (List.mem_of_getElem? (i := 2) rfl)⟩
  have hinX5 : ∀ w ∈ u_ws RX5 TX5 3, w ∈ wsX9_pathsAsLong := (fun _ h => List.mem_cons_of_mem _ (List.mem_append_right _ h))
  have F129 : FLk s args wsX9_pathsAsLong RX9 129 RX5 TX5 3 5 1 := ⟨hinX5, rfl, by decide, hts (.fieldLink RX9 129 "SlowPaths$Setting" "delays" "[I") (List.mem_of_getElem? (i := 4) rfl)⟩
  have h := hf
  rw [f_X9_pathsAsLong] at h
  refine lv_iconst (v := (0 : Int32)) hx hb dX9_pathsAsLong_0 (by decide) ?_
  refine lv_istore_n (lv' := [(2, .int (0 : Int32)), (0, .ref a_this), (1, .int y1)]) hx hb dX9_pathsAsLong_1 rfl hl (by decide) rfl (fun ls hl => ?_)
  refine lv_iconst (v := (0 : Int32)) hx hb dX9_pathsAsLong_2 (by decide) ?_
  refine lv_istore_n (lv' := [(3, .int (0 : Int32)), (2, .int (0 : Int32)), (0, .ref a_this), (1, .int y1)]) hx hb dX9_pathsAsLong_3 rfl hl (by decide) rfl (fun ls hl => ?_)
  obtain ⟨j43_1, ej43_1, h⟩ := bnd_ex h
  have hj43_1 : ∀ (x2_1 : Int32) (ls : Array Slot), j43_1 x2_1 = some (rr) → lv_has ls 4 [(2, .int x2_1)] → W p l e rmX9_pathsAsLong s m args below meth c s.heap [] 0 0 Q (F0 m 43 ls []) := by
    intro x2_1 ls h hl
    replace h := ap1 ej43_1 h
    refine lv_iload_n hx hb dX9_pathsAsLong_43 rfl (lv_at hl 0 rfl) ?_
    cases h
    exact z_iretr S hQ hr dX9_pathsAsLong_44
  have hL4_1 : ∀ (nf : Nat) (x2_2 : Int32) (x3_3 : Int32) (ls : Array Slot), f_X9_pathsAsLong_L4 N y1 i_net_paths k_trial_delays k_net_sizes k_net_steps j43_1 nf x2_2 x3_3 = some (rr) → lv_has ls 4 [(0, .ref a_this), (1, .int y1), (2, .int x2_2), (3, .int x3_3)] → W p l e rmX9_pathsAsLong s m args below meth c s.heap [] 0 0 Q (F0 m 4 ls []) := by
    intro nf
    induction nf with
    | zero =>
      intro x2_2 x3_3 ls h
      rw [f_X9_pathsAsLong_L4] at h
      cases h
    | succ n_4 ih_4 =>
      intro x2_2 x3_3 ls h hl
      rw [f_X9_pathsAsLong_L4] at h
      refine lv_iload_n hx hb dX9_pathsAsLong_4 rfl (lv_at hl 3 rfl) ?_
      refine lv_aload_n hx hb dX9_pathsAsLong_5 rfl (lv_at hl 0 rfl) ?_
      refine z_get S hw F75 0 rfl rfl dX9_pathsAsLong_6 ?_
      refine z_get S hw F113 1 rfl rfl dX9_pathsAsLong_9 ?_
      refine lv_icmp_ge (tgt := 43) hx hb dX9_pathsAsLong_12 (by decide) (fun hc => ?_) (fun hc => ?_)
      · replace h := if_t hc h
        exact hj43_1 x2_2 ls h (lv_sub hl [2] rfl)
      · replace h := if_f hc h
        refine lv_aload_n hx hb dX9_pathsAsLong_15 rfl (lv_at hl 0 rfl) ?_
        refine z_get S hw F75 0 rfl rfl dX9_pathsAsLong_16 ?_
        refine lv_iload_n hx hb dX9_pathsAsLong_19 rfl (lv_at hl 3 rfl) ?_
        refine lv_aload_n hx hb dX9_pathsAsLong_20 rfl (lv_at hl 0 rfl) ?_
        refine z_get S hw F37 0 rfl rfl dX9_pathsAsLong_21 ?_
        refine z_get S hw F129 2 rfl rfl dX9_pathsAsLong_24 ?_
        obtain ⟨r_4, e27_1, h⟩ := obd1_el h
        refine zr_VI (As := [.int x3_3, .ref a_trial_delays]) (rest := []) (q0 := 0) S hw (c_X2_lengthOf l D cI cJ cZ cS s.heap.size N a_net a_trial_delays a_net_sizes a_net_steps a_net_told a_net_lefts a_net_rights a_net_nexts a_net_starts a_net_links i_net_inputs i_net_gates i_net_paths k_trial_delays k_net_sizes k_net_steps x3_3 r_4 e27_1) (cwV 2 hts gX9_pathsAsLong_X2_lengthOf rfl rfl rfl dv_X2_lengthOf ⟨Nat.le_of_ble_eq_true rfl, Nat.le_of_ble_eq_true rfl⟩) [1, 3, 4, 5] rfl rfl rfl rfl rfl rfl hl.1 rfl (Nat.le_of_ble_eq_true rfl) dX9_pathsAsLong_27 ⟨Nat.zero_le _, Nat.zero_le _⟩ ?_
        refine lv_iload_n hx hb dX9_pathsAsLong_30 rfl (lv_at hl 1 rfl) ?_
        obtain ⟨j37_1, ej37_1, h⟩ := bnd_ex h
        have hj37_1 : ∀ (x2_5 : Int32) (ls : Array Slot), j37_1 x2_5 = some (rr) → lv_has ls 4 [(0, .ref a_this), (1, .int y1), (2, .int x2_5), (3, .int x3_3)] → W p l e rmX9_pathsAsLong s m args below meth c s.heap [] 0 0 Q (F0 m 37 ls []) := by
          intro x2_5 ls h hl
          replace h := ap1 ej37_1 h
          obtain ⟨x3_6, ex3_6, h⟩ := bnd_ex h
          refine lv_iinc (v := x3_6) (lv' := [(3, .int x3_6), (0, .ref a_this), (1, .int y1), (2, .int x2_5)]) hx hb dX9_pathsAsLong_37 hl (k := 3) rfl (by rw [ex3_6]; rfl) (by decide) rfl (fun ls hl => ?_)
          refine lv_goto (tgt := 4) hx hb dX9_pathsAsLong_40 (by decide) ?_
          exact ih_4 x2_5 x3_6 ls h (lv_sub hl [1, 2, 3, 0] rfl)
        refine lv_icmp_lt (tgt := 37) hx hb dX9_pathsAsLong_31 (by decide) (fun hc => ?_) (fun hc => ?_)
        · replace h := if_t hc h
          exact hj37_1 x2_2 ls h hl
        · replace h := if_f hc h
          obtain ⟨x2_7, ex2_7, h⟩ := bnd_ex h
          refine lv_iinc (v := x2_7) (lv' := [(2, .int x2_7), (0, .ref a_this), (1, .int y1), (3, .int x3_3)]) hx hb dX9_pathsAsLong_34 hl (k := 2) rfl (by rw [ex2_7]; rfl) (by decide) rfl (fun ls hl => ?_)
          exact hj37_1 x2_7 ls h (lv_sub hl [1, 2, 0, 3] rfl)
  exact hL4_1 N ((0 : Int32)) ((0 : Int32)) ls h (lv_sub hl [2, 3, 1, 0] rfl)
