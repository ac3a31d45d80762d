abbrev rmX9_circuit : Room := { frames := 5, cells := 0, slots := 0, locals := 113 }
theorem dv_X9_circuit : yX9_circuit.cls = RX9 ∧ yX9_circuit.cls ≠ "java/lang/invoke/MethodHandle" ∧ yX9_circuit.cls ≠ "java/lang/invoke/VarHandle" ∧ (parseMethodDescriptor yX9_circuit.desc).map (fun d => d.parameters.length) = some 0 := by decide +kernel
noncomputable def f_X9_circuit_L72 (N : Nat) (j93_1 : Int32 → Int32 → Option (Int32 × Int32 × Int32 × Int32 × Int32 × Int32 × Int32 × (Nat → Int32) × (Nat → Int32) × (Nat → Int32) × (Nat → Int32) × (Nat → Int32) × (Nat → Int32) × (Nat → Int32) × (Nat → Int32) × (Nat → Int32) × (Nat → Int32) × Int32 × Int32 × Bool)) : Nat → Int32 → Int32 → Int32 → Option (Int32 × Int32 × Int32 × Int32 × Int32 × Int32 × Int32 × (Nat → Int32) × (Nat → Int32) × (Nat → Int32) × (Nat → Int32) × (Nat → Int32) × (Nat → Int32) × (Nat → Int32) × (Nat → Int32) × (Nat → Int32) × (Nat → Int32) × Int32 × Int32 × Bool)
  | 0, _, _, _ => none
  | n_72 + 1, x2_20, i_slots_0_held_21, i_slots_1_held_22 =>
    (if (2 : Int32) ≤ x2_20 then (j93_1 i_slots_0_held_21 i_slots_1_held_22) else ((if x2_20 = (0 : Int32) then (bnd (x2_20 + (1 : Int32)) fun (x2_23 : Int32) => f_X9_circuit_L72 N j93_1 n_72 x2_23 ((0 : Int32)) i_slots_1_held_22) else (grd (decide (x2_20 = (1 : Int32))) <| bnd (x2_20 + (1 : Int32)) fun (x2_24 : Int32) => f_X9_circuit_L72 N j93_1 n_72 x2_24 i_slots_0_held_21 ((0 : Int32))))))
noncomputable def f_X9_circuit (N : Nat)  (i_script_size : Int32) (i_script_at : Int32) (i_draft_inputs : Int32) (i_draft_gates : Int32) (i_draft_paths : Int32) (i_acts_size : Int32) (i_table_madeFor : Int32) (k_script_letters : (Nat → Int32)) (k_draft_told : (Nat → Int32)) (k_draft_lefts : (Nat → Int32)) (k_draft_rights : (Nat → Int32)) (k_draft_nexts : (Nat → Int32)) (k_draft_starts : (Nat → Int32)) (k_draft_sizes : (Nat → Int32)) (k_draft_links : (Nat → Int32)) (k_draft_steps : (Nat → Int32)) (k_now_kinds : (Nat → Int32)) (k_now_delays : (Nat → Int32)) (i_slots_0_held : Int32) (i_slots_1_held : Int32) : Option (Int32 × Int32 × Int32 × Int32 × Int32 × Int32 × Int32 × (Nat → Int32) × (Nat → Int32) × (Nat → Int32) × (Nat → Int32) × (Nat → Int32) × (Nat → Int32) × (Nat → Int32) × (Nat → Int32) × (Nat → Int32) × (Nat → Int32) × Int32 × Int32 × Bool) :=
  obd9 (f_X4_readInto N i_script_size i_script_at i_draft_inputs i_draft_gates i_draft_paths k_script_letters k_draft_told k_draft_lefts k_draft_rights k_draft_nexts) fun (r_1 : Int32) (i_script_at_2 : Int32) (i_draft_inputs_3 : Int32) (i_draft_gates_4 : Int32) (i_draft_paths_5 : Int32) (k_draft_told_6 : (Nat → Int32)) (k_draft_lefts_7 : (Nat → Int32)) (k_draft_rights_8 : (Nat → Int32)) (k_draft_nexts_9 : (Nat → Int32)) => (if r_1 = (-9 : Int32) then (obd5 (f_X2_numberPaths N i_draft_inputs_3 i_draft_gates_4 i_draft_paths_5 k_draft_starts k_draft_sizes k_draft_links k_draft_lefts_7 k_draft_steps k_draft_rights_8) fun (i_draft_paths_10 : Int32) (k_draft_starts_11 : (Nat → Int32)) (k_draft_sizes_12 : (Nat → Int32)) (k_draft_links_13 : (Nat → Int32)) (k_draft_steps_14 : (Nat → Int32)) => obd2 (f_X5_begin N k_draft_told_6 k_now_kinds k_now_delays) fun (k_now_kinds_15 : (Nat → Int32)) (k_now_delays_16 : (Nat → Int32)) => obd1 (f_X3_forget N i_table_madeFor) fun (i_table_madeFor_17 : Int32) => bnd (fun (i_slots_0_held_18 : Int32) (i_slots_1_held_19 : Int32) => (some (i_draft_paths_10, i_script_at_2, i_draft_inputs_3, i_draft_gates_4, i_draft_paths_10, (0 : Int32), i_table_madeFor_17, k_draft_told_6, k_draft_lefts_7, k_draft_rights_8, k_draft_nexts_9, k_draft_starts_11, k_draft_sizes_12, k_draft_links_13, k_draft_steps_14, k_now_kinds_15, k_now_delays_16, i_slots_0_held_18, i_slots_1_held_19, true))) fun (j93_1 : Int32 → Int32 → Option (Int32 × Int32 × Int32 × Int32 × Int32 × Int32 × Int32 × (Nat → Int32) × (Nat → Int32) × (Nat → Int32) × (Nat → Int32) × (Nat → Int32) × (Nat → Int32) × (Nat → Int32) × (Nat → Int32) × (Nat → Int32) × (Nat → Int32) × Int32 × Int32 × Bool)) => f_X9_circuit_L72 N j93_1 N ((0 : Int32)) i_slots_0_held i_slots_1_held) else (some ((-3 : Int32), i_script_at_2, i_draft_inputs_3, i_draft_gates_4, i_draft_paths_5, i_acts_size, i_table_madeFor, k_draft_told_6, k_draft_lefts_7, k_draft_rights_8, k_draft_nexts_9, k_draft_starts, k_draft_sizes, k_draft_links, k_draft_steps, k_now_kinds, k_now_delays, i_slots_0_held, i_slots_1_held, false)))
set_option maxHeartbeats 4000000 in
set_option maxRecDepth 100000 in
theorem c_X9_circuit (l : Launch) (D : va_G) (cI cJ cZ cS : ClassId) (sz N : Nat) (a_this a_script a_draft a_now a_acts a_table a_slots a_script_letters a_draft_told a_draft_lefts a_draft_rights a_draft_nexts a_draft_starts a_draft_sizes a_draft_links a_draft_steps a_now_kinds a_now_delays a_slots_0 a_slots_1 a_sightings a_trial a_levels a_waves a_spans a_net a_acts_gates a_acts_turned a_acts_olds a_table_levels a_table_sureLinks a_table_risers a_table_fallers a_table_captured a_slots_0_kinds a_slots_0_delays a_slots_1_kinds a_slots_1_delays : Nat) (i_this_lastDraw : Int64) (i_script_size : Int32) (i_script_at : Int32) (i_draft_inputs : Int32) (i_draft_gates : Int32) (i_draft_paths : Int32) (i_now_held : Int32) (i_acts_size : Int32) (i_table_madeFor : Int32) (k_script_letters : (Nat → Int32)) (k_draft_told : (Nat → Int32)) (k_draft_lefts : (Nat → Int32)) (k_draft_rights : (Nat → Int32)) (k_draft_nexts : (Nat → Int32)) (k_draft_starts : (Nat → Int32)) (k_draft_sizes : (Nat → Int32)) (k_draft_links : (Nat → Int32)) (k_draft_steps : (Nat → Int32)) (k_now_kinds : (Nat → Int32)) (k_now_delays : (Nat → Int32)) (i_slots_0_held : Int32) (i_slots_1_held : Int32)  (rr : Int32) (o_script_at : Int32) (o_draft_inputs : Int32) (o_draft_gates : Int32) (o_draft_paths : Int32) (o_acts_size : Int32) (o_table_madeFor : Int32) (o_draft_told : (Nat → Int32)) (o_draft_lefts : (Nat → Int32)) (o_draft_rights : (Nat → Int32)) (o_draft_nexts : (Nat → Int32)) (o_draft_starts : (Nat → Int32)) (o_draft_sizes : (Nat → Int32)) (o_draft_links : (Nat → Int32)) (o_draft_steps : (Nat → Int32)) (o_now_kinds : (Nat → Int32)) (o_now_delays : (Nat → Int32)) (o_slots_0_held : Int32) (o_slots_1_held : Int32) (o_sw : Bool) (hf : f_X9_circuit N i_script_size i_script_at i_draft_inputs i_draft_gates i_draft_paths i_acts_size i_table_madeFor k_script_letters k_draft_told k_draft_lefts k_draft_rights k_draft_nexts k_draft_starts k_draft_sizes k_draft_links k_draft_steps k_now_kinds k_now_delays i_slots_0_held i_slots_1_held = some (rr, o_script_at, o_draft_inputs, o_draft_gates, o_draft_paths, o_acts_size, o_table_madeFor, o_draft_told, o_draft_lefts, o_draft_rights, o_draft_nexts, o_draft_starts, o_draft_sizes, o_draft_links, o_draft_steps, o_now_kinds, o_now_delays, o_slots_0_held, o_slots_1_held, o_sw)) : MetI l yX9_circuit wsX9_circuit rmX9_circuit D (tyA cI cJ cZ cS) [(a_this, .inr (9, [.ref a_script, .ref a_acts, .ref a_sightings, .ref a_now, .ref a_trial, .ref a_slots, .ref a_levels, .ref a_table, .ref a_waves, .ref a_spans, .ref a_net, .ref a_draft, .long i_this_lastDraw])), (a_script, .inr (4, [.ref a_script_letters, .int i_script_size, .int i_script_at])), (a_draft, .inr (2, [.int i_draft_inputs, .int i_draft_gates, .int i_draft_paths, .ref a_draft_told, .ref a_draft_lefts, .ref a_draft_rights, .ref a_draft_nexts, .ref a_draft_starts, .ref a_draft_sizes, .ref a_draft_steps, .ref a_draft_links])), (a_now, .inr (5, [.ref a_now_kinds, .ref a_now_delays, .int i_now_held])), (a_acts, .inr (0, [.ref a_acts_gates, .ref a_acts_turned, .ref a_acts_olds, .int i_acts_size])), (a_table, .inr (3, [.ref a_table_levels, .ref a_table_sureLinks, .ref a_table_risers, .ref a_table_fallers, .ref a_table_captured, .int i_table_madeFor])), (a_slots, .inl (cS, 2, .inr (.inr (.inr (.inr (slF a_slots_0 a_slots_1)))))), (a_script_letters, .inl (cI, 40, .inl k_script_letters)), (a_draft_told, .inl (cI, 8, .inl k_draft_told)), (a_draft_lefts, .inl (cI, 8, .inl k_draft_lefts)), (a_draft_rights, .inl (cI, 8, .inl k_draft_rights)), (a_draft_nexts, .inl (cI, 4, .inl k_draft_nexts)), (a_draft_starts, .inl (cI, 55, .inl k_draft_starts)), (a_draft_sizes, .inl (cI, 55, .inl k_draft_sizes)), (a_draft_links, .inl (cI, 55, .inl k_draft_links)), (a_draft_steps, .inl (cI, 440, .inl k_draft_steps)), (a_now_kinds, .inl (cI, 8, .inl k_now_kinds)), (a_now_delays, .inl (cI, 8, .inl k_now_delays)), (a_slots_0, .inr (5, [.ref a_slots_0_kinds, .ref a_slots_0_delays, .int i_slots_0_held])), (a_slots_1, .inr (5, [.ref a_slots_1_kinds, .ref a_slots_1_delays, .int i_slots_1_held]))] sz [.ref a_this] rr [(a_this, .inr (9, [.ref a_script, .ref a_acts, .ref a_sightings, .ref a_now, .ref a_trial, .ref a_slots, .ref a_levels, .ref a_table, .ref a_waves, .ref a_spans, .ref (cond o_sw a_draft a_net), .ref (cond o_sw a_net a_draft), .long i_this_lastDraw])), (a_script, .inr (4, [.ref a_script_letters, .int i_script_size, .int o_script_at])), (a_draft, .inr (2, [.int o_draft_inputs, .int o_draft_gates, .int o_draft_paths, .ref a_draft_told, .ref a_draft_lefts, .ref a_draft_rights, .ref a_draft_nexts, .ref a_draft_starts, .ref a_draft_sizes, .ref a_draft_steps, .ref a_draft_links])), (a_now, .inr (5, [.ref a_now_kinds, .ref a_now_delays, .int i_now_held])), (a_acts, .inr (0, [.ref a_acts_gates, .ref a_acts_turned, .ref a_acts_olds, .int o_acts_size])), (a_table, .inr (3, [.ref a_table_levels, .ref a_table_sureLinks, .ref a_table_risers, .ref a_table_fallers, .ref a_table_captured, .int o_table_madeFor])), (a_slots, .inl (cS, 2, .inr (.inr (.inr (.inr (slF a_slots_0 a_slots_1)))))), (a_script_letters, .inl (cI, 40, .inl k_script_letters)), (a_draft_told, .inl (cI, 8, .inl o_draft_told)), (a_draft_lefts, .inl (cI, 8, .inl o_draft_lefts)), (a_draft_rights, .inl (cI, 8, .inl o_draft_rights)), (a_draft_nexts, .inl (cI, 4, .inl o_draft_nexts)), (a_draft_starts, .inl (cI, 55, .inl o_draft_starts)), (a_draft_sizes, .inl (cI, 55, .inl o_draft_sizes)), (a_draft_links, .inl (cI, 55, .inl o_draft_links)), (a_draft_steps, .inl (cI, 440, .inl o_draft_steps)), (a_now_kinds, .inl (cI, 8, .inl o_now_kinds)), (a_now_delays, .inl (cI, 8, .inl o_now_delays)), (a_slots_0, .inr (5, [.ref a_slots_0_kinds, .ref a_slots_0_delays, .int o_slots_0_held])), (a_slots_1, .inr (5, [.ref a_slots_1_kinds, .ref a_slots_1_delays, .int o_slots_1_held]))] := by
  refine entI (cc := cX9_circuit) (maxL := 3) (own := RX9) (by decide) rfl rfl (Nat.le_of_ble_eq_true rfl) ?_
  intro p e s m args below meth c A ls Q H locs S hr hw hl hQ
  have hx := S.1.1
  have hb := S.1.2.1
  have hts := S.1.2.2.2.2
  have hl : lv_has ls 3 [(0, .ref a_this)] := hl
  have hinX9 : ∀ w ∈ u_ws RX9 TX9 13, w ∈ wsX9_circuit := (fun _ h => List.mem_cons_of_mem _ (List.mem_append_left _ (List.mem_append_left _ (List.mem_append_left _ (List.mem_append_left _ (List.mem_append_left _ (List.mem_append_right _ h)))))))
  have F12 : FLk s args wsX9_circuit RX9 12 RX9 TX9 13 9 0 := ⟨hinX9, rfl, by decide, hts (.fieldLink RX9 12 "SlowPaths" "script" "LSlowPaths$Script;") (List.mem_of_getElem? (i := 1) rfl)⟩
  have F19 : FLk s args wsX9_circuit RX9 19 RX9 TX9 13 9 1 := ⟨hinX9, rfl, by decide, hts (.fieldLink RX9 19 "SlowPaths" "acts" "LSlowPaths$Acts;") (List.mem_of_getElem? (i := 5) rfl)⟩
  have F33 : FLk s args wsX9_circuit RX9 33 RX9 TX9 13 9 3 := ⟨hinX9, rfl, by decide, hts (.fieldLink RX9 33 "SlowPaths" "now" "LSlowPaths$Setting;") (List.mem_of_getElem? (i := 4) rfl)⟩
  have F40 : FLk s args wsX9_circuit RX9 40 RX9 TX9 13 9 5 := ⟨hinX9, rfl, by decide, hts (.fieldLink RX9 40 "SlowPaths" "slots" "[LSlowPaths$Setting;") (List.mem_of_getElem? (i := 8) rfl)⟩
  have F54 : FLk s args wsX9_circuit RX9 54 RX9 TX9 13 9 7 := ⟨hinX9, rfl, by decide, hts (.fieldLink RX9 54 "SlowPaths" "table" "LSlowPaths$PairTable;") (List.mem_of_getElem? (i := 7) rfl)⟩
  have F75 : FLk s args wsX9_circuit RX9 75 RX9 TX9 13 9 10 := ⟨hinX9, rfl, by decide, hts (.fieldLink RX9 75 "SlowPaths" "net" "LSlowPaths$Net;") (List.mem_of_getElem? (i := 3) rfl)⟩
  have F79 : FLk s args wsX9_circuit RX9 79 RX9 TX9 13 9 11 := ⟨hinX9, rfl, by decide, hts (.fieldLink RX9 79 "SlowPaths" "draft" "LSlowPaths$Net;") (List.mem_of_getElem? (i := 2) rfl)⟩
  have hinX0 : ∀ w ∈ u_ws RX0 TX0 4, w ∈ wsX9_circuit := (fun _ h => List.mem_cons_of_mem _ (List.mem_append_left _ (List.mem_append_left _ (List.mem_append_left _ (List.mem_append_left _ (List.mem_append_right _ h))))))
  have F105 : FLk s args wsX9_circuit RX9 105 RX0 TX0 4 0 3 := ⟨hinX0, rfl, by decide, hts (.fieldLink RX9 105 "SlowPaths$Acts" "size" "I") (List.mem_of_getElem? (i := 6) rfl)⟩
  have hinX5 : ∀ w ∈ u_ws RX5 TX5 3, w ∈ wsX9_circuit := (fun _ h => List.mem_cons_of_mem _ (List.mem_append_left _ (List.mem_append_left _ (List.mem_append_left _ (List.mem_append_right _ h)))))
  have F109 : FLk s args wsX9_circuit RX9 109 RX5 TX5 3 5 2 := ⟨hinX5, rfl, by decide, hts (.fieldLink RX9 109 "SlowPaths$Setting" "held" "Z") (List.mem_of_getElem? (i := 9) rfl)⟩
  have hinX2 : ∀ w ∈ u_ws RX2 TX2 11, w ∈ wsX9_circuit := (fun _ h => List.mem_cons_of_mem _ (List.mem_append_left _ (List.mem_append_left _ (List.mem_append_right _ h))))
  have F113 : FLk s args wsX9_circuit RX9 113 RX2 TX2 11 2 2 := ⟨hinX2, rfl, by decide, hts (.fieldLink RX9 113 "SlowPaths$Net" "paths" "I") (List.mem_of_getElem? (i := 10) rfl)⟩
  have P75 : PLk TX9 13 10 tyX9 false (.object "SlowPaths$Net") := ⟨tyX9_ok, nmX9, rfl, rfl⟩
  have P79 : PLk TX9 13 11 tyX9 false (.object "SlowPaths$Net") := ⟨tyX9_ok, nmX9, rfl, rfl⟩
  have P105 : PLk TX0 4 3 tyX0 false .int := ⟨tyX0_ok, nmX0, rfl, rfl⟩
  have P109 : PLk TX5 3 2 tyX5 false .boolean := ⟨tyX5_ok, nmX5, rfl, rfl⟩
  have h := hf
  rw [f_X9_circuit] at h
  refine lv_aload_n hx hb dX9_circuit_0 rfl (lv_at hl 0 rfl) ?_
  refine z_get S hw F12 0 rfl rfl dX9_circuit_1 ?_
  refine lv_aload_n hx hb dX9_circuit_4 rfl (lv_at hl 0 rfl) ?_
  refine z_get S hw F79 0 rfl rfl dX9_circuit_5 ?_
  obtain ⟨r_1, i_script_at_2, i_draft_inputs_3, i_draft_gates_4, i_draft_paths_5, k_draft_told_6, k_draft_lefts_7, k_draft_rights_8, k_draft_nexts_9, e8_1, h⟩ := obd9_el h
  refine zc_VI (As := [.ref a_draft]) (rest := []) (wr := [(a_this, .inr (9, [.ref a_script, .ref a_acts, .ref a_sightings, .ref a_now, .ref a_trial, .ref a_slots, .ref a_levels, .ref a_table, .ref a_waves, .ref a_spans, .ref a_net, .ref a_draft, .long i_this_lastDraw])), (a_now, .inr (5, [.ref a_now_kinds, .ref a_now_delays, .int i_now_held])), (a_acts, .inr (0, [.ref a_acts_gates, .ref a_acts_turned, .ref a_acts_olds, .int i_acts_size])), (a_table, .inr (3, [.ref a_table_levels, .ref a_table_sureLinks, .ref a_table_risers, .ref a_table_fallers, .ref a_table_captured, .int i_table_madeFor])), (a_slots, .inl (cS, 2, .inr (.inr (.inr (.inr (slF a_slots_0 a_slots_1)))))), (a_draft_starts, .inl (cI, 55, .inl k_draft_starts)), (a_draft_sizes, .inl (cI, 55, .inl k_draft_sizes)), (a_draft_links, .inl (cI, 55, .inl k_draft_links)), (a_draft_steps, .inl (cI, 440, .inl k_draft_steps)), (a_now_kinds, .inl (cI, 8, .inl k_now_kinds)), (a_now_delays, .inl (cI, 8, .inl k_now_delays)), (a_slots_0, .inr (5, [.ref a_slots_0_kinds, .ref a_slots_0_delays, .int i_slots_0_held])), (a_slots_1, .inr (5, [.ref a_slots_1_kinds, .ref a_slots_1_delays, .int i_slots_1_held]))]) (q0 := 0) S hw (c_X4_readInto l D cI cJ cZ cS H.size N a_script a_draft a_script_letters a_draft_told a_draft_lefts a_draft_rights a_draft_nexts a_draft_starts a_draft_sizes a_draft_steps a_draft_links i_script_size i_script_at i_draft_inputs i_draft_gates i_draft_paths k_script_letters k_draft_told k_draft_lefts k_draft_rights k_draft_nexts r_1 i_script_at_2 i_draft_inputs_3 i_draft_gates_4 i_draft_paths_5 k_draft_told_6 k_draft_lefts_7 k_draft_rights_8 k_draft_nexts_9 e8_1) (cwV 1 hts gX9_circuit_X4_readInto rfl rfl rfl dv_X4_readInto ⟨Nat.le_of_ble_eq_true rfl, Nat.le_of_ble_eq_true rfl⟩) [1, 2, 7, 8, 9, 10, 11] [0, 3, 4, 5, 6, 12, 13, 14, 15, 16, 17, 18, 19] rfl rfl rfl rfl (by decide) rfl rfl rfl rfl hl.1 rfl (Nat.le_of_ble_eq_true rfl) dX9_circuit_8 ⟨Nat.zero_le _, Nat.zero_le _⟩ (fun H locs hw => ?_)
  refine lv_bipush (v := (-9 : Int32)) hx hb dX9_circuit_11 (by decide) ?_
  refine lv_icmp_eq (tgt := 19) hx hb dX9_circuit_13 (by decide) (fun hc => ?_) (fun hc => ?_)
  · replace h := if_t hc h
    refine lv_aload_n hx hb dX9_circuit_19 rfl (lv_at hl 0 rfl) ?_
    refine z_get S hw F75 0 rfl rfl dX9_circuit_20 ?_
    refine lv_astore_n (lv' := [(1, .ref a_net), (0, .ref a_this)]) hx hb dX9_circuit_23 rfl hl (by decide) rfl (fun ls hl => ?_)
    refine lv_aload_n hx hb dX9_circuit_24 rfl (lv_at hl 1 rfl) ?_
    refine lv_aload_n hx hb dX9_circuit_25 rfl (lv_at hl 1 rfl) ?_
    refine z_get S hw F79 0 rfl rfl dX9_circuit_26 ?_
    refine z_put S hw F75 P75 rfl rfl 0 rfl (Nat.le_of_ble_eq_true rfl) dX9_circuit_29 (fun H locs hw => ?_)
    refine lv_aload_n hx hb dX9_circuit_32 rfl (lv_at hl 1 rfl) ?_
    refine lv_aload_n hx hb dX9_circuit_33 rfl (lv_at hl 0 rfl) ?_
    refine z_put S hw F79 P79 rfl rfl 0 rfl (Nat.le_of_ble_eq_true rfl) dX9_circuit_34 (fun H locs hw => ?_)
    refine lv_aload_n hx hb dX9_circuit_37 rfl (lv_at hl 1 rfl) ?_
    refine z_get S hw F75 0 rfl rfl dX9_circuit_38 ?_
    obtain ⟨i_draft_paths_10, k_draft_starts_11, k_draft_sizes_12, k_draft_links_13, k_draft_steps_14, e41_1, h⟩ := obd5_el h
    refine zc_VV (As := []) (rest := []) (wr := [(a_this, .inr (9, [.ref a_script, .ref a_acts, .ref a_sightings, .ref a_now, .ref a_trial, .ref a_slots, .ref a_levels, .ref a_table, .ref a_waves, .ref a_spans, .ref a_draft, .ref a_net, .long i_this_lastDraw])), (a_now, .inr (5, [.ref a_now_kinds, .ref a_now_delays, .int i_now_held])), (a_acts, .inr (0, [.ref a_acts_gates, .ref a_acts_turned, .ref a_acts_olds, .int i_acts_size])), (a_table, .inr (3, [.ref a_table_levels, .ref a_table_sureLinks, .ref a_table_risers, .ref a_table_fallers, .ref a_table_captured, .int i_table_madeFor])), (a_slots, .inl (cS, 2, .inr (.inr (.inr (.inr (slF a_slots_0 a_slots_1)))))), (a_now_kinds, .inl (cI, 8, .inl k_now_kinds)), (a_now_delays, .inl (cI, 8, .inl k_now_delays)), (a_slots_0, .inr (5, [.ref a_slots_0_kinds, .ref a_slots_0_delays, .int i_slots_0_held])), (a_slots_1, .inr (5, [.ref a_slots_1_kinds, .ref a_slots_1_delays, .int i_slots_1_held])), (a_script, .inr (4, [.ref a_script_letters, .int i_script_size, .int i_script_at_2])), (a_script_letters, .inl (cI, 40, .inl k_script_letters)), (a_draft_told, .inl (cI, 8, .inl k_draft_told_6)), (a_draft_nexts, .inl (cI, 4, .inl k_draft_nexts_9))]) (q0 := 0) S hw (c_X2_numberPaths l D cI cJ cZ cS H.size N a_draft a_draft_starts a_draft_sizes a_draft_links a_draft_lefts a_draft_steps a_draft_rights a_draft_told a_draft_nexts i_draft_inputs_3 i_draft_gates_4 i_draft_paths_5 k_draft_starts k_draft_sizes k_draft_links k_draft_lefts_7 k_draft_steps k_draft_rights_8 i_draft_paths_10 k_draft_starts_11 k_draft_sizes_12 k_draft_links_13 k_draft_steps_14 e41_1) (cwV 0 hts gX9_circuit_X2_numberPaths rfl rfl rfl dv_X2_numberPaths ⟨Nat.le_of_ble_eq_true rfl, Nat.le_of_ble_eq_true rfl⟩) [14, 5, 6, 7, 17, 8, 18] [0, 1, 2, 3, 4, 9, 10, 11, 12, 13, 15, 16, 19] rfl rfl rfl rfl (by decide) rfl rfl rfl rfl hl.1 rfl (Nat.le_of_ble_eq_true rfl) dX9_circuit_41 ⟨Nat.zero_le _, Nat.zero_le _⟩ (fun H locs hw => ?_)
    refine lv_aload_n hx hb dX9_circuit_44 rfl (lv_at hl 1 rfl) ?_
    refine z_get S hw F33 0 rfl rfl dX9_circuit_45 ?_
    refine lv_aload_n hx hb dX9_circuit_48 rfl (lv_at hl 1 rfl) ?_
    refine z_get S hw F75 0 rfl rfl dX9_circuit_49 ?_
    obtain ⟨k_now_kinds_15, k_now_delays_16, e52_1, h⟩ := obd2_el h
    refine zc_VV (As := [.ref a_draft]) (rest := []) (wr := [(a_this, .inr (9, [.ref a_script, .ref a_acts, .ref a_sightings, .ref a_now, .ref a_trial, .ref a_slots, .ref a_levels, .ref a_table, .ref a_waves, .ref a_spans, .ref a_draft, .ref a_net, .long i_this_lastDraw])), (a_acts, .inr (0, [.ref a_acts_gates, .ref a_acts_turned, .ref a_acts_olds, .int i_acts_size])), (a_table, .inr (3, [.ref a_table_levels, .ref a_table_sureLinks, .ref a_table_risers, .ref a_table_fallers, .ref a_table_captured, .int i_table_madeFor])), (a_slots, .inl (cS, 2, .inr (.inr (.inr (.inr (slF a_slots_0 a_slots_1)))))), (a_slots_0, .inr (5, [.ref a_slots_0_kinds, .ref a_slots_0_delays, .int i_slots_0_held])), (a_slots_1, .inr (5, [.ref a_slots_1_kinds, .ref a_slots_1_delays, .int i_slots_1_held])), (a_script, .inr (4, [.ref a_script_letters, .int i_script_size, .int i_script_at_2])), (a_script_letters, .inl (cI, 40, .inl k_script_letters)), (a_draft_nexts, .inl (cI, 4, .inl k_draft_nexts_9)), (a_draft_starts, .inl (cI, 55, .inl k_draft_starts_11)), (a_draft_sizes, .inl (cI, 55, .inl k_draft_sizes_12)), (a_draft_links, .inl (cI, 55, .inl k_draft_links_13)), (a_draft_lefts, .inl (cI, 8, .inl k_draft_lefts_7)), (a_draft_steps, .inl (cI, 440, .inl k_draft_steps_14)), (a_draft_rights, .inl (cI, 8, .inl k_draft_rights_8))]) (q0 := 0) S hw (c_X5_begin l D cI cJ cZ cS H.size N a_now a_draft a_draft_told a_now_kinds a_now_delays a_draft_lefts a_draft_rights a_draft_nexts a_draft_starts a_draft_sizes a_draft_steps a_draft_links i_now_held i_draft_inputs_3 i_draft_gates_4 i_draft_paths_10 k_draft_told_6 k_now_kinds k_now_delays k_now_kinds_15 k_now_delays_16 e52_1) (cwV 1 hts gX9_circuit_X5_begin rfl rfl rfl dv_X5_begin ⟨Nat.le_of_ble_eq_true rfl, Nat.le_of_ble_eq_true rfl⟩) [1, 13, 11, 5, 6] [0, 2, 3, 4, 7, 8, 9, 10, 12, 14, 15, 16, 17, 18, 19] rfl rfl rfl rfl (by decide) rfl rfl rfl rfl hl.1 rfl (Nat.le_of_ble_eq_true rfl) dX9_circuit_52 ⟨Nat.zero_le _, Nat.zero_le _⟩ (fun H locs hw => ?_)
    refine lv_aload_n hx hb dX9_circuit_55 rfl (lv_at hl 1 rfl) ?_
    refine z_get S hw F19 0 rfl rfl dX9_circuit_56 ?_
    refine lv_iconst (v := (0 : Int32)) hx hb dX9_circuit_59 (by decide) ?_
    refine z_put S hw F105 P105 rfl rfl 1 rfl (Nat.le_of_ble_eq_true rfl) dX9_circuit_60 (fun H locs hw => ?_)
    refine lv_aload_n hx hb dX9_circuit_63 rfl (lv_at hl 1 rfl) ?_
    refine z_get S hw F54 0 rfl rfl dX9_circuit_64 ?_
    obtain ⟨i_table_madeFor_17, e67_1, h⟩ := obd1_el h
    refine zc_VV (As := []) (rest := []) (wr := [(a_this, .inr (9, [.ref a_script, .ref a_acts, .ref a_sightings, .ref a_now, .ref a_trial, .ref a_slots, .ref a_levels, .ref a_table, .ref a_waves, .ref a_spans, .ref a_draft, .ref a_net, .long i_this_lastDraw])), (a_acts, .inr (0, [.ref a_acts_gates, .ref a_acts_turned, .ref a_acts_olds, .int (0 : Int32)])), (a_slots, .inl (cS, 2, .inr (.inr (.inr (.inr (slF a_slots_0 a_slots_1)))))), (a_slots_0, .inr (5, [.ref a_slots_0_kinds, .ref a_slots_0_delays, .int i_slots_0_held])), (a_slots_1, .inr (5, [.ref a_slots_1_kinds, .ref a_slots_1_delays, .int i_slots_1_held])), (a_script, .inr (4, [.ref a_script_letters, .int i_script_size, .int i_script_at_2])), (a_script_letters, .inl (cI, 40, .inl k_script_letters)), (a_draft_nexts, .inl (cI, 4, .inl k_draft_nexts_9)), (a_draft_starts, .inl (cI, 55, .inl k_draft_starts_11)), (a_draft_sizes, .inl (cI, 55, .inl k_draft_sizes_12)), (a_draft_links, .inl (cI, 55, .inl k_draft_links_13)), (a_draft_lefts, .inl (cI, 8, .inl k_draft_lefts_7)), (a_draft_steps, .inl (cI, 440, .inl k_draft_steps_14)), (a_draft_rights, .inl (cI, 8, .inl k_draft_rights_8)), (a_now, .inr (5, [.ref a_now_kinds, .ref a_now_delays, .int i_now_held])), (a_draft, .inr (2, [.int i_draft_inputs_3, .int i_draft_gates_4, .int i_draft_paths_10, .ref a_draft_told, .ref a_draft_lefts, .ref a_draft_rights, .ref a_draft_nexts, .ref a_draft_starts, .ref a_draft_sizes, .ref a_draft_steps, .ref a_draft_links])), (a_draft_told, .inl (cI, 8, .inl k_draft_told_6)), (a_now_kinds, .inl (cI, 8, .inl k_now_kinds_15)), (a_now_delays, .inl (cI, 8, .inl k_now_delays_16))]) (q0 := 0) S hw (c_X3_forget l D cI cJ cZ cS H.size N a_table a_table_levels a_table_sureLinks a_table_risers a_table_fallers a_table_captured i_table_madeFor i_table_madeFor_17 e67_1) (cwV 0 hts gX9_circuit_X3_forget rfl rfl rfl dv_X3_forget ⟨Nat.le_of_ble_eq_true rfl, Nat.le_of_ble_eq_true rfl⟩) [2] [0, 1, 3, 4, 5, 6, 7, 8, 9, 10, 11, 12, 13, 14, 15, 16, 17, 18, 19] rfl rfl rfl rfl (by decide) rfl rfl rfl rfl hl.1 rfl (Nat.le_of_ble_eq_true rfl) dX9_circuit_67 ⟨Nat.zero_le _, Nat.zero_le _⟩ (fun H locs hw => ?_)
    refine lv_iconst (v := (0 : Int32)) hx hb dX9_circuit_70 (by decide) ?_
    refine lv_istore_n (lv' := [(2, .int (0 : Int32)), (1, .ref a_net), (0, .ref a_this)]) hx hb dX9_circuit_71 rfl hl (by decide) rfl (fun ls hl => ?_)
    obtain ⟨j93_1, ej93_1, h⟩ := bnd_ex h
    have hj93_1 : ∀ (i_slots_0_held_18 : Int32) (i_slots_1_held_19 : Int32) (H : Heap) (locs : List Loc) (ls : Array Slot), j93_1 i_slots_0_held_18 i_slots_1_held_19 = some (rr, o_script_at, o_draft_inputs, o_draft_gates, o_draft_paths, o_acts_size, o_table_madeFor, o_draft_told, o_draft_lefts, o_draft_rights, o_draft_nexts, o_draft_starts, o_draft_sizes, o_draft_links, o_draft_steps, o_now_kinds, o_now_delays, o_slots_0_held, o_slots_1_held, o_sw) → Wd D (tyA cI cJ cZ cS) A s [(a_this, .inr (9, [.ref a_script, .ref a_acts, .ref a_sightings, .ref a_now, .ref a_trial, .ref a_slots, .ref a_levels, .ref a_table, .ref a_waves, .ref a_spans, .ref a_draft, .ref a_net, .long i_this_lastDraw])), (a_script, .inr (4, [.ref a_script_letters, .int i_script_size, .int i_script_at_2])), (a_draft, .inr (2, [.int i_draft_inputs_3, .int i_draft_gates_4, .int i_draft_paths_10, .ref a_draft_told, .ref a_draft_lefts, .ref a_draft_rights, .ref a_draft_nexts, .ref a_draft_starts, .ref a_draft_sizes, .ref a_draft_steps, .ref a_draft_links])), (a_now, .inr (5, [.ref a_now_kinds, .ref a_now_delays, .int i_now_held])), (a_acts, .inr (0, [.ref a_acts_gates, .ref a_acts_turned, .ref a_acts_olds, .int (0 : Int32)])), (a_table, .inr (3, [.ref a_table_levels, .ref a_table_sureLinks, .ref a_table_risers, .ref a_table_fallers, .ref a_table_captured, .int i_table_madeFor_17])), (a_slots, .inl (cS, 2, .inr (.inr (.inr (.inr (slF a_slots_0 a_slots_1)))))), (a_script_letters, .inl (cI, 40, .inl k_script_letters)), (a_draft_told, .inl (cI, 8, .inl k_draft_told_6)), (a_draft_lefts, .inl (cI, 8, .inl k_draft_lefts_7)), (a_draft_rights, .inl (cI, 8, .inl k_draft_rights_8)), (a_draft_nexts, .inl (cI, 4, .inl k_draft_nexts_9)), (a_draft_starts, .inl (cI, 55, .inl k_draft_starts_11)), (a_draft_sizes, .inl (cI, 55, .inl k_draft_sizes_12)), (a_draft_links, .inl (cI, 55, .inl k_draft_links_13)), (a_draft_steps, .inl (cI, 440, .inl k_draft_steps_14)), (a_now_kinds, .inl (cI, 8, .inl k_now_kinds_15)), (a_now_delays, .inl (cI, 8, .inl k_now_delays_16)), (a_slots_0, .inr (5, [.ref a_slots_0_kinds, .ref a_slots_0_delays, .int i_slots_0_held_18])), (a_slots_1, .inr (5, [.ref a_slots_1_kinds, .ref a_slots_1_delays, .int i_slots_1_held_19]))] H locs → lv_has ls 3 [(0, .ref a_this)] → W p l e rmX9_circuit s m args below meth c H locs 0 0 Q (F0 m 93 ls []) := by
      intro i_slots_0_held_18 i_slots_1_held_19 H locs ls h hw hl
      replace h := ap2 ej93_1 h
      refine lv_aload_n hx hb dX9_circuit_93 rfl (lv_at hl 0 rfl) ?_
      refine z_get S hw F75 0 rfl rfl dX9_circuit_94 ?_
      refine z_get S hw F113 2 rfl rfl dX9_circuit_97 ?_
      cases h
      exact z_iret S hQ hr hw [0, 1, 2, 3, 4, 5, 6, 7, 8, 9, 10, 11, 12, 13, 14, 15, 16, 17, 18, 19] rfl rfl dX9_circuit_100
    have hL72_1 : ∀ (nf : Nat) (x2_20 : Int32) (i_slots_0_held_21 : Int32) (i_slots_1_held_22 : Int32) (H : Heap) (locs : List Loc) (ls : Array Slot), f_X9_circuit_L72 N j93_1 nf x2_20 i_slots_0_held_21 i_slots_1_held_22 = some (rr, o_script_at, o_draft_inputs, o_draft_gates, o_draft_paths, o_acts_size, o_table_madeFor, o_draft_told, o_draft_lefts, o_draft_rights, o_draft_nexts, o_draft_starts, o_draft_sizes, o_draft_links, o_draft_steps, o_now_kinds, o_now_delays, o_slots_0_held, o_slots_1_held, o_sw) → Wd D (tyA cI cJ cZ cS) A s [(a_this, .inr (9, [.ref a_script, .ref a_acts, .ref a_sightings, .ref a_now, .ref a_trial, .ref a_slots, .ref a_levels, .ref a_table, .ref a_waves, .ref a_spans, .ref a_draft, .ref a_net, .long i_this_lastDraw])), (a_script, .inr (4, [.ref a_script_letters, .int i_script_size, .int i_script_at_2])), (a_draft, .inr (2, [.int i_draft_inputs_3, .int i_draft_gates_4, .int i_draft_paths_10, .ref a_draft_told, .ref a_draft_lefts, .ref a_draft_rights, .ref a_draft_nexts, .ref a_draft_starts, .ref a_draft_sizes, .ref a_draft_steps, .ref a_draft_links])), (a_now, .inr (5, [.ref a_now_kinds, .ref a_now_delays, .int i_now_held])), (a_acts, .inr (0, [.ref a_acts_gates, .ref a_acts_turned, .ref a_acts_olds, .int (0 : Int32)])), (a_table, .inr (3, [.ref a_table_levels, .ref a_table_sureLinks, .ref a_table_risers, .ref a_table_fallers, .ref a_table_captured, .int i_table_madeFor_17])), (a_slots, .inl (cS, 2, .inr (.inr (.inr (.inr (slF a_slots_0 a_slots_1)))))), (a_script_letters, .inl (cI, 40, .inl k_script_letters)), (a_draft_told, .inl (cI, 8, .inl k_draft_told_6)), (a_draft_lefts, .inl (cI, 8, .inl k_draft_lefts_7)), (a_draft_rights, .inl (cI, 8, .inl k_draft_rights_8)), (a_draft_nexts, .inl (cI, 4, .inl k_draft_nexts_9)), (a_draft_starts, .inl (cI, 55, .inl k_draft_starts_11)), (a_draft_sizes, .inl (cI, 55, .inl k_draft_sizes_12)), (a_draft_links, .inl (cI, 55, .inl k_draft_links_13)), (a_draft_steps, .inl (cI, 440, .inl k_draft_steps_14)), (a_now_kinds, .inl (cI, 8, .inl k_now_kinds_15)), (a_now_delays, .inl (cI, 8, .inl k_now_delays_16)), (a_slots_0, .inr (5, [.ref a_slots_0_kinds, .ref a_slots_0_delays, .int i_slots_0_held_21])), (a_slots_1, .inr (5, [.ref a_slots_1_kinds, .ref a_slots_1_delays, .int i_slots_1_held_22]))] H locs → lv_has ls 3 [(0, .ref a_this), (2, .int x2_20)] → W p l e rmX9_circuit s m args below meth c H locs 0 0 Q (F0 m 72 ls []) := by
      intro nf
      induction nf with
      | zero =>
        intro x2_20 i_slots_0_held_21 i_slots_1_held_22 H locs ls h
        rw [f_X9_circuit_L72] at h
        cases h
      | succ n_72 ih_72 =>
        intro x2_20 i_slots_0_held_21 i_slots_1_held_22 H locs ls h hw hl
        rw [f_X9_circuit_L72] at h
        refine lv_iload_n hx hb dX9_circuit_72 rfl (lv_at hl 1 rfl) ?_
        refine lv_iconst (v := (2 : Int32)) hx hb dX9_circuit_73 (by decide) ?_
        refine lv_icmp_ge (tgt := 93) hx hb dX9_circuit_74 (by decide) (fun hc => ?_) (fun hc => ?_)
        · replace h := if_t hc h
          exact hj93_1 i_slots_0_held_21 i_slots_1_held_22 H locs ls h hw (lv_sub hl [0] rfl)
        · replace h := if_f hc h
          refine lv_aload_n hx hb dX9_circuit_77 rfl (lv_at hl 0 rfl) ?_
          refine z_get S hw F40 0 rfl rfl dX9_circuit_78 ?_
          refine lv_iload_n hx hb dX9_circuit_81 rfl (lv_at hl 1 rfl) ?_
          by_cases hs0 : x2_20 = (0 : Int32)
          · replace h := if_t hs0 h
            refine z_aldq S hw 6 3 rfl rfl (inb_in (by rw [hs0]; decide)) (by first | (rw [hs0]; done) | (rw [hs0]; rfl)) dX9_circuit_82 ?_
            refine lv_iconst (v := (0 : Int32)) hx hb dX9_circuit_83 (by decide) ?_
            refine z_put S hw F109 P109 rfl rfl 18 rfl (Nat.le_of_ble_eq_true rfl) dX9_circuit_84 (fun H locs hw => ?_)
            obtain ⟨x2_23, ex2_23, h⟩ := bnd_ex h
            refine lv_iinc (v := x2_23) (lv' := [(2, .int x2_23), (0, .ref a_this)]) hx hb dX9_circuit_87 hl (k := 1) rfl (by rw [ex2_23]; rfl) (by decide) rfl (fun ls hl => ?_)
            refine lv_goto (tgt := 72) hx hb dX9_circuit_90 (by decide) ?_
            exact ih_72 x2_23 ((0 : Int32)) i_slots_1_held_22 H locs ls h hw (lv_sub hl [1, 0] rfl)
          replace h := if_f hs0 h
          obtain ⟨hs1, h⟩ := grd_el h
          have hs1 := of_decide_eq_true hs1
          refine z_aldq S hw 6 3 rfl rfl (inb_in (by rw [hs1]; decide)) (by first | (rw [hs1]; done) | (rw [hs1]; rfl)) dX9_circuit_82 ?_
          refine lv_iconst (v := (0 : Int32)) hx hb dX9_circuit_83 (by decide) ?_
          refine z_put S hw F109 P109 rfl rfl 19 rfl (Nat.le_of_ble_eq_true rfl) dX9_circuit_84 (fun H locs hw => ?_)
          obtain ⟨x2_24, ex2_24, h⟩ := bnd_ex h
          refine lv_iinc (v := x2_24) (lv' := [(2, .int x2_24), (0, .ref a_this)]) hx hb dX9_circuit_87 hl (k := 1) rfl (by rw [ex2_24]; rfl) (by decide) rfl (fun ls hl => ?_)
          refine lv_goto (tgt := 72) hx hb dX9_circuit_90 (by decide) ?_
          exact ih_72 x2_24 i_slots_0_held_21 ((0 : Int32)) H locs ls h hw (lv_sub hl [1, 0] rfl)
    exact hL72_1 N ((0 : Int32)) i_slots_0_held i_slots_1_held H locs ls h (hw.sub [0, 5, 15, 14, 1, 19, 2, 6, 16, 11, 13, 7, 8, 9, 10, 12, 17, 18, 3, 4] rfl rfl) (lv_sub hl [2, 0] rfl)
  · replace h := if_f hc h
    refine lv_bipush (v := (-3 : Int32)) hx hb dX9_circuit_16 (by decide) ?_
    cases h
    exact z_iret S hQ hr hw [0, 13, 14, 1, 2, 3, 4, 15, 16, 17, 18, 19, 5, 6, 7, 8, 9, 10, 11, 12] rfl rfl dX9_circuit_18
abbrev rmX9_gate : Room := { frames := 1, cells := 0, slots := 0, locals := 21 }
theorem dv_X9_gate : yX9_gate.cls = RX9 ∧ yX9_gate.cls ≠ "java/lang/invoke/MethodHandle" ∧ yX9_gate.cls ≠ "java/lang/invoke/VarHandle" ∧ (parseMethodDescriptor yX9_gate.desc).map (fun d => d.parameters.length) = some 2 := by decide +kernel
noncomputable def f_X9_gate (N : Nat) (y1 : Int32) (y2 : Int32) (i_net_gates : Int32) (k_now_kinds : (Nat → Int32)) (k_net_lefts : (Nat → Int32)) (k_net_rights : (Nat → Int32)) (k_now_delays : (Nat → Int32)) : Option (Int32) :=
  obd1 (f_X2_hasGate N y1 i_net_gates) fun (r_1 : Int32) => (if r_1 = (0 : Int32) then (some ((-1 : Int32))) else ((if y2 = (0 : Int32) then (grd (inb y1 8) <| some ((k_now_kinds y1.toNatClampNeg))) else (if y2 = (1 : Int32) then (grd (inb y1 8) <| some ((k_net_lefts y1.toNatClampNeg))) else (if y2 = (2 : Int32) then (grd (inb y1 8) <| some ((k_net_rights y1.toNatClampNeg))) else (if y2 = (3 : Int32) then (grd (inb y1 8) <| some ((k_now_delays y1.toNatClampNeg))) else some ((-2 : Int32))))))))
set_option maxHeartbeats 4000000 in
set_option maxRecDepth 100000 in
theorem c_X9_gate (l : Launch) (D : va_G) (cI cJ cZ cS : ClassId) (sz N : Nat) (a_this a_net a_now a_now_kinds a_net_lefts a_net_rights a_now_delays a_script a_acts a_sightings a_trial a_slots a_levels a_table a_waves a_spans a_draft a_net_told a_net_nexts a_net_starts a_net_sizes a_net_steps a_net_links : Nat) (i_this_lastDraw : Int64) (i_net_inputs : Int32) (i_net_gates : Int32) (i_net_paths : Int32) (i_now_held : Int32) (k_now_kinds : (Nat → Int32)) (k_net_lefts : (Nat → Int32)) (k_net_rights : (Nat → Int32)) (k_now_delays : (Nat → Int32)) (y1 : Int32) (y2 : Int32) (rr : Int32) (hf : f_X9_gate N y1 y2 i_net_gates k_now_kinds k_net_lefts k_net_rights k_now_delays = some (rr)) : MetIr l yX9_gate wsX9_gate rmX9_gate D (tyA cI cJ cZ cS) [(a_this, .inr (9, [.ref a_script, .ref a_acts, .ref a_sightings, .ref a_now, .ref a_trial, .ref a_slots, .ref a_levels, .ref a_table, .ref a_waves, .ref a_spans, .ref a_net, .ref a_draft, .long i_this_lastDraw])), (a_net, .inr (2, [.int i_net_inputs, .int i_net_gates, .int i_net_paths, .ref a_net_told, .ref a_net_lefts, .ref a_net_rights, .ref a_net_nexts, .ref a_net_starts, .ref a_net_sizes, .ref a_net_steps, .ref a_net_links])), (a_now, .inr (5, [.ref a_now_kinds, .ref a_now_delays, .int i_now_held])), (a_now_kinds, .inl (cI, 8, .inl k_now_kinds)), (a_net_lefts, .inl (cI, 8, .inl k_net_lefts)), (a_net_rights, .inl (cI, 8, .inl k_net_rights)), (a_now_delays, .inl (cI, 8, .inl k_now_delays))] sz [.ref a_this, .int y1, .int y2] rr := by
  refine entIr (cc := cX9_gate) (maxL := 3) (own := RX9) (by decide) rfl rfl (Nat.le_of_ble_eq_true rfl) ?_
  intro p e s m args below meth c A ls Q S hr hw hl hQ
  have hx := S.1.1
  have hb := S.1.2.1
  have hts := S.1.2.2.2.2
  have hl : lv_has ls 3 [(0, .ref a_this), (1, .int y1), (2, .int y2)] := hl
  have hinX9 : ∀ w ∈ u_ws RX9 TX9 13, w ∈ wsX9_gate := (fun _ h => List.mem_cons_of_mem _ (List.mem_append_left _ (List.mem_append_left _ (List.mem_append_right _ h))))
  have F33 : FLk s args wsX9_gate RX9 33 RX9 TX9 13 9 3 := ⟨hinX9, rfl, by decide, hts (.fieldLink RX9 33 "SlowPaths" "now" "LSlowPaths$Setting;") (List.mem_of_getElem? (i := 2) rfl)⟩
  have F75 : FLk s args wsX9_gate RX9 75 RX9 TX9 13 9 10 := ⟨hinX9, rfl, by decide, hts (.fieldLink RX9 75 "SlowPaths" "net" "LSlowPaths$Net;") (List.mem_of_getElem? (i := 1) rfl)⟩
  have hinX5 : ∀ w ∈ u_ws RX5 TX5 3, w ∈ wsX9_gate := (fun _ h => List.mem_cons_of_mem _ (List.mem_append_left _ (List.mem_append_right _ h)))
  have F120 : FLk s args wsX9_gate RX9 120 RX5 TX5 3 5 0 := ⟨hinX5, rfl, by decide, hts (.fieldLink RX9 120 "SlowPaths$Setting" "kinds" "[I") (List.mem_of_getElem? (i := 3) rfl)⟩
  have hinX2 : ∀ w ∈ u_ws RX2 TX2 11, w ∈ wsX9_gate := (fun _ h => List.mem_cons_of_mem _ (List.mem_append_right _ h))
  have F123 : FLk s args wsX9_gate RX9 123 RX2 TX2 11 2 4 := ⟨hinX2, rfl, by decide, hts (.fieldLink RX9 123 "SlowPaths$Net" "lefts" "[I") (List.mem_of_getElem? (i := 4) rfl)⟩
  have F126 : FLk s args wsX9_gate RX9 126 RX2 TX2 11 2 5 := ⟨hinX2, rfl, by decide, hts (.fieldLink RX9 126 "SlowPaths$Net" "rights" "[I") (List.mem_of_getElem? (i := 5) rfl)⟩
  have F129 : FLk s args wsX9_gate RX9 129 RX5 TX5 3 5 1 := ⟨hinX5, rfl, by decide, hts (.fieldLink RX9 129 "SlowPaths$Setting" "delays" "[I") (List.mem_of_getElem? (i := 6) rfl)⟩
  have h := hf
  rw [f_X9_gate] at h
  refine lv_aload_n hx hb dX9_gate_0 rfl (lv_at hl 0 rfl) ?_
  refine z_get S hw F75 0 rfl rfl dX9_gate_1 ?_
  refine lv_iload_n hx hb dX9_gate_4 rfl (lv_at hl 1 rfl) ?_
  obtain ⟨r_1, e5_1, h⟩ := obd1_el h
  refine zr_VI (As := [.int y1]) (rest := []) (q0 := 0) S hw (c_X2_hasGate l D cI cJ cZ cS s.heap.size N a_net a_net_told a_net_lefts a_net_rights a_net_nexts a_net_starts a_net_sizes a_net_steps a_net_links i_net_inputs i_net_gates i_net_paths y1 r_1 e5_1) (cwV 1 hts gX9_gate_X2_hasGate rfl rfl rfl dv_X2_hasGate ⟨Nat.le_of_ble_eq_true rfl, Nat.le_of_ble_eq_true rfl⟩) [1] rfl rfl rfl rfl rfl rfl hl.1 rfl (Nat.le_of_ble_eq_true rfl) dX9_gate_5 ⟨Nat.zero_le _, Nat.zero_le _⟩ ?_
  refine lv_if_ne (tgt := 13) hx hb dX9_gate_8 (by decide) (fun hc => ?_) (fun hc => ?_)
  · replace h := if_f hc h
    refine lv_iload_n hx hb dX9_gate_13 rfl (lv_at hl 2 rfl) ?_
    by_cases hs0 : y2 = (0 : Int32)
    · replace h := if_t hs0 h
      refine lv_tableIn (off := 30) (tgt := 44) hx hb dX9_gate_14 (by rw [hs0]; decide) (by rw [hs0]; decide) (by rw [hs0]; rfl) (by decide) ?_
      refine lv_aload_n hx hb dX9_gate_44 rfl (lv_at hl 0 rfl) ?_
      refine z_get S hw F33 0 rfl rfl dX9_gate_45 ?_
      refine z_get S hw F120 2 rfl rfl dX9_gate_48 ?_
      refine lv_iload_n hx hb dX9_gate_51 rfl (lv_at hl 1 rfl) ?_
      obtain ⟨hg, h⟩ := grd_el h
      refine z_iald S hw 3 0 rfl rfl hg dX9_gate_52 ?_
      cases h
      exact z_iretr S hQ hr dX9_gate_53
    replace h := if_f hs0 h
    by_cases hs1 : y2 = (1 : Int32)
    · replace h := if_t hs1 h
      refine lv_tableIn (off := 40) (tgt := 54) hx hb dX9_gate_14 (by rw [hs1]; decide) (by rw [hs1]; decide) (by rw [hs1]; rfl) (by decide) ?_
      refine lv_aload_n hx hb dX9_gate_54 rfl (lv_at hl 0 rfl) ?_
      refine z_get S hw F75 0 rfl rfl dX9_gate_55 ?_
      refine z_get S hw F123 1 rfl rfl dX9_gate_58 ?_
      refine lv_iload_n hx hb dX9_gate_61 rfl (lv_at hl 1 rfl) ?_
      obtain ⟨hg, h⟩ := grd_el h
      refine z_iald S hw 4 0 rfl rfl hg dX9_gate_62 ?_
      cases h
      exact z_iretr S hQ hr dX9_gate_63
    replace h := if_f hs1 h
    by_cases hs2 : y2 = (2 : Int32)
    · replace h := if_t hs2 h
      refine lv_tableIn (off := 50) (tgt := 64) hx hb dX9_gate_14 (by rw [hs2]; decide) (by rw [hs2]; decide) (by rw [hs2]; rfl) (by decide) ?_
      refine lv_aload_n hx hb dX9_gate_64 rfl (lv_at hl 0 rfl) ?_
      refine z_get S hw F75 0 rfl rfl dX9_gate_65 ?_
      refine z_get S hw F126 1 rfl rfl dX9_gate_68 ?_
      refine lv_iload_n hx hb dX9_gate_71 rfl (lv_at hl 1 rfl) ?_
      obtain ⟨hg, h⟩ := grd_el h
      refine z_iald S hw 5 0 rfl rfl hg dX9_gate_72 ?_
      cases h
      exact z_iretr S hQ hr dX9_gate_73
    replace h := if_f hs2 h
    by_cases hs3 : y2 = (3 : Int32)
    · replace h := if_t hs3 h
      refine lv_tableIn (off := 60) (tgt := 74) hx hb dX9_gate_14 (by rw [hs3]; decide) (by rw [hs3]; decide) (by rw [hs3]; rfl) (by decide) ?_
      refine lv_aload_n hx hb dX9_gate_74 rfl (lv_at hl 0 rfl) ?_
      refine z_get S hw F33 0 rfl rfl dX9_gate_75 ?_
      refine z_get S hw F129 2 rfl rfl dX9_gate_78 ?_
      refine lv_iload_n hx hb dX9_gate_81 rfl (lv_at hl 1 rfl) ?_
      obtain ⟨hg, h⟩ := grd_el h
      refine z_iald S hw 6 0 rfl rfl hg dX9_gate_82 ?_
      cases h
      exact z_iretr S hQ hr dX9_gate_83
    replace h := if_f hs3 h
    refine lv_tableOut (tgt := 84) hx hb dX9_gate_14 (tb_out (fun j h1 h2 => ?_)) (by decide) ?_
    · rcases (show j = 0 ∨ j = 1 ∨ j = 2 ∨ j = 3 by omega) with rfl | rfl | rfl | rfl
      · exact fun he => hs0 (he.trans (by decide))
      · exact fun he => hs1 (he.trans (by decide))
      · exact fun he => hs2 (he.trans (by decide))
      · exact fun he => hs3 (he.trans (by decide))
    refine lv_bipush (v := (-2 : Int32)) hx hb dX9_gate_84 (by decide) ?_
    cases h
    exact z_iretr S hQ hr dX9_gate_86
  · replace h := if_t hc h
    refine lv_iconst (v := (-1 : Int32)) hx hb dX9_gate_11 (by decide) ?_
    cases h
    exact z_iretr S hQ hr dX9_gate_12
abbrev rmX9_slow : Room := { frames := 2, cells := 0, slots := 0, locals := 44 }
theorem dv_X9_slow : yX9_slow.cls = RX9 ∧ yX9_slow.cls ≠ "java/lang/invoke/MethodHandle" ∧ yX9_slow.cls ≠ "java/lang/invoke/VarHandle" ∧ (parseMethodDescriptor yX9_slow.desc).map (fun d => d.parameters.length) = some 2 := by decide +kernel
noncomputable def f_X9_slow (N : Nat) (y1 : Int32) (y2 : Int32) (i_net_gates : Int32) (i_acts_size : Int32) (k_now_delays : (Nat → Int32)) (k_acts_gates : (Nat → Int32)) (k_acts_turned : (Nat → Int32)) (k_acts_olds : (Nat → Int32)) : Option (Int32 × Int32 × (Nat → Int32) × (Nat → Int32) × (Nat → Int32) × (Nat → Int32)) :=
  obd1 (f_X2_hasGate N y1 i_net_gates) fun (r_1 : Int32) => (if r_1 = (0 : Int32) then (some ((-1 : Int32), i_acts_size, k_now_delays, k_acts_gates, k_acts_turned, k_acts_olds)) else ((if y2 < (1 : Int32) then (some ((-2 : Int32), i_acts_size, k_now_delays, k_acts_gates, k_acts_turned, k_acts_olds)) else ((if y2 ≤ (9 : Int32) then (grd (inb y1 8) <| bnd ((k_now_delays y1.toNatClampNeg)) fun (x3_2 : Int32) => obd4 (f_X0_add N y1 (0 : Int32) x3_2 i_acts_size k_acts_gates k_acts_turned k_acts_olds) fun (i_acts_size_3 : Int32) (k_acts_gates_4 : (Nat → Int32)) (k_acts_turned_5 : (Nat → Int32)) (k_acts_olds_6 : (Nat → Int32)) => grd (inb y1 8) <| bnd (upd k_now_delays y1.toNatClampNeg y2) fun (k_now_delays_7 : (Nat → Int32)) => some (x3_2, i_acts_size_3, k_now_delays_7, k_acts_gates_4, k_acts_turned_5, k_acts_olds_6)) else (some ((-2 : Int32), i_acts_size, k_now_delays, k_acts_gates, k_acts_turned, k_acts_olds)))))))
set_option maxHeartbeats 4000000 in
set_option maxRecDepth 100000 in
theorem c_X9_slow (l : Launch) (D : va_G) (cI cJ cZ cS : ClassId) (sz N : Nat) (a_this a_net a_now a_acts a_now_delays a_acts_gates a_acts_turned a_acts_olds a_script a_sightings a_trial a_slots a_levels a_table a_waves a_spans a_draft a_net_told a_net_lefts a_net_rights a_net_nexts a_net_starts a_net_sizes a_net_steps a_net_links a_now_kinds : Nat) (i_this_lastDraw : Int64) (i_net_inputs : Int32) (i_net_gates : Int32) (i_net_paths : Int32) (i_now_held : Int32) (i_acts_size : Int32) (k_now_delays : (Nat → Int32)) (k_acts_gates : (Nat → Int32)) (k_acts_turned : (Nat → Int32)) (k_acts_olds : (Nat → Int32)) (y1 : Int32) (y2 : Int32) (rr : Int32) (o_acts_size : Int32) (o_now_delays : (Nat → Int32)) (o_acts_gates : (Nat → Int32)) (o_acts_turned : (Nat → Int32)) (o_acts_olds : (Nat → Int32)) (hf : f_X9_slow N y1 y2 i_net_gates i_acts_size k_now_delays k_acts_gates k_acts_turned k_acts_olds = some (rr, o_acts_size, o_now_delays, o_acts_gates, o_acts_turned, o_acts_olds)) : MetI l yX9_slow wsX9_slow rmX9_slow D (tyA cI cJ cZ cS) [(a_this, .inr (9, [.ref a_script, .ref a_acts, .ref a_sightings, .ref a_now, .ref a_trial, .ref a_slots, .ref a_levels, .ref a_table, .ref a_waves, .ref a_spans, .ref a_net, .ref a_draft, .long i_this_lastDraw])), (a_net, .inr (2, [.int i_net_inputs, .int i_net_gates, .int i_net_paths, .ref a_net_told, .ref a_net_lefts, .ref a_net_rights, .ref a_net_nexts, .ref a_net_starts, .ref a_net_sizes, .ref a_net_steps, .ref a_net_links])), (a_now, .inr (5, [.ref a_now_kinds, .ref a_now_delays, .int i_now_held])), (a_acts, .inr (0, [.ref a_acts_gates, .ref a_acts_turned, .ref a_acts_olds, .int i_acts_size])), (a_now_delays, .inl (cI, 8, .inl k_now_delays)), (a_acts_gates, .inl (cI, 14, .inl k_acts_gates)), (a_acts_turned, .inl (cZ, 14, .inl k_acts_turned)), (a_acts_olds, .inl (cI, 14, .inl k_acts_olds))] sz [.ref a_this, .int y1, .int y2] rr [(a_this, .inr (9, [.ref a_script, .ref a_acts, .ref a_sightings, .ref a_now, .ref a_trial, .ref a_slots, .ref a_levels, .ref a_table, .ref a_waves, .ref a_spans, .ref a_net, .ref a_draft, .long i_this_lastDraw])), (a_net, .inr (2, [.int i_net_inputs, .int i_net_gates, .int i_net_paths, .ref a_net_told, .ref a_net_lefts, .ref a_net_rights, .ref a_net_nexts, .ref a_net_starts, .ref a_net_sizes, .ref a_net_steps, .ref a_net_links])), (a_now, .inr (5, [.ref a_now_kinds, .ref a_now_delays, .int i_now_held])), (a_acts, .inr (0, [.ref a_acts_gates, .ref a_acts_turned, .ref a_acts_olds, .int o_acts_size])), (a_now_delays, .inl (cI, 8, .inl o_now_delays)), (a_acts_gates, .inl (cI, 14, .inl o_acts_gates)), (a_acts_turned, .inl (cZ, 14, .inl o_acts_turned)), (a_acts_olds, .inl (cI, 14, .inl o_acts_olds))] := by
  refine entI (cc := cX9_slow) (maxL := 4) (own := RX9) (by decide) rfl rfl (Nat.le_of_ble_eq_true rfl) ?_
  intro p e s m args below meth c A ls Q H locs S hr hw hl hQ
  have hx := S.1.1
  have hb := S.1.2.1
  have hts := S.1.2.2.2.2
  have hl : lv_has ls 4 [(0, .ref a_this), (1, .int y1), (2, .int y2)] := hl
  have hinX9 : ∀ w ∈ u_ws RX9 TX9 13, w ∈ wsX9_slow := (fun _ h => List.mem_cons_of_mem _ (List.mem_append_left _ (List.mem_append_left _ (List.mem_append_left _ (List.mem_append_right _ h)))))
  have F19 : FLk s args wsX9_slow RX9 19 RX9 TX9 13 9 1 := ⟨hinX9, rfl, by decide, hts (.fieldLink RX9 19 "SlowPaths" "acts" "LSlowPaths$Acts;") (List.mem_of_getElem? (i := 4) rfl)⟩
  have F33 : FLk s args wsX9_slow RX9 33 RX9 TX9 13 9 3 := ⟨hinX9, rfl, by decide, hts (.fieldLink RX9 33 "SlowPaths" "now" "LSlowPaths$Setting;") (List.mem_of_getElem? (i := 2) rfl)⟩
  have F75 : FLk s args wsX9_slow RX9 75 RX9 TX9 13 9 10 := ⟨hinX9, rfl, by decide, hts (.fieldLink RX9 75 "SlowPaths" "net" "LSlowPaths$Net;") (List.mem_of_getElem? (i := 1) rfl)⟩
  have hinX5 : ∀ w ∈ u_ws RX5 TX5 3, w ∈ wsX9_slow := (fun _ h => List.mem_cons_of_mem _ (List.mem_append_left _ (List.mem_append_left _ (List.mem_append_right _ h))))
  have F129 : FLk s args wsX9_slow RX9 129 RX5 TX5 3 5 1 := ⟨hinX5, rfl, by decide, hts (.fieldLink RX9 129 "SlowPaths$Setting" "delays" "[I") (List.mem_of_getElem? (i := 3) rfl)⟩
  have h := hf
  rw [f_X9_slow] at h
  refine lv_aload_n hx hb dX9_slow_0 rfl (lv_at hl 0 rfl) ?_
  refine z_get S hw F75 0 rfl rfl dX9_slow_1 ?_
  refine lv_iload_n hx hb dX9_slow_4 rfl (lv_at hl 1 rfl) ?_
  obtain ⟨r_1, e5_1, h⟩ := obd1_el h
  refine zr_VI (As := [.int y1]) (rest := []) (q0 := 0) S hw (c_X2_hasGate l D cI cJ cZ cS H.size N a_net a_net_told a_net_lefts a_net_rights a_net_nexts a_net_starts a_net_sizes a_net_steps a_net_links i_net_inputs i_net_gates i_net_paths y1 r_1 e5_1) (cwV 1 hts gX9_slow_X2_hasGate rfl rfl rfl dv_X2_hasGate ⟨Nat.le_of_ble_eq_true rfl, Nat.le_of_ble_eq_true rfl⟩) [1] rfl rfl rfl rfl rfl rfl hl.1 rfl (Nat.le_of_ble_eq_true rfl) dX9_slow_5 ⟨Nat.zero_le _, Nat.zero_le _⟩ ?_
  refine lv_if_ne (tgt := 13) hx hb dX9_slow_8 (by decide) (fun hc => ?_) (fun hc => ?_)
  · replace h := if_f hc h
    refine lv_iload_n hx hb dX9_slow_13 rfl (lv_at hl 2 rfl) ?_
    refine lv_iconst (v := (1 : Int32)) hx hb dX9_slow_14 (by decide) ?_
    refine lv_icmp_lt (tgt := 24) hx hb dX9_slow_15 (by decide) (fun hc => ?_) (fun hc => ?_)
    · replace h := if_t hc h
      refine lv_bipush (v := (-2 : Int32)) hx hb dX9_slow_24 (by decide) ?_
      cases h
      exact z_iret S hQ hr hw [0, 1, 2, 3, 4, 5, 6, 7] rfl rfl dX9_slow_26
    · replace h := if_f hc h
      refine lv_iload_n hx hb dX9_slow_18 rfl (lv_at hl 2 rfl) ?_
      refine lv_bipush (v := (9 : Int32)) hx hb dX9_slow_19 (by decide) ?_
      refine lv_icmp_le (tgt := 27) hx hb dX9_slow_21 (by decide) (fun hc => ?_) (fun hc => ?_)
      · replace h := if_t hc h
        refine lv_aload_n hx hb dX9_slow_27 rfl (lv_at hl 0 rfl) ?_
        refine z_get S hw F33 0 rfl rfl dX9_slow_28 ?_
        refine z_get S hw F129 2 rfl rfl dX9_slow_31 ?_
        refine lv_iload_n hx hb dX9_slow_34 rfl (lv_at hl 1 rfl) ?_
        obtain ⟨hg, h⟩ := grd_el h
        refine z_iald S hw 4 0 rfl rfl hg dX9_slow_35 ?_
        refine lv_topi (fun x3_2 ex3_2 => ?_)
        replace h := bnd_at ex3_2 h
        refine lv_istore_n (lv' := [(3, .int x3_2), (0, .ref a_this), (1, .int y1), (2, .int y2)]) hx hb dX9_slow_36 rfl hl (by decide) rfl (fun ls hl => ?_)
        refine lv_aload_n hx hb dX9_slow_37 rfl (lv_at hl 1 rfl) ?_
        refine z_get S hw F19 0 rfl rfl dX9_slow_38 ?_
        refine lv_iload_n hx hb dX9_slow_41 rfl (lv_at hl 2 rfl) ?_
        refine lv_iconst (v := (0 : Int32)) hx hb dX9_slow_42 (by decide) ?_
        refine lv_iload_n hx hb dX9_slow_43 rfl (lv_at hl 0 rfl) ?_
        obtain ⟨i_acts_size_3, k_acts_gates_4, k_acts_turned_5, k_acts_olds_6, e44_1, h⟩ := obd4_el h
        refine zc_VV (As := [.int y1, .int (0 : Int32), .int x3_2]) (rest := []) (wr := [(a_this, .inr (9, [.ref a_script, .ref a_acts, .ref a_sightings, .ref a_now, .ref a_trial, .ref a_slots, .ref a_levels, .ref a_table, .ref a_waves, .ref a_spans, .ref a_net, .ref a_draft, .long i_this_lastDraw])), (a_net, .inr (2, [.int i_net_inputs, .int i_net_gates, .int i_net_paths, .ref a_net_told, .ref a_net_lefts, .ref a_net_rights, .ref a_net_nexts, .ref a_net_starts, .ref a_net_sizes, .ref a_net_steps, .ref a_net_links])), (a_now, .inr (5, [.ref a_now_kinds, .ref a_now_delays, .int i_now_held])), (a_now_delays, .inl (cI, 8, .inl k_now_delays))]) (q0 := 0) S hw (c_X0_add l D cI cJ cZ cS H.size N a_acts a_acts_gates a_acts_turned a_acts_olds i_acts_size k_acts_gates k_acts_turned k_acts_olds y1 (0 : Int32) x3_2 i_acts_size_3 k_acts_gates_4 k_acts_turned_5 k_acts_olds_6 e44_1) (cwV 3 hts gX9_slow_X0_add rfl rfl rfl dv_X0_add ⟨Nat.le_of_ble_eq_true rfl, Nat.le_of_ble_eq_true rfl⟩) [3, 5, 6, 7] [0, 1, 2, 4] rfl rfl rfl rfl (by decide) rfl rfl rfl rfl hl.1 rfl (Nat.le_of_ble_eq_true rfl) dX9_slow_44 ⟨Nat.zero_le _, Nat.zero_le _⟩ (fun H locs hw => ?_)
        refine lv_aload_n hx hb dX9_slow_47 rfl (lv_at hl 1 rfl) ?_
        refine z_get S hw F33 0 rfl rfl dX9_slow_48 ?_
        refine z_get S hw F129 2 rfl rfl dX9_slow_51 ?_
        refine lv_iload_n hx hb dX9_slow_54 rfl (lv_at hl 2 rfl) ?_
        refine lv_iload_n hx hb dX9_slow_55 rfl (lv_at hl 3 rfl) ?_
        obtain ⟨hg, h⟩ := grd_el h
        obtain ⟨k_now_delays_7, ek_now_delays_7, h⟩ := bnd_ex h
        refine z_iast S hw ek_now_delays_7 3 0 rfl rfl hg dX9_slow_56 (fun H locs hw => ?_)
        refine lv_iload_n hx hb dX9_slow_57 rfl (lv_at hl 0 rfl) ?_
        cases h
        exact z_iret S hQ hr hw [0, 1, 2, 4, 3, 5, 6, 7] rfl rfl dX9_slow_58
      · replace h := if_f hc h
        refine lv_bipush (v := (-2 : Int32)) hx hb dX9_slow_24 (by decide) ?_
        cases h
        exact z_iret S hQ hr hw [0, 1, 2, 3, 4, 5, 6, 7] rfl rfl dX9_slow_26
  · replace h := if_t hc h
    refine lv_iconst (v := (-1 : Int32)) hx hb dX9_slow_11 (by decide) ?_
    cases h
    exact z_iret S hQ hr hw [0, 1, 2, 3, 4, 5, 6, 7] rfl rfl dX9_slow_12
abbrev rmX9_turn : Room := { frames := 2, cells := 0, slots := 0, locals := 44 }
theorem dv_X9_turn : yX9_turn.cls = RX9 ∧ yX9_turn.cls ≠ "java/lang/invoke/MethodHandle" ∧ yX9_turn.cls ≠ "java/lang/invoke/VarHandle" ∧ (parseMethodDescriptor yX9_turn.desc).map (fun d => d.parameters.length) = some 2 := by decide +kernel
noncomputable def f_X9_turn (N : Nat) (y1 : Int32) (y2 : Int32) (i_net_gates : Int32) (i_acts_size : Int32) (k_now_kinds : (Nat → Int32)) (k_acts_gates : (Nat → Int32)) (k_acts_turned : (Nat → Int32)) (k_acts_olds : (Nat → Int32)) : Option (Int32 × Int32 × (Nat → Int32) × (Nat → Int32) × (Nat → Int32) × (Nat → Int32)) :=
  obd1 (f_X2_hasGate N y1 i_net_gates) fun (r_1 : Int32) => (if r_1 = (0 : Int32) then (some ((-1 : Int32), i_acts_size, k_now_kinds, k_acts_gates, k_acts_turned, k_acts_olds)) else ((if y2 < (0 : Int32) then (some ((-2 : Int32), i_acts_size, k_now_kinds, k_acts_gates, k_acts_turned, k_acts_olds)) else ((if y2 ≤ (3 : Int32) then (grd (inb y1 8) <| bnd ((k_now_kinds y1.toNatClampNeg)) fun (x3_2 : Int32) => (if x3_2 = (4 : Int32) then (some ((-3 : Int32), i_acts_size, k_now_kinds, k_acts_gates, k_acts_turned, k_acts_olds)) else ((if x3_2 = y2 then (some ((-3 : Int32), i_acts_size, k_now_kinds, k_acts_gates, k_acts_turned, k_acts_olds)) else (obd4 (f_X0_add N y1 (1 : Int32) x3_2 i_acts_size k_acts_gates k_acts_turned k_acts_olds) fun (i_acts_size_3 : Int32) (k_acts_gates_4 : (Nat → Int32)) (k_acts_turned_5 : (Nat → Int32)) (k_acts_olds_6 : (Nat → Int32)) => grd (inb y1 8) <| bnd (upd k_now_kinds y1.toNatClampNeg y2) fun (k_now_kinds_7 : (Nat → Int32)) => some (x3_2, i_acts_size_3, k_now_kinds_7, k_acts_gates_4, k_acts_turned_5, k_acts_olds_6)))))) else (some ((-2 : Int32), i_acts_size, k_now_kinds, k_acts_gates, k_acts_turned, k_acts_olds)))))))
set_option maxHeartbeats 4000000 in
set_option maxRecDepth 100000 in
theorem c_X9_turn (l : Launch) (D : va_G) (cI cJ cZ cS : ClassId) (sz N : Nat) (a_this a_net a_now a_acts a_now_kinds a_acts_gates a_acts_turned a_acts_olds a_script a_sightings a_trial a_slots a_levels a_table a_waves a_spans a_draft a_net_told a_net_lefts a_net_rights a_net_nexts a_net_starts a_net_sizes a_net_steps a_net_links a_now_delays : Nat) (i_this_lastDraw : Int64) (i_net_inputs : Int32) (i_net_gates : Int32) (i_net_paths : Int32) (i_now_held : Int32) (i_acts_size : Int32) (k_now_kinds : (Nat → Int32)) (k_acts_gates : (Nat → Int32)) (k_acts_turned : (Nat → Int32)) (k_acts_olds : (Nat → Int32)) (y1 : Int32) (y2 : Int32) (rr : Int32) (o_acts_size : Int32) (o_now_kinds : (Nat → Int32)) (o_acts_gates : (Nat → Int32)) (o_acts_turned : (Nat → Int32)) (o_acts_olds : (Nat → Int32)) (hf : f_X9_turn N y1 y2 i_net_gates i_acts_size k_now_kinds k_acts_gates k_acts_turned k_acts_olds = some (rr, o_acts_size, o_now_kinds, o_acts_gates, o_acts_turned, o_acts_olds)) : MetI l yX9_turn wsX9_turn rmX9_turn D (tyA cI cJ cZ cS) [(a_this, .inr (9, [.ref a_script, .ref a_acts, .ref a_sightings, .ref a_now, .ref a_trial, .ref a_slots, .ref a_levels, .ref a_table, .ref a_waves, .ref a_spans, .ref a_net, .ref a_draft, .long i_this_lastDraw])), (a_net, .inr (2, [.int i_net_inputs, .int i_net_gates, .int i_net_paths, .ref a_net_told, .ref a_net_lefts, .ref a_net_rights, .ref a_net_nexts, .ref a_net_starts, .ref a_net_sizes, .ref a_net_steps, .ref a_net_links])), (a_now, .inr (5, [.ref a_now_kinds, .ref a_now_delays, .int i_now_held])), (a_acts, .inr (0, [.ref a_acts_gates, .ref a_acts_turned, .ref a_acts_olds, .int i_acts_size])), (a_now_kinds, .inl (cI, 8, .inl k_now_kinds)), (a_acts_gates, .inl (cI, 14, .inl k_acts_gates)), (a_acts_turned, .inl (cZ, 14, .inl k_acts_turned)), (a_acts_olds, .inl (cI, 14, .inl k_acts_olds))] sz [.ref a_this, .int y1, .int y2] rr [(a_this, .inr (9, [.ref a_script, .ref a_acts, .ref a_sightings, .ref a_now, .ref a_trial, .ref a_slots, .ref a_levels, .ref a_table, .ref a_waves, .ref a_spans, .ref a_net, .ref a_draft, .long i_this_lastDraw])), (a_net, .inr (2, [.int i_net_inputs, .int i_net_gates, .int i_net_paths, .ref a_net_told, .ref a_net_lefts, .ref a_net_rights, .ref a_net_nexts, .ref a_net_starts, .ref a_net_sizes, .ref a_net_steps, .ref a_net_links])), (a_now, .inr (5, [.ref a_now_kinds, .ref a_now_delays, .int i_now_held])), (a_acts, .inr (0, [.ref a_acts_gates, .ref a_acts_turned, .ref a_acts_olds, .int o_acts_size])), (a_now_kinds, .inl (cI, 8, .inl o_now_kinds)), (a_acts_gates, .inl (cI, 14, .inl o_acts_gates)), (a_acts_turned, .inl (cZ, 14, .inl o_acts_turned)), (a_acts_olds, .inl (cI, 14, .inl o_acts_olds))] := by
  refine entI (cc := cX9_turn) (maxL := 4) (own := RX9) (by decide) rfl rfl (Nat.le_of_ble_eq_true rfl) ?_
  intro p e s m args below meth c A ls Q H locs S hr hw hl hQ
  have hx := S.1.1
  have hb := S.1.2.1
  have hts := S.1.2.2.2.2
  have hl : lv_has ls 4 [(0, .ref a_this), (1, .int y1), (2, .int y2)] := hl
  have hinX9 : ∀ w ∈ u_ws RX9 TX9 13, w ∈ wsX9_turn := (fun _ h => List.mem_cons_of_mem _ (List.mem_append_left _ (List.mem_append_left _ (List.mem_append_left _ (List.mem_append_right _ h)))))
  have F19 : FLk s args wsX9_turn RX9 19 RX9 TX9 13 9 1 := ⟨hinX9, rfl, by decide, hts (.fieldLink RX9 19 "SlowPaths" "acts" "LSlowPaths$Acts;") (List.mem_of_getElem? (i := 4) rfl)⟩
  have F33 : FLk s args wsX9_turn RX9 33 RX9 TX9 13 9 3 := ⟨hinX9, rfl, by decide, hts (.fieldLink RX9 33 "SlowPaths" "now" "LSlowPaths$Setting;") (List.mem_of_getElem? (i := 2) rfl)⟩
  have F75 : FLk s args wsX9_turn RX9 75 RX9 TX9 13 9 10 := ⟨hinX9, rfl, by decide, hts (.fieldLink RX9 75 "SlowPaths" "net" "LSlowPaths$Net;") (List.mem_of_getElem? (i := 1) rfl)⟩
  have hinX5 : ∀ w ∈ u_ws RX5 TX5 3, w ∈ wsX9_turn := (fun _ h => List.mem_cons_of_mem _ (List.mem_append_left _ (List.mem_append_left _ (List.mem_append_right _ h))))
  have F120 : FLk s args wsX9_turn RX9 120 RX5 TX5 3 5 0 := ⟨hinX5, rfl, by decide, hts (.fieldLink RX9 120 "SlowPaths$Setting" "kinds" "[I") (List.mem_of_getElem? (i := 3) rfl)⟩
  have h := hf
  rw [f_X9_turn] at h
  refine lv_aload_n hx hb dX9_turn_0 rfl (lv_at hl 0 rfl) ?_
  refine z_get S hw F75 0 rfl rfl dX9_turn_1 ?_
  refine lv_iload_n hx hb dX9_turn_4 rfl (lv_at hl 1 rfl) ?_
  obtain ⟨r_1, e5_1, h⟩ := obd1_el h
  refine zr_VI (As := [.int y1]) (rest := []) (q0 := 0) S hw (c_X2_hasGate l D cI cJ cZ cS H.size N a_net a_net_told a_net_lefts a_net_rights a_net_nexts a_net_starts a_net_sizes a_net_steps a_net_links i_net_inputs i_net_gates i_net_paths y1 r_1 e5_1) (cwV 1 hts gX9_turn_X2_hasGate rfl rfl rfl dv_X2_hasGate ⟨Nat.le_of_ble_eq_true rfl, Nat.le_of_ble_eq_true rfl⟩) [1] rfl rfl rfl rfl rfl rfl hl.1 rfl (Nat.le_of_ble_eq_true rfl) dX9_turn_5 ⟨Nat.zero_le _, Nat.zero_le _⟩ ?_
  refine lv_if_ne (tgt := 13) hx hb dX9_turn_8 (by decide) (fun hc => ?_) (fun hc => ?_)
  · replace h := if_f hc h
    refine lv_iload_n hx hb dX9_turn_13 rfl (lv_at hl 2 rfl) ?_
    refine lv_if_lt (tgt := 22) hx hb dX9_turn_14 (by decide) (fun hc => ?_) (fun hc => ?_)
    · replace h := if_t hc h
      refine lv_bipush (v := (-2 : Int32)) hx hb dX9_turn_22 (by decide) ?_
      cases h
      exact z_iret S hQ hr hw [0, 1, 2, 3, 4, 5, 6, 7] rfl rfl dX9_turn_24
    · replace h := if_f hc h
      refine lv_iload_n hx hb dX9_turn_17 rfl (lv_at hl 2 rfl) ?_
      refine lv_iconst (v := (3 : Int32)) hx hb dX9_turn_18 (by decide) ?_
      refine lv_icmp_le (tgt := 25) hx hb dX9_turn_19 (by decide) (fun hc => ?_) (fun hc => ?_)
      · replace h := if_t hc h
        refine lv_aload_n hx hb dX9_turn_25 rfl (lv_at hl 0 rfl) ?_
        refine z_get S hw F33 0 rfl rfl dX9_turn_26 ?_
        refine z_get S hw F120 2 rfl rfl dX9_turn_29 ?_
        refine lv_iload_n hx hb dX9_turn_32 rfl (lv_at hl 1 rfl) ?_
        obtain ⟨hg, h⟩ := grd_el h
        refine z_iald S hw 4 0 rfl rfl hg dX9_turn_33 ?_
        refine lv_topi (fun x3_2 ex3_2 => ?_)
        replace h := bnd_at ex3_2 h
        refine lv_istore_n (lv' := [(3, .int x3_2), (0, .ref a_this), (1, .int y1), (2, .int y2)]) hx hb dX9_turn_34 rfl hl (by decide) rfl (fun ls hl => ?_)
        refine lv_iload_n hx hb dX9_turn_35 rfl (lv_at hl 0 rfl) ?_
        refine lv_iconst (v := (4 : Int32)) hx hb dX9_turn_36 (by decide) ?_
        refine lv_icmp_eq (tgt := 45) hx hb dX9_turn_37 (by decide) (fun hc => ?_) (fun hc => ?_)
        · replace h := if_t hc h
          refine lv_bipush (v := (-3 : Int32)) hx hb dX9_turn_45 (by decide) ?_
          cases h
          exact z_iret S hQ hr hw [0, 1, 2, 3, 4, 5, 6, 7] rfl rfl dX9_turn_47
        · replace h := if_f hc h
          refine lv_iload_n hx hb dX9_turn_40 rfl (lv_at hl 0 rfl) ?_
          refine lv_iload_n hx hb dX9_turn_41 rfl (lv_at hl 3 rfl) ?_
          refine lv_icmp_ne (tgt := 48) hx hb dX9_turn_42 (by decide) (fun hc => ?_) (fun hc => ?_)
          · replace h := if_f hc h
            refine lv_aload_n hx hb dX9_turn_48 rfl (lv_at hl 1 rfl) ?_
            refine z_get S hw F19 0 rfl rfl dX9_turn_49 ?_
            refine lv_iload_n hx hb dX9_turn_52 rfl (lv_at hl 2 rfl) ?_
            refine lv_iconst (v := (1 : Int32)) hx hb dX9_turn_53 (by decide) ?_
            refine lv_iload_n hx hb dX9_turn_54 rfl (lv_at hl 0 rfl) ?_
            obtain ⟨i_acts_size_3, k_acts_gates_4, k_acts_turned_5, k_acts_olds_6, e55_1, h⟩ := obd4_el h
            refine zc_VV (As := [.int y1, .int (1 : Int32), .int x3_2]) (rest := []) (wr := [(a_this, .inr (9, [.ref a_script, .ref a_acts, .ref a_sightings, .ref a_now, .ref a_trial, .ref a_slots, .ref a_levels, .ref a_table, .ref a_waves, .ref a_spans, .ref a_net, .ref a_draft, .long i_this_lastDraw])), (a_net, .inr (2, [.int i_net_inputs, .int i_net_gates, .int i_net_paths, .ref a_net_told, .ref a_net_lefts, .ref a_net_rights, .ref a_net_nexts, .ref a_net_starts, .ref a_net_sizes, .ref a_net_steps, .ref a_net_links])), (a_now, .inr (5, [.ref a_now_kinds, .ref a_now_delays, .int i_now_held])), (a_now_kinds, .inl (cI, 8, .inl k_now_kinds))]) (q0 := 0) S hw (c_X0_add l D cI cJ cZ cS H.size N a_acts a_acts_gates a_acts_turned a_acts_olds i_acts_size k_acts_gates k_acts_turned k_acts_olds y1 (1 : Int32) x3_2 i_acts_size_3 k_acts_gates_4 k_acts_turned_5 k_acts_olds_6 e55_1) (cwV 3 hts gX9_turn_X0_add rfl rfl rfl dv_X0_add ⟨Nat.le_of_ble_eq_true rfl, Nat.le_of_ble_eq_true rfl⟩) [3, 5, 6, 7] [0, 1, 2, 4] rfl rfl rfl rfl (by decide) rfl rfl rfl rfl hl.1 rfl (Nat.le_of_ble_eq_true rfl) dX9_turn_55 ⟨Nat.zero_le _, Nat.zero_le _⟩ (fun H locs hw => ?_)
            refine lv_aload_n hx hb dX9_turn_58 rfl (lv_at hl 1 rfl) ?_
            refine z_get S hw F33 0 rfl rfl dX9_turn_59 ?_
            refine z_get S hw F120 2 rfl rfl dX9_turn_62 ?_
            refine lv_iload_n hx hb dX9_turn_65 rfl (lv_at hl 2 rfl) ?_
            refine lv_iload_n hx hb dX9_turn_66 rfl (lv_at hl 3 rfl) ?_
            obtain ⟨hg, h⟩ := grd_el h
            obtain ⟨k_now_kinds_7, ek_now_kinds_7, h⟩ := bnd_ex h
            refine z_iast S hw ek_now_kinds_7 3 0 rfl rfl hg dX9_turn_67 (fun H locs hw => ?_)
            refine lv_iload_n hx hb dX9_turn_68 rfl (lv_at hl 0 rfl) ?_
            cases h
            exact z_iret S hQ hr hw [0, 1, 2, 4, 3, 5, 6, 7] rfl rfl dX9_turn_69
          · replace h := if_t hc h
            refine lv_bipush (v := (-3 : Int32)) hx hb dX9_turn_45 (by decide) ?_
            cases h
            exact z_iret S hQ hr hw [0, 1, 2, 3, 4, 5, 6, 7] rfl rfl dX9_turn_47
      · replace h := if_f hc h
        refine lv_bipush (v := (-2 : Int32)) hx hb dX9_turn_22 (by decide) ?_
        cases h
        exact z_iret S hQ hr hw [0, 1, 2, 3, 4, 5, 6, 7] rfl rfl dX9_turn_24
  · replace h := if_t hc h
    refine lv_iconst (v := (-1 : Int32)) hx hb dX9_turn_11 (by decide) ?_
    cases h
    exact z_iret S hQ hr hw [0, 1, 2, 3, 4, 5, 6, 7] rfl rfl dX9_turn_12
abbrev rmX9_undo : Room := { frames := 1, cells := 0, slots := 0, locals := 22 }
theorem dv_X9_undo : yX9_undo.cls = RX9 ∧ yX9_undo.cls ≠ "java/lang/invoke/MethodHandle" ∧ yX9_undo.cls ≠ "java/lang/invoke/VarHandle" ∧ (parseMethodDescriptor yX9_undo.desc).map (fun d => d.parameters.length) = some 0 := by decide +kernel
noncomputable def f_X9_undo (N : Nat)  (i_acts_size : Int32) (k_acts_turned : (Nat → Int32)) (k_acts_gates : (Nat → Int32)) (k_acts_olds : (Nat → Int32)) (k_now_delays : (Nat → Int32)) (k_now_kinds : (Nat → Int32)) : Option (Int32 × Int32 × (Nat → Int32) × (Nat → Int32)) :=
  (if (0 : Int32) < i_acts_size then (bnd ((i_acts_size - (1 : Int32))) fun (i_size_1 : Int32) => obd2 (f_X0_takeBack N i_size_1 k_acts_turned k_acts_gates k_acts_olds k_now_delays k_now_kinds) fun (k_now_delays_2 : (Nat → Int32)) (k_now_kinds_3 : (Nat → Int32)) => some (i_size_1, i_size_1, k_now_delays_2, k_now_kinds_3)) else (some ((-3 : Int32), i_acts_size, k_now_delays, k_now_kinds)))
set_option maxHeartbeats 4000000 in
set_option maxRecDepth 100000 in
theorem c_X9_undo (l : Launch) (D : va_G) (cI cJ cZ cS : ClassId) (sz N : Nat) (a_this a_acts a_now a_acts_turned a_acts_gates a_acts_olds a_now_delays a_now_kinds a_script a_sightings a_trial a_slots a_levels a_table a_waves a_spans a_net a_draft : Nat) (i_this_lastDraw : Int64) (i_acts_size : Int32) (i_now_held : Int32) (k_acts_turned : (Nat → Int32)) (k_acts_gates : (Nat → Int32)) (k_acts_olds : (Nat → Int32)) (k_now_delays : (Nat → Int32)) (k_now_kinds : (Nat → Int32))  (rr : Int32) (o_acts_size : Int32) (o_now_delays : (Nat → Int32)) (o_now_kinds : (Nat → Int32)) (hf : f_X9_undo N i_acts_size k_acts_turned k_acts_gates k_acts_olds k_now_delays k_now_kinds = some (rr, o_acts_size, o_now_delays, o_now_kinds)) : MetI l yX9_undo wsX9_undo rmX9_undo D (tyA cI cJ cZ cS) [(a_this, .inr (9, [.ref a_script, .ref a_acts, .ref a_sightings, .ref a_now, .ref a_trial, .ref a_slots, .ref a_levels, .ref a_table, .ref a_waves, .ref a_spans, .ref a_net, .ref a_draft, .long i_this_lastDraw])), (a_acts, .inr (0, [.ref a_acts_gates, .ref a_acts_turned, .ref a_acts_olds, .int i_acts_size])), (a_now, .inr (5, [.ref a_now_kinds, .ref a_now_delays, .int i_now_held])), (a_acts_turned, .inl (cZ, 14, .inl k_acts_turned)), (a_acts_gates, .inl (cI, 14, .inl k_acts_gates)), (a_acts_olds, .inl (cI, 14, .inl k_acts_olds)), (a_now_delays, .inl (cI, 8, .inl k_now_delays)), (a_now_kinds, .inl (cI, 8, .inl k_now_kinds))] sz [.ref a_this] rr [(a_this, .inr (9, [.ref a_script, .ref a_acts, .ref a_sightings, .ref a_now, .ref a_trial, .ref a_slots, .ref a_levels, .ref a_table, .ref a_waves, .ref a_spans, .ref a_net, .ref a_draft, .long i_this_lastDraw])), (a_acts, .inr (0, [.ref a_acts_gates, .ref a_acts_turned, .ref a_acts_olds, .int o_acts_size])), (a_now, .inr (5, [.ref a_now_kinds, .ref a_now_delays, .int i_now_held])), (a_acts_turned, .inl (cZ, 14, .inl k_acts_turned)), (a_acts_gates, .inl (cI, 14, .inl k_acts_gates)), (a_acts_olds, .inl (cI, 14, .inl k_acts_olds)), (a_now_delays, .inl (cI, 8, .inl o_now_delays)), (a_now_kinds, .inl (cI, 8, .inl o_now_kinds))] := by
  refine entI (cc := cX9_undo) (maxL := 1) (own := RX9) (by decide) rfl rfl (Nat.le_of_ble_eq_true rfl) ?_
  intro p e s m args below meth c A ls Q H locs S hr hw hl hQ
  have hx := S.1.1
  have hb := S.1.2.1
  have hts := S.1.2.2.2.2
  have hl : lv_has ls 1 [(0, .ref a_this)] := hl
  have hinX9 : ∀ w ∈ u_ws RX9 TX9 13, w ∈ wsX9_undo := (fun _ h => List.mem_cons_of_mem _ (List.mem_append_left _ (List.mem_append_left _ (List.mem_append_right _ h))))
  have F19 : FLk s args wsX9_undo RX9 19 RX9 TX9 13 9 1 := ⟨hinX9, rfl, by decide, hts (.fieldLink RX9 19 "SlowPaths" "acts" "LSlowPaths$Acts;") (List.mem_of_getElem? (i := 1) rfl)⟩
  have F33 : FLk s args wsX9_undo RX9 33 RX9 TX9 13 9 3 := ⟨hinX9, rfl, by decide, hts (.fieldLink RX9 33 "SlowPaths" "now" "LSlowPaths$Setting;") (List.mem_of_getElem? (i := 3) rfl)⟩
  have hinX0 : ∀ w ∈ u_ws RX0 TX0 4, w ∈ wsX9_undo := (fun _ h => List.mem_cons_of_mem _ (List.mem_append_left _ (List.mem_append_right _ h)))
  have F105 : FLk s args wsX9_undo RX9 105 RX0 TX0 4 0 3 := ⟨hinX0, rfl, by decide, hts (.fieldLink RX9 105 "SlowPaths$Acts" "size" "I") (List.mem_of_getElem? (i := 2) rfl)⟩
  have P105 : PLk TX0 4 3 tyX0 false .int := ⟨tyX0_ok, nmX0, rfl, rfl⟩
  have h := hf
  rw [f_X9_undo] at h
  refine lv_aload_n hx hb dX9_undo_0 rfl (lv_at hl 0 rfl) ?_
  refine z_get S hw F19 0 rfl rfl dX9_undo_1 ?_
  refine z_get S hw F105 1 rfl rfl dX9_undo_4 ?_
  refine lv_if_gt (tgt := 13) hx hb dX9_undo_7 (by decide) (fun hc => ?_) (fun hc => ?_)
  · replace h := if_t hc h
    refine lv_aload_n hx hb dX9_undo_13 rfl (lv_at hl 0 rfl) ?_
    refine z_get S hw F19 0 rfl rfl dX9_undo_14 ?_
    refine lv_dup hx hb dX9_undo_17 rfl ?_
    refine z_get S hw F105 1 rfl rfl dX9_undo_18 ?_
    refine lv_iconst (v := (1 : Int32)) hx hb dX9_undo_21 (by decide) ?_
    refine lv_isub hx hb dX9_undo_22 ?_
    refine lv_topi (fun i_size_1 ei_size_1 => ?_)
    replace h := bnd_at ei_size_1 h
    refine z_put S hw F105 P105 rfl rfl 1 rfl (Nat.le_of_ble_eq_true rfl) dX9_undo_23 (fun H locs hw => ?_)
    refine lv_aload_n hx hb dX9_undo_26 rfl (lv_at hl 0 rfl) ?_
    refine z_get S hw F19 0 rfl rfl dX9_undo_27 ?_
    refine lv_aload_n hx hb dX9_undo_30 rfl (lv_at hl 0 rfl) ?_
    refine z_get S hw F33 0 rfl rfl dX9_undo_31 ?_
    refine lv_aload_n hx hb dX9_undo_34 rfl (lv_at hl 0 rfl) ?_
    refine z_get S hw F19 0 rfl rfl dX9_undo_35 ?_
    refine z_get S hw F105 1 rfl rfl dX9_undo_38 ?_
    obtain ⟨k_now_delays_2, k_now_kinds_3, e41_1, h⟩ := obd2_el h
    refine zc_VV (As := [.ref a_now, .int i_size_1]) (rest := []) (wr := [(a_this, .inr (9, [.ref a_script, .ref a_acts, .ref a_sightings, .ref a_now, .ref a_trial, .ref a_slots, .ref a_levels, .ref a_table, .ref a_waves, .ref a_spans, .ref a_net, .ref a_draft, .long i_this_lastDraw]))]) (q0 := 0) S hw (c_X0_takeBack l D cI cJ cZ cS H.size N a_acts a_now a_acts_turned a_acts_gates a_acts_olds a_now_delays a_now_kinds i_size_1 i_now_held k_acts_turned k_acts_gates k_acts_olds k_now_delays k_now_kinds i_size_1 k_now_delays_2 k_now_kinds_3 e41_1) (cwV 2 hts gX9_undo_X0_takeBack rfl rfl rfl dv_X0_takeBack ⟨Nat.le_of_ble_eq_true rfl, Nat.le_of_ble_eq_true rfl⟩) [1, 2, 3, 4, 5, 6, 7] [0] rfl rfl rfl rfl (by decide) rfl rfl rfl rfl hl.1 rfl (Nat.le_of_ble_eq_true rfl) dX9_undo_41 ⟨Nat.zero_le _, Nat.zero_le _⟩ (fun H locs hw => ?_)
    refine lv_aload_n hx hb dX9_undo_44 rfl (lv_at hl 0 rfl) ?_
    refine z_get S hw F19 0 rfl rfl dX9_undo_45 ?_
    refine z_get S hw F105 1 rfl rfl dX9_undo_48 ?_
    cases h
    exact z_iret S hQ hr hw [0, 1, 2, 3, 4, 5, 6, 7] rfl rfl dX9_undo_51
  · replace h := if_f hc h
    refine lv_bipush (v := (-3 : Int32)) hx hb dX9_undo_10 (by decide) ?_
    cases h
    exact z_iret S hQ hr hw [0, 1, 2, 3, 4, 5, 6, 7] rfl rfl dX9_undo_12
abbrev rmX9_path : Room := { frames := 1, cells := 0, slots := 0, locals := 24 }
theorem dv_X9_path : yX9_path.cls = RX9 ∧ yX9_path.cls ≠ "java/lang/invoke/MethodHandle" ∧ yX9_path.cls ≠ "java/lang/invoke/VarHandle" ∧ (parseMethodDescriptor yX9_path.desc).map (fun d => d.parameters.length) = some 2 := by decide +kernel
noncomputable def f_X9_path (N : Nat) (y1 : Int32) (y2 : Int32) (i_net_paths : Int32) (k_net_starts : (Nat → Int32)) (k_net_sizes : (Nat → Int32)) (k_now_delays : (Nat → Int32)) (k_net_steps : (Nat → Int32)) : Option (Int32) :=
  obd1 (f_X2_hasPath N y1 i_net_paths) fun (r_1 : Int32) => (if r_1 = (0 : Int32) then (some ((-1 : Int32))) else ((if (0 : Int32) ≤ y2 then ((if y2 = (0 : Int32) then (grd (inb y1 55) <| some ((k_net_starts y1.toNatClampNeg))) else (if y2 = (1 : Int32) then (grd (inb y1 55) <| some ((k_net_sizes y1.toNatClampNeg))) else (if y2 = (2 : Int32) then (obd1 (f_X2_lengthOf N y1 k_now_delays k_net_sizes k_net_steps) fun (r_2 : Int32) => some (r_2)) else obd1 (f_X2_stepOf N y1 (y2 - (3 : Int32)) k_net_sizes k_net_steps) fun (r_3 : Int32) => some (r_3))))) else (some ((-2 : Int32))))))
set_option maxHeartbeats 4000000 in
set_option maxRecDepth 100000 in
theorem c_X9_path (l : Launch) (D : va_G) (cI cJ cZ cS : ClassId) (sz N : Nat) (a_this a_net a_now a_net_starts a_net_sizes a_now_delays a_net_steps a_script a_acts a_sightings a_trial a_slots a_levels a_table a_waves a_spans a_draft a_net_told a_net_lefts a_net_rights a_net_nexts a_net_links a_now_kinds : Nat) (i_this_lastDraw : Int64) (i_net_inputs : Int32) (i_net_gates : Int32) (i_net_paths : Int32) (i_now_held : Int32) (k_net_starts : (Nat → Int32)) (k_net_sizes : (Nat → Int32)) (k_now_delays : (Nat → Int32)) (k_net_steps : (Nat → Int32)) (y1 : Int32) (y2 : Int32) (rr : Int32) (hf : f_X9_path N y1 y2 i_net_paths k_net_starts k_net_sizes k_now_delays k_net_steps = some (rr)) : MetIr l yX9_path wsX9_path rmX9_path D (tyA cI cJ cZ cS) [(a_this, .inr (9, [.ref a_script, .ref a_acts, .ref a_sightings, .ref a_now, .ref a_trial, .ref a_slots, .ref a_levels, .ref a_table, .ref a_waves, .ref a_spans, .ref a_net, .ref a_draft, .long i_this_lastDraw])), (a_net, .inr (2, [.int i_net_inputs, .int i_net_gates, .int i_net_paths, .ref a_net_told, .ref a_net_lefts, .ref a_net_rights, .ref a_net_nexts, .ref a_net_starts, .ref a_net_sizes, .ref a_net_steps, .ref a_net_links])), (a_now, .inr (5, [.ref a_now_kinds, .ref a_now_delays, .int i_now_held])), (a_net_starts, .inl (cI, 55, .inl k_net_starts)), (a_net_sizes, .inl (cI, 55, .inl k_net_sizes)), (a_now_delays, .inl (cI, 8, .inl k_now_delays)), (a_net_steps, .inl (cI, 440, .inl k_net_steps))] sz [.ref a_this, .int y1, .int y2] rr := by
  refine entIr (cc := cX9_path) (maxL := 3) (own := RX9) (by decide) rfl rfl (Nat.le_of_ble_eq_true rfl) ?_
  intro p e s m args below meth c A ls Q S hr hw hl hQ
  have hx := S.1.1
  have hb := S.1.2.1
  have hts := S.1.2.2.2.2
  have hl : lv_has ls 3 [(0, .ref a_this), (1, .int y1), (2, .int y2)] := hl
  have hinX9 : ∀ w ∈ u_ws RX9 TX9 13, w ∈ wsX9_path := (fun _ h => List.mem_cons_of_mem _ (List.mem_append_left _ (List.mem_append_left _ (List.mem_append_right _ h))))
  have F33 : FLk s args wsX9_path RX9 33 RX9 TX9 13 9 3 := ⟨hinX9, rfl, by decide, hts (.fieldLink RX9 33 "SlowPaths" "now" "LSlowPaths$Setting;") (List.mem_of_getElem? (i := 4) rfl)⟩
  have F75 : FLk s args wsX9_path RX9 75 RX9 TX9 13 9 10 := ⟨hinX9, rfl, by decide, hts (.fieldLink RX9 75 "SlowPaths" "net" "LSlowPaths$Net;") (List.mem_of_getElem? (i := 1) rfl)⟩
  have hinX5 : ∀ w ∈ u_ws RX5 TX5 3, w ∈ wsX9_path := (fun _ h => List.mem_cons_of_mem _ (List.mem_append_right _ h))
  have F129 : FLk s args wsX9_path RX9 129 RX5 TX5 3 5 1 := ⟨hinX5, rfl, by decide, hts (.fieldLink RX9 129 "SlowPaths$Setting" "delays" "[I") (List.mem_of_getElem? (i := 5) rfl)⟩
  have hinX2 : ∀ w ∈ u_ws RX2 TX2 11, w ∈ wsX9_path := (fun _ h => List.mem_cons_of_mem _ (List.mem_append_left _ (List.mem_append_right _ h)))
  have F143 : FLk s args wsX9_path RX9 143 RX2 TX2 11 2 7 := ⟨hinX2, rfl, by decide, hts (.fieldLink RX9 143 "SlowPaths$Net" "starts" "[I") (List.mem_of_getElem? (i := 2) rfl)⟩
  have F146 : FLk s args wsX9_path RX9 146 RX2 TX2 11 2 8 := ⟨hinX2, rfl, by decide, hts (.fieldLink RX9 146 "SlowPaths$Net" "sizes" "[I") (List.mem_of_getElem? (i := 3) rfl)⟩
  have h := hf
  rw [f_X9_path] at h
  refine lv_aload_n hx hb dX9_path_0 rfl (lv_at hl 0 rfl) ?_
  refine z_get S hw F75 0 rfl rfl dX9_path_1 ?_
  refine lv_iload_n hx hb dX9_path_4 rfl (lv_at hl 1 rfl) ?_
  obtain ⟨r_1, e5_1, h⟩ := obd1_el h
  refine zr_VI (As := [.int y1]) (rest := []) (q0 := 0) S hw (c_X2_hasPath l D cI cJ cZ cS s.heap.size N a_net a_net_told a_net_lefts a_net_rights a_net_nexts a_net_starts a_net_sizes a_net_steps a_net_links i_net_inputs i_net_gates i_net_paths y1 r_1 e5_1) (cwV 1 hts gX9_path_X2_hasPath rfl rfl rfl dv_X2_hasPath ⟨Nat.le_of_ble_eq_true rfl, Nat.le_of_ble_eq_true rfl⟩) [1] rfl rfl rfl rfl rfl rfl hl.1 rfl (Nat.le_of_ble_eq_true rfl) dX9_path_5 ⟨Nat.zero_le _, Nat.zero_le _⟩ ?_
  refine lv_if_ne (tgt := 13) hx hb dX9_path_8 (by decide) (fun hc => ?_) (fun hc => ?_)
  · replace h := if_f hc h
    refine lv_iload_n hx hb dX9_path_13 rfl (lv_at hl 2 rfl) ?_
    refine lv_if_ge (tgt := 20) hx hb dX9_path_14 (by decide) (fun hc => ?_) (fun hc => ?_)
    · replace h := if_t hc h
      refine lv_iload_n hx hb dX9_path_20 rfl (lv_at hl 2 rfl) ?_
      by_cases hs0 : y2 = (0 : Int32)
      · replace h := if_t hs0 h
        refine lv_tableIn (off := 27) (tgt := 48) hx hb dX9_path_21 (by rw [hs0]; decide) (by rw [hs0]; decide) (by rw [hs0]; rfl) (by decide) ?_
        refine lv_aload_n hx hb dX9_path_48 rfl (lv_at hl 0 rfl) ?_
        refine z_get S hw F75 0 rfl rfl dX9_path_49 ?_
        refine z_get S hw F143 1 rfl rfl dX9_path_52 ?_
        refine lv_iload_n hx hb dX9_path_55 rfl (lv_at hl 1 rfl) ?_
        obtain ⟨hg, h⟩ := grd_el h
        refine z_iald S hw 3 0 rfl rfl hg dX9_path_56 ?_
        cases h
        exact z_iretr S hQ hr dX9_path_57
      replace h := if_f hs0 h
      by_cases hs1 : y2 = (1 : Int32)
      · replace h := if_t hs1 h
        refine lv_tableIn (off := 37) (tgt := 58) hx hb dX9_path_21 (by rw [hs1]; decide) (by rw [hs1]; decide) (by rw [hs1]; rfl) (by decide) ?_
        refine lv_aload_n hx hb dX9_path_58 rfl (lv_at hl 0 rfl) ?_
        refine z_get S hw F75 0 rfl rfl dX9_path_59 ?_
        refine z_get S hw F146 1 rfl rfl dX9_path_62 ?_
        refine lv_iload_n hx hb dX9_path_65 rfl (lv_at hl 1 rfl) ?_
        obtain ⟨hg, h⟩ := grd_el h
        refine z_iald S hw 4 0 rfl rfl hg dX9_path_66 ?_
        cases h
        exact z_iretr S hQ hr dX9_path_67
      replace h := if_f hs1 h
      by_cases hs2 : y2 = (2 : Int32)
      · replace h := if_t hs2 h
        refine lv_tableIn (off := 47) (tgt := 68) hx hb dX9_path_21 (by rw [hs2]; decide) (by rw [hs2]; decide) (by rw [hs2]; rfl) (by decide) ?_
        refine lv_aload_n hx hb dX9_path_68 rfl (lv_at hl 0 rfl) ?_
        refine z_get S hw F75 0 rfl rfl dX9_path_69 ?_
        refine lv_iload_n hx hb dX9_path_72 rfl (lv_at hl 1 rfl) ?_
        refine lv_aload_n hx hb dX9_path_73 rfl (lv_at hl 0 rfl) ?_
        refine z_get S hw F33 0 rfl rfl dX9_path_74 ?_
        refine z_get S hw F129 2 rfl rfl dX9_path_77 ?_
        obtain ⟨r_2, e80_1, h⟩ := obd1_el h
        refine zr_VI (As := [.int y1, .ref a_now_delays]) (rest := []) (q0 := 0) S hw (c_X2_lengthOf l D cI cJ cZ cS s.heap.size N a_net a_now_delays a_net_sizes a_net_steps a_net_told a_net_lefts a_net_rights a_net_nexts a_net_starts a_net_links i_net_inputs i_net_gates i_net_paths k_now_delays k_net_sizes k_net_steps y1 r_2 e80_1) (cwV 2 hts gX9_path_X2_lengthOf rfl rfl rfl dv_X2_lengthOf ⟨Nat.le_of_ble_eq_true rfl, Nat.le_of_ble_eq_true rfl⟩) [1, 5, 4, 6] rfl rfl rfl rfl rfl rfl hl.1 rfl (Nat.le_of_ble_eq_true rfl) dX9_path_80 ⟨Nat.zero_le _, Nat.zero_le _⟩ ?_
        cases h
        exact z_iretr S hQ hr dX9_path_83
      replace h := if_f hs2 h
      refine lv_tableOut (tgt := 84) hx hb dX9_path_21 (tb_out (fun j h1 h2 => ?_)) (by decide) ?_
      · rcases (show j = 0 ∨ j = 1 ∨ j = 2 by omega) with rfl | rfl | rfl
        · exact fun he => hs0 (he.trans (by decide))
        · exact fun he => hs1 (he.trans (by decide))
        · exact fun he => hs2 (he.trans (by decide))
      refine lv_aload_n hx hb dX9_path_84 rfl (lv_at hl 0 rfl) ?_
      refine z_get S hw F75 0 rfl rfl dX9_path_85 ?_
      refine lv_iload_n hx hb dX9_path_88 rfl (lv_at hl 1 rfl) ?_
      refine lv_iload_n hx hb dX9_path_89 rfl (lv_at hl 2 rfl) ?_
      refine lv_iconst (v := (3 : Int32)) hx hb dX9_path_90 (by decide) ?_
      refine lv_isub hx hb dX9_path_91 ?_
      obtain ⟨r_3, e92_1, h⟩ := obd1_el h
      refine zr_VI (As := [.int y1, .int (y2 - (3 : Int32))]) (rest := []) (q0 := 0) S hw (c_X2_stepOf l D cI cJ cZ cS s.heap.size N a_net a_net_sizes a_net_steps a_net_told a_net_lefts a_net_rights a_net_nexts a_net_starts a_net_links i_net_inputs i_net_gates i_net_paths k_net_sizes k_net_steps y1 (y2 - (3 : Int32)) r_3 e92_1) (cwV 2 hts gX9_path_X2_stepOf rfl rfl rfl dv_X2_stepOf ⟨Nat.le_of_ble_eq_true rfl, Nat.le_of_ble_eq_true rfl⟩) [1, 4, 6] rfl rfl rfl rfl rfl rfl hl.1 rfl (Nat.le_of_ble_eq_true rfl) dX9_path_92 ⟨Nat.zero_le _, Nat.zero_le _⟩ ?_
      cases h
      exact z_iretr S hQ hr dX9_path_95
    · replace h := if_f hc h
      refine lv_bipush (v := (-2 : Int32)) hx hb dX9_path_17 (by decide) ?_
      cases h
      exact z_iretr S hQ hr dX9_path_19
  · replace h := if_t hc h
    refine lv_iconst (v := (-1 : Int32)) hx hb dX9_path_11 (by decide) ?_
    cases h
    exact z_iretr S hQ hr dX9_path_12
abbrev rmX9_longest : Room := { frames := 1, cells := 0, slots := 0, locals := 24 }
theorem dv_X9_longest : yX9_longest.cls = RX9 ∧ yX9_longest.cls ≠ "java/lang/invoke/MethodHandle" ∧ yX9_longest.cls ≠ "java/lang/invoke/VarHandle" ∧ (parseMethodDescriptor yX9_longest.desc).map (fun d => d.parameters.length) = some 1 := by decide +kernel
noncomputable def f_X9_longest_L21 (N : Nat) (i_net_paths : Int32) (k_now_delays : (Nat → Int32)) (k_net_sizes : (Nat → Int32)) (k_net_steps : (Nat → Int32)) (j69_1 : Int32 → Int32 → Option (Int32)) : Nat → Int32 → Int32 → Int32 → Option (Int32)
  | 0, _, _, _ => none
  | n_21 + 1, x2_3, x3_4, x4_5 =>
    (if i_net_paths ≤ x4_5 then (j69_1 x2_3 x3_4) else (obd1 (f_X2_lengthOf N x4_5 k_now_delays k_net_sizes k_net_steps) fun (r_6 : Int32) => bnd (fun (x2_7 : Int32) (x3_8 : Int32) => (bnd (x4_5 + (1 : Int32)) fun (x4_9 : Int32) => f_X9_longest_L21 N i_net_paths k_now_delays k_net_sizes k_net_steps j69_1 n_21 x2_7 x3_8 x4_9)) fun (j63_1 : Int32 → Int32 → Option (Int32)) => (if r_6 ≤ x2_3 then (j63_1 x2_3 x3_4) else (j63_1 r_6 x4_5))))
noncomputable def f_X9_longest (N : Nat) (y1 : Int32) (i_net_paths : Int32) (k_now_delays : (Nat → Int32)) (k_net_sizes : (Nat → Int32)) (k_net_steps : (Nat → Int32)) : Option (Int32) :=
  (if y1 < (0 : Int32) then (some ((-2 : Int32))) else ((if y1 ≤ (1 : Int32) then (bnd (fun (x2_1 : Int32) (x3_2 : Int32) => ((if y1 = (0 : Int32) then (some (x2_1)) else (some (x3_2))))) fun (j69_1 : Int32 → Int32 → Option (Int32)) => f_X9_longest_L21 N i_net_paths k_now_delays k_net_sizes k_net_steps j69_1 N ((-9 : Int32)) ((-9 : Int32)) ((0 : Int32))) else (some ((-2 : Int32))))))
set_option maxHeartbeats 4000000 in
set_option maxRecDepth 100000 in
theorem c_X9_longest (l : Launch) (D : va_G) (cI cJ cZ cS : ClassId) (sz N : Nat) (a_this a_net a_now a_now_delays a_net_sizes a_net_steps a_script a_acts a_sightings a_trial a_slots a_levels a_table a_waves a_spans a_draft a_net_told a_net_lefts a_net_rights a_net_nexts a_net_starts a_net_links a_now_kinds : Nat) (i_this_lastDraw : Int64) (i_net_inputs : Int32) (i_net_gates : Int32) (i_net_paths : Int32) (i_now_held : Int32) (k_now_delays : (Nat → Int32)) (k_net_sizes : (Nat → Int32)) (k_net_steps : (Nat → Int32)) (y1 : Int32) (rr : Int32) (hf : f_X9_longest N y1 i_net_paths k_now_delays k_net_sizes k_net_steps = some (rr)) : MetIr l yX9_longest wsX9_longest rmX9_longest D (tyA cI cJ cZ cS) [(a_this, .inr (9, [.ref a_script, .ref a_acts, .ref a_sightings, .ref a_now, .ref a_trial, .ref a_slots, .ref a_levels, .ref a_table, .ref a_waves, .ref a_spans, .ref a_net, .ref a_draft, .long i_this_lastDraw])), (a_net, .inr (2, [.int i_net_inputs, .int i_net_gates, .int i_net_paths, .ref a_net_told, .ref a_net_lefts, .ref a_net_rights, .ref a_net_nexts, .ref a_net_starts, .ref a_net_sizes, .ref a_net_steps, .ref a_net_links])), (a_now, .inr (5, [.ref a_now_kinds, .ref a_now_delays, .int i_now_held])), (a_now_delays, .inl (cI, 8, .inl k_now_delays)), (a_net_sizes, .inl (cI, 55, .inl k_net_sizes)), (a_net_steps, .inl (cI, 440, .inl k_net_steps))] sz [.ref a_this, .int y1] rr := by
  refine entIr (cc := cX9_longest) (maxL := 6) (own := RX9) (by decide) rfl rfl (Nat.le_of_ble_eq_true rfl) ?_
  intro p e s m args below meth c A ls Q S hr hw hl hQ
  have hx := S.1.1
  have hb := S.1.2.1
  have hts := S.1.2.2.2.2
  have hl : lv_has ls 6 [(0, .ref a_this), (1, .int y1)] := hl
  have hinX9 : ∀ w ∈ u_ws RX9 TX9 13, w ∈ wsX9_longest := (fun _ h => List.mem_cons_of_mem _ (List.mem_append_left _ (List.mem_append_left _ (List.mem_append_right _ h))))
  have F33 : FLk s args wsX9_longest RX9 33 RX9 TX9 13 9 3 := ⟨hinX9, rfl, by decide, hts (.fieldLink RX9 33 "SlowPaths" "now" "LSlowPaths$Setting;") (List.mem_of_getElem? (i := 3) rfl)⟩
  have F75 : FLk s args wsX9_longest RX9 75 RX9 TX9 13 9 10 := ⟨hinX9, rfl, by decide, hts (.fieldLink RX9 75 "SlowPaths" "net" "LSlowPaths$Net;") (List.mem_of_getElem? (i := 1) rfl)⟩
  have hinX2 : ∀ w ∈ u_ws RX2 TX2 11, w ∈ wsX9_longest := (fun _ h => List.mem_cons_of_mem _ (List.mem_append_left _ (List.mem_append_right _ h)))
  have F113 : FLk s args wsX9_longest RX9 113 RX2 TX2 11 2 2 := ⟨hinX2, rfl, by decide, hts (.fieldLink RX9 113 "SlowPaths$Net" "paths" "I") (List.mem_of_getElem? (i := 2) rfl)⟩
  have hinX5 : ∀ w ∈ u_ws RX5 TX5 3, w ∈ wsX9_longest := (fun _ h => List.mem_cons_of_mem _ (List.mem_append_right _ h))
  have F129 : FLk s args wsX9_longest RX9 129 RX5 TX5 3 5 1 := ⟨hinX5, rfl, by decide, hts (.fieldLink RX9 129 "SlowPaths$Setting" "delays" "[I") (List.mem_of_getElem? (i := 4) rfl)⟩
  have h := hf
  rw [f_X9_longest] at h
  refine lv_iload_n hx hb dX9_longest_0 rfl (lv_at hl 1 rfl) ?_
  refine lv_if_lt (tgt := 9) hx hb dX9_longest_1 (by decide) (fun hc => ?_) (fun hc => ?_)
  · replace h := if_t hc h
    refine lv_bipush (v := (-2 : Int32)) hx hb dX9_longest_9 (by decide) ?_
    cases h
    exact z_iretr S hQ hr dX9_longest_11
  · replace h := if_f hc h
    refine lv_iload_n hx hb dX9_longest_4 rfl (lv_at hl 1 rfl) ?_
    refine lv_iconst (v := (1 : Int32)) hx hb dX9_longest_5 (by decide) ?_
    refine lv_icmp_le (tgt := 12) hx hb dX9_longest_6 (by decide) (fun hc => ?_) (fun hc => ?_)
    · replace h := if_t hc h
      refine lv_bipush (v := (-9 : Int32)) hx hb dX9_longest_12 (by decide) ?_
      refine lv_istore_n (lv' := [(2, .int (-9 : Int32)), (0, .ref a_this), (1, .int y1)]) hx hb dX9_longest_14 rfl hl (by decide) rfl (fun ls hl => ?_)
      refine lv_bipush (v := (-9 : Int32)) hx hb dX9_longest_15 (by decide) ?_
      refine lv_istore_n (lv' := [(3, .int (-9 : Int32)), (2, .int (-9 : Int32)), (0, .ref a_this), (1, .int y1)]) hx hb dX9_longest_17 rfl hl (by decide) rfl (fun ls hl => ?_)
      refine lv_iconst (v := (0 : Int32)) hx hb dX9_longest_18 (by decide) ?_
      refine lv_istore (lv' := [(4, .int (0 : Int32)), (3, .int (-9 : Int32)), (2, .int (-9 : Int32)), (0, .ref a_this), (1, .int y1)]) hx hb dX9_longest_19 hl (by decide) rfl (fun ls hl => ?_)
      obtain ⟨j69_1, ej69_1, h⟩ := bnd_ex h
      have hj69_1 : ∀ (x2_1 : Int32) (x3_2 : Int32) (ls : Array Slot), j69_1 x2_1 x3_2 = some (rr) → lv_has ls 6 [(1, .int y1), (2, .int x2_1), (3, .int x3_2)] → W p l e rmX9_longest s m args below meth c s.heap [] 0 0 Q (F0 m 69 ls []) := by
        intro x2_1 x3_2 ls h hl
        replace h := ap2 ej69_1 h
        refine lv_iload_n hx hb dX9_longest_69 rfl (lv_at hl 0 rfl) ?_
        refine lv_if_ne (tgt := 77) hx hb dX9_longest_70 (by decide) (fun hc => ?_) (fun hc => ?_)
        · replace h := if_f hc h
          refine lv_iload_n hx hb dX9_longest_77 rfl (lv_at hl 2 rfl) ?_
          cases h
          exact z_iretr S hQ hr dX9_longest_78
        · replace h := if_t hc h
          refine lv_iload_n hx hb dX9_longest_73 rfl (lv_at hl 1 rfl) ?_
          refine lv_goto (tgt := 78) hx hb dX9_longest_74 (by decide) ?_
          cases h
          exact z_iretr S hQ hr dX9_longest_78
      have hL21_1 : ∀ (nf : Nat) (x2_3 : Int32) (x3_4 : Int32) (x4_5 : Int32) (ls : Array Slot), f_X9_longest_L21 N i_net_paths k_now_delays k_net_sizes k_net_steps j69_1 nf x2_3 x3_4 x4_5 = some (rr) → lv_has ls 6 [(0, .ref a_this), (1, .int y1), (2, .int x2_3), (3, .int x3_4), (4, .int x4_5)] → W p l e rmX9_longest s m args below meth c s.heap [] 0 0 Q (F0 m 21 ls []) := by
        intro nf
        induction nf with
        | zero =>
          intro x2_3 x3_4 x4_5 ls h
          rw [f_X9_longest_L21] at h
          cases h
        | succ n_21 ih_21 =>
          intro x2_3 x3_4 x4_5 ls h hl
          rw [f_X9_longest_L21] at h
          refine lv_iload hx hb dX9_longest_21 (lv_at hl 4 rfl) ?_
          refine lv_aload_n hx hb dX9_longest_23 rfl (lv_at hl 0 rfl) ?_
          refine z_get S hw F75 0 rfl rfl dX9_longest_24 ?_
          refine z_get S hw F113 1 rfl rfl dX9_longest_27 ?_
          refine lv_icmp_ge (tgt := 69) hx hb dX9_longest_30 (by decide) (fun hc => ?_) (fun hc => ?_)
          · replace h := if_t hc h
            exact hj69_1 x2_3 x3_4 ls h (lv_sub hl [1, 2, 3] rfl)
          · replace h := if_f hc h
            refine lv_aload_n hx hb dX9_longest_33 rfl (lv_at hl 0 rfl) ?_
            refine z_get S hw F75 0 rfl rfl dX9_longest_34 ?_
            refine lv_iload hx hb dX9_longest_37 (lv_at hl 4 rfl) ?_
            refine lv_aload_n hx hb dX9_longest_39 rfl (lv_at hl 0 rfl) ?_
            refine z_get S hw F33 0 rfl rfl dX9_longest_40 ?_
            refine z_get S hw F129 2 rfl rfl dX9_longest_43 ?_
            obtain ⟨r_6, e46_1, h⟩ := obd1_el h
            refine zr_VI (As := [.int x4_5, .ref a_now_delays]) (rest := []) (q0 := 0) S hw (c_X2_lengthOf l D cI cJ cZ cS s.heap.size N a_net a_now_delays a_net_sizes a_net_steps a_net_told a_net_lefts a_net_rights a_net_nexts a_net_starts a_net_links i_net_inputs i_net_gates i_net_paths k_now_delays k_net_sizes k_net_steps x4_5 r_6 e46_1) (cwV 2 hts gX9_longest_X2_lengthOf rfl rfl rfl dv_X2_lengthOf ⟨Nat.le_of_ble_eq_true rfl, Nat.le_of_ble_eq_true rfl⟩) [1, 3, 4, 5] rfl rfl rfl rfl rfl rfl hl.1 rfl (Nat.le_of_ble_eq_true rfl) dX9_longest_46 ⟨Nat.zero_le _, Nat.zero_le _⟩ ?_
            refine lv_istore (lv' := [(5, .int r_6), (0, .ref a_this), (1, .int y1), (2, .int x2_3), (3, .int x3_4), (4, .int x4_5)]) hx hb dX9_longest_49 hl (by decide) rfl (fun ls hl => ?_)
            refine lv_iload hx hb dX9_longest_51 (lv_at hl 0 rfl) ?_
            refine lv_iload_n hx hb dX9_longest_53 rfl (lv_at hl 3 rfl) ?_
            obtain ⟨j63_1, ej63_1, h⟩ := bnd_ex h
            have hj63_1 : ∀ (x2_7 : Int32) (x3_8 : Int32) (ls : Array Slot), j63_1 x2_7 x3_8 = some (rr) → lv_has ls 6 [(0, .ref a_this), (1, .int y1), (2, .int x2_7), (3, .int x3_8), (4, .int x4_5)] → W p l e rmX9_longest s m args below meth c s.heap [] 0 0 Q (F0 m 63 ls []) := by
              intro x2_7 x3_8 ls h hl
              replace h := ap2 ej63_1 h
              obtain ⟨x4_9, ex4_9, h⟩ := bnd_ex h
              refine lv_iinc (v := x4_9) (lv' := [(4, .int x4_9), (0, .ref a_this), (1, .int y1), (2, .int x2_7), (3, .int x3_8)]) hx hb dX9_longest_63 hl (k := 4) rfl (by rw [ex4_9]; rfl) (by decide) rfl (fun ls hl => ?_)
              refine lv_goto (tgt := 21) hx hb dX9_longest_66 (by decide) ?_
              exact ih_21 x2_7 x3_8 x4_9 ls h (lv_sub hl [1, 2, 3, 4, 0] rfl)
            refine lv_icmp_le (tgt := 63) hx hb dX9_longest_54 (by decide) (fun hc => ?_) (fun hc => ?_)
            · replace h := if_t hc h
              exact hj63_1 x2_3 x3_4 ls h (lv_sub hl [1, 2, 3, 4, 5] rfl)
            · replace h := if_f hc h
              refine lv_iload hx hb dX9_longest_57 (lv_at hl 0 rfl) ?_
              refine lv_istore_n (lv' := [(2, .int r_6), (5, .int r_6), (0, .ref a_this), (1, .int y1), (3, .int x3_4), (4, .int x4_5)]) hx hb dX9_longest_59 rfl hl (by decide) rfl (fun ls hl => ?_)
              refine lv_iload hx hb dX9_longest_60 (lv_at hl 5 rfl) ?_
              refine lv_istore_n (lv' := [(3, .int x4_5), (2, .int r_6), (5, .int r_6), (0, .ref a_this), (1, .int y1), (4, .int x4_5)]) hx hb dX9_longest_62 rfl hl (by decide) rfl (fun ls hl => ?_)
              exact hj63_1 r_6 x4_5 ls h (lv_sub hl [3, 4, 1, 0, 5] rfl)
      exact hL21_1 N ((-9 : Int32)) ((-9 : Int32)) ((0 : Int32)) ls h (lv_sub hl [3, 4, 2, 1, 0] rfl)
    · replace h := if_f hc h
      refine lv_bipush (v := (-2 : Int32)) hx hb dX9_longest_9 (by decide) ?_
      cases h
      exact z_iretr S hQ hr dX9_longest_11
abbrev rmX9_value : Room := { frames := 3, cells := 0, slots := 0, locals := 71 }
theorem dv_X9_value : yX9_value.cls = RX9 ∧ yX9_value.cls ≠ "java/lang/invoke/MethodHandle" ∧ yX9_value.cls ≠ "java/lang/invoke/VarHandle" ∧ (parseMethodDescriptor yX9_value.desc).map (fun d => d.parameters.length) = some 2 := by decide +kernel
noncomputable def f_X9_value (N : Nat) (y1 : Int32) (y2 : Int32) (i_net_inputs : Int32) (i_net_gates : Int32) (i_levels_links : Int32) (i_levels_sureLinks : Int32) (k_now_kinds : (Nat → Int32)) (k_net_lefts : (Nat → Int32)) (k_levels_of : (Nat → Int32)) (k_net_rights : (Nat → Int32)) : Option (Int32 × Int32 × Int32 × (Nat → Int32)) :=
  obd1 (f_X2_hasGate N y1 i_net_gates) fun (r_1 : Int32) => (if r_1 = (0 : Int32) then (some ((-1 : Int32), i_levels_links, i_levels_sureLinks, k_levels_of)) else (obd1 (f_X2_hasPair N y2 i_net_inputs) fun (r_2 : Int32) => (if r_2 = (0 : Int32) then (some ((-2 : Int32), i_levels_links, i_levels_sureLinks, k_levels_of)) else (obd3 (f_X1_settle N y2 i_net_inputs i_net_gates i_levels_links i_levels_sureLinks k_now_kinds k_net_lefts k_levels_of k_net_rights) fun (i_levels_links_3 : Int32) (i_levels_sureLinks_4 : Int32) (k_levels_of_5 : (Nat → Int32)) => grd (inb ((10 : Int32) + y1) 18) <| some ((k_levels_of_5 ((10 : Int32) + y1).toNatClampNeg), i_levels_links_3, i_levels_sureLinks_4, k_levels_of_5)))))
set_option maxHeartbeats 4000000 in
set_option maxRecDepth 100000 in
theorem c_X9_value (l : Launch) (D : va_G) (cI cJ cZ cS : ClassId) (sz N : Nat) (a_this a_net a_now a_levels a_now_kinds a_net_lefts a_levels_of a_net_rights a_script a_acts a_sightings a_trial a_slots a_table a_waves a_spans a_draft a_net_told a_net_nexts a_net_starts a_net_sizes a_net_steps a_net_links a_now_delays : Nat) (i_this_lastDraw : Int64) (i_net_inputs : Int32) (i_net_gates : Int32) (i_net_paths : Int32) (i_now_held : Int32) (i_levels_links : Int32) (i_levels_sureLinks : Int32) (k_now_kinds : (Nat → Int32)) (k_net_lefts : (Nat → Int32)) (k_levels_of : (Nat → Int32)) (k_net_rights : (Nat → Int32)) (y1 : Int32) (y2 : Int32) (rr : Int32) (o_levels_links : Int32) (o_levels_sureLinks : Int32) (o_levels_of : (Nat → Int32)) (hf : f_X9_value N y1 y2 i_net_inputs i_net_gates i_levels_links i_levels_sureLinks k_now_kinds k_net_lefts k_levels_of k_net_rights = some (rr, o_levels_links, o_levels_sureLinks, o_levels_of)) : MetI l yX9_value wsX9_value rmX9_value D (tyA cI cJ cZ cS) [(a_this, .inr (9, [.ref a_script, .ref a_acts, .ref a_sightings, .ref a_now, .ref a_trial, .ref a_slots, .ref a_levels, .ref a_table, .ref a_waves, .ref a_spans, .ref a_net, .ref a_draft, .long i_this_lastDraw])), (a_net, .inr (2, [.int i_net_inputs, .int i_net_gates, .int i_net_paths, .ref a_net_told, .ref a_net_lefts, .ref a_net_rights, .ref a_net_nexts, .ref a_net_starts, .ref a_net_sizes, .ref a_net_steps, .ref a_net_links])), (a_now, .inr (5, [.ref a_now_kinds, .ref a_now_delays, .int i_now_held])), (a_levels, .inr (1, [.ref a_levels_of, .int i_levels_links, .int i_levels_sureLinks])), (a_now_kinds, .inl (cI, 8, .inl k_now_kinds)), (a_net_lefts, .inl (cI, 8, .inl k_net_lefts)), (a_levels_of, .inl (cI, 18, .inl k_levels_of)), (a_net_rights, .inl (cI, 8, .inl k_net_rights))] sz [.ref a_this, .int y1, .int y2] rr [(a_this, .inr (9, [.ref a_script, .ref a_acts, .ref a_sightings, .ref a_now, .ref a_trial, .ref a_slots, .ref a_levels, .ref a_table, .ref a_waves, .ref a_spans, .ref a_net, .ref a_draft, .long i_this_lastDraw])), (a_net, .inr (2, [.int i_net_inputs, .int i_net_gates, .int i_net_paths, .ref a_net_told, .ref a_net_lefts, .ref a_net_rights, .ref a_net_nexts, .ref a_net_starts, .ref a_net_sizes, .ref a_net_steps, .ref a_net_links])), (a_now, .inr (5, [.ref a_now_kinds, .ref a_now_delays, .int i_now_held])), (a_levels, .inr (1, [.ref a_levels_of, .int o_levels_links, .int o_levels_sureLinks])), (a_now_kinds, .inl (cI, 8, .inl k_now_kinds)), (a_net_lefts, .inl (cI, 8, .inl k_net_lefts)), (a_levels_of, .inl (cI, 18, .inl o_levels_of)), (a_net_rights, .inl (cI, 8, .inl k_net_rights))] := by
  refine entI (cc := cX9_value) (maxL := 3) (own := RX9) (by decide) rfl rfl (Nat.le_of_ble_eq_true rfl) ?_
  intro p e s m args below meth c A ls Q H locs S hr hw hl hQ
  have hx := S.1.1
  have hb := S.1.2.1
  have hts := S.1.2.2.2.2
  have hl : lv_has ls 3 [(0, .ref a_this), (1, .int y1), (2, .int y2)] := hl
  have hinX9 : ∀ w ∈ u_ws RX9 TX9 13, w ∈ wsX9_value := (fun _ h => List.mem_cons_of_mem _ (List.mem_append_left _ (List.mem_append_left _ (List.mem_append_left _ (List.mem_append_right _ h)))))
  have F33 : FLk s args wsX9_value RX9 33 RX9 TX9 13 9 3 := ⟨hinX9, rfl, by decide, hts (.fieldLink RX9 33 "SlowPaths" "now" "LSlowPaths$Setting;") (List.mem_of_getElem? (i := 3) rfl)⟩
  have F47 : FLk s args wsX9_value RX9 47 RX9 TX9 13 9 6 := ⟨hinX9, rfl, by decide, hts (.fieldLink RX9 47 "SlowPaths" "levels" "LSlowPaths$Levels;") (List.mem_of_getElem? (i := 2) rfl)⟩
  have F75 : FLk s args wsX9_value RX9 75 RX9 TX9 13 9 10 := ⟨hinX9, rfl, by decide, hts (.fieldLink RX9 75 "SlowPaths" "net" "LSlowPaths$Net;") (List.mem_of_getElem? (i := 1) rfl)⟩
  have hinX5 : ∀ w ∈ u_ws RX5 TX5 3, w ∈ wsX9_value := (fun _ h => List.mem_cons_of_mem _ (List.mem_append_left _ (List.mem_append_left _ (List.mem_append_right _ h))))
  have F120 : FLk s args wsX9_value RX9 120 RX5 TX5 3 5 0 := ⟨hinX5, rfl, by decide, hts (.fieldLink RX9 120 "SlowPaths$Setting" "kinds" "[I") (List.mem_of_getElem? (i := 4) rfl)⟩
  have hinX1 : ∀ w ∈ u_ws RX1 TX1 3, w ∈ wsX9_value := (fun _ h => List.mem_cons_of_mem _ (List.mem_append_left _ (List.mem_append_right _ h)))
  have F164 : FLk s args wsX9_value RX9 164 RX1 TX1 3 1 0 := ⟨hinX1, rfl, by decide, hts (.fieldLink RX9 164 "SlowPaths$Levels" "of" "[I") (List.mem_of_getElem? (i := 5) rfl)⟩
  have h := hf
  rw [f_X9_value] at h
  refine lv_aload_n hx hb dX9_value_0 rfl (lv_at hl 0 rfl) ?_
  refine z_get S hw F75 0 rfl rfl dX9_value_1 ?_
  refine lv_iload_n hx hb dX9_value_4 rfl (lv_at hl 1 rfl) ?_
  obtain ⟨r_1, e5_1, h⟩ := obd1_el h
  refine zr_VI (As := [.int y1]) (rest := []) (q0 := 0) S hw (c_X2_hasGate l D cI cJ cZ cS H.size N a_net a_net_told a_net_lefts a_net_rights a_net_nexts a_net_starts a_net_sizes a_net_steps a_net_links i_net_inputs i_net_gates i_net_paths y1 r_1 e5_1) (cwV 1 hts gX9_value_X2_hasGate rfl rfl rfl dv_X2_hasGate ⟨Nat.le_of_ble_eq_true rfl, Nat.le_of_ble_eq_true rfl⟩) [1] rfl rfl rfl rfl rfl rfl hl.1 rfl (Nat.le_of_ble_eq_true rfl) dX9_value_5 ⟨Nat.zero_le _, Nat.zero_le _⟩ ?_
  refine lv_if_ne (tgt := 13) hx hb dX9_value_8 (by decide) (fun hc => ?_) (fun hc => ?_)
  · replace h := if_f hc h
    refine lv_aload_n hx hb dX9_value_13 rfl (lv_at hl 0 rfl) ?_
    refine z_get S hw F75 0 rfl rfl dX9_value_14 ?_
    refine lv_iload_n hx hb dX9_value_17 rfl (lv_at hl 2 rfl) ?_
    obtain ⟨r_2, e18_1, h⟩ := obd1_el h
    refine zr_VI (As := [.int y2]) (rest := []) (q0 := 0) S hw (c_X2_hasPair l D cI cJ cZ cS H.size N a_net a_net_told a_net_lefts a_net_rights a_net_nexts a_net_starts a_net_sizes a_net_steps a_net_links i_net_inputs i_net_gates i_net_paths y2 r_2 e18_1) (cwV 1 hts gX9_value_X2_hasPair rfl rfl rfl dv_X2_hasPair ⟨Nat.le_of_ble_eq_true rfl, Nat.le_of_ble_eq_true rfl⟩) [1] rfl rfl rfl rfl rfl rfl hl.1 rfl (Nat.le_of_ble_eq_true rfl) dX9_value_18 ⟨Nat.zero_le _, Nat.zero_le _⟩ ?_
    refine lv_if_ne (tgt := 27) hx hb dX9_value_21 (by decide) (fun hc => ?_) (fun hc => ?_)
    · replace h := if_f hc h
      refine lv_aload_n hx hb dX9_value_27 rfl (lv_at hl 0 rfl) ?_
      refine z_get S hw F47 0 rfl rfl dX9_value_28 ?_
      refine lv_aload_n hx hb dX9_value_31 rfl (lv_at hl 0 rfl) ?_
      refine z_get S hw F75 0 rfl rfl dX9_value_32 ?_
      refine lv_aload_n hx hb dX9_value_35 rfl (lv_at hl 0 rfl) ?_
      refine z_get S hw F33 0 rfl rfl dX9_value_36 ?_
      refine z_get S hw F120 2 rfl rfl dX9_value_39 ?_
      refine lv_iload_n hx hb dX9_value_42 rfl (lv_at hl 2 rfl) ?_
      obtain ⟨i_levels_links_3, i_levels_sureLinks_4, k_levels_of_5, e43_1, h⟩ := obd3_el h
      refine zc_VV (As := [.ref a_net, .ref a_now_kinds, .int y2]) (rest := []) (wr := [(a_this, .inr (9, [.ref a_script, .ref a_acts, .ref a_sightings, .ref a_now, .ref a_trial, .ref a_slots, .ref a_levels, .ref a_table, .ref a_waves, .ref a_spans, .ref a_net, .ref a_draft, .long i_this_lastDraw])), (a_now, .inr (5, [.ref a_now_kinds, .ref a_now_delays, .int i_now_held]))]) (q0 := 1) S hw (c_X1_settle l D cI cJ cZ cS H.size N a_net a_levels a_now_kinds a_net_lefts a_levels_of a_net_rights a_net_told a_net_nexts a_net_starts a_net_sizes a_net_steps a_net_links i_net_inputs i_net_gates i_net_paths i_levels_links i_levels_sureLinks k_now_kinds k_net_lefts k_levels_of k_net_rights y2 i_levels_links_3 i_levels_sureLinks_4 k_levels_of_5 e43_1) (cwV 3 hts gX9_value_X1_settle rfl rfl rfl dv_X1_settle ⟨Nat.le_of_ble_eq_true rfl, Nat.le_of_ble_eq_true rfl⟩) [1, 3, 4, 5, 6, 7] [0, 2] rfl rfl rfl rfl (by decide) rfl rfl rfl rfl hl.1 rfl (Nat.le_of_ble_eq_true rfl) dX9_value_43 ⟨Nat.zero_le _, Nat.zero_le _⟩ (fun H locs hw => ?_)
      refine lv_aload_n hx hb dX9_value_46 rfl (lv_at hl 0 rfl) ?_
      refine z_get S hw F47 0 rfl rfl dX9_value_47 ?_
      refine z_get S hw F164 3 rfl rfl dX9_value_50 ?_
      refine lv_bipush (v := (10 : Int32)) hx hb dX9_value_53 (by decide) ?_
      refine lv_iload_n hx hb dX9_value_55 rfl (lv_at hl 1 rfl) ?_
      refine lv_iadd hx hb dX9_value_56 ?_
      obtain ⟨hg, h⟩ := grd_el h
      refine z_iald S hw 6 0 rfl rfl hg dX9_value_57 ?_
      cases h
      exact z_iret S hQ hr hw [0, 2, 1, 3, 4, 5, 6, 7] rfl rfl dX9_value_58
    · replace h := if_t hc h
      refine lv_bipush (v := (-2 : Int32)) hx hb dX9_value_24 (by decide) ?_
      cases h
      exact z_iret S hQ hr hw [0, 1, 2, 3, 4, 5, 6, 7] rfl rfl dX9_value_26
  · replace h := if_t hc h
    refine lv_iconst (v := (-1 : Int32)) hx hb dX9_value_11 (by decide) ?_
    cases h
    exact z_iret S hQ hr hw [0, 1, 2, 3, 4, 5, 6, 7] rfl rfl dX9_value_12
abbrev rmX9_tests : Room := { frames := 3, cells := 0, slots := 0, locals := 71 }
theorem dv_X9_tests : yX9_tests.cls = RX9 ∧ yX9_tests.cls ≠ "java/lang/invoke/MethodHandle" ∧ yX9_tests.cls ≠ "java/lang/invoke/VarHandle" ∧ (parseMethodDescriptor yX9_tests.desc).map (fun d => d.parameters.length) = some 2 := by decide +kernel
noncomputable def f_X9_tests (N : Nat) (y1 : Int32) (y2 : Int32) (i_net_inputs : Int32) (i_net_gates : Int32) (i_net_paths : Int32) (i_levels_links : Int32) (i_levels_sureLinks : Int32) (k_now_kinds : (Nat → Int32)) (k_net_lefts : (Nat → Int32)) (k_levels_of : (Nat → Int32)) (k_net_rights : (Nat → Int32)) (k_net_starts : (Nat → Int32)) (k_net_links : (Nat → Int32)) : Option (Int32 × Int32 × Int32 × (Nat → Int32)) :=
  obd1 (f_X2_hasPath N y1 i_net_paths) fun (r_1 : Int32) => (if r_1 = (0 : Int32) then (some ((-1 : Int32), i_levels_links, i_levels_sureLinks, k_levels_of)) else (obd1 (f_X2_hasPair N y2 i_net_inputs) fun (r_2 : Int32) => (if r_2 = (0 : Int32) then (some ((-2 : Int32), i_levels_links, i_levels_sureLinks, k_levels_of)) else (obd3 (f_X1_settle N y2 i_net_inputs i_net_gates i_levels_links i_levels_sureLinks k_now_kinds k_net_lefts k_levels_of k_net_rights) fun (i_levels_links_3 : Int32) (i_levels_sureLinks_4 : Int32) (k_levels_of_5 : (Nat → Int32)) => obd1 (f_X1_howFar N y1 i_levels_links_3 i_levels_sureLinks_4 k_net_starts k_levels_of_5 k_net_links) fun (r_6 : Int32) => some (r_6, i_levels_links_3, i_levels_sureLinks_4, k_levels_of_5)))))
set_option maxHeartbeats 4000000 in
set_option maxRecDepth 100000 in
theorem c_X9_tests (l : Launch) (D : va_G) (cI cJ cZ cS : ClassId) (sz N : Nat) (a_this a_net a_now a_levels a_now_kinds a_net_lefts a_levels_of a_net_rights a_net_starts a_net_links a_script a_acts a_sightings a_trial a_slots a_table a_waves a_spans a_draft a_net_told a_net_nexts a_net_sizes a_net_steps a_now_delays : Nat) (i_this_lastDraw : Int64) (i_net_inputs : Int32) (i_net_gates : Int32) (i_net_paths : Int32) (i_now_held : Int32) (i_levels_links : Int32) (i_levels_sureLinks : Int32) (k_now_kinds : (Nat → Int32)) (k_net_lefts : (Nat → Int32)) (k_levels_of : (Nat → Int32)) (k_net_rights : (Nat → Int32)) (k_net_starts : (Nat → Int32)) (k_net_links : (Nat → Int32)) (y1 : Int32) (y2 : Int32) (rr : Int32) (o_levels_links : Int32) (o_levels_sureLinks : Int32) (o_levels_of : (Nat → Int32)) (hf : f_X9_tests N y1 y2 i_net_inputs i_net_gates i_net_paths i_levels_links i_levels_sureLinks k_now_kinds k_net_lefts k_levels_of k_net_rights k_net_starts k_net_links = some (rr, o_levels_links, o_levels_sureLinks, o_levels_of)) : MetI l yX9_tests wsX9_tests rmX9_tests D (tyA cI cJ cZ cS) [(a_this, .inr (9, [.ref a_script, .ref a_acts, .ref a_sightings, .ref a_now, .ref a_trial, .ref a_slots, .ref a_levels, .ref a_table, .ref a_waves, .ref a_spans, .ref a_net, .ref a_draft, .long i_this_lastDraw])), (a_net, .inr (2, [.int i_net_inputs, .int i_net_gates, .int i_net_paths, .ref a_net_told, .ref a_net_lefts, .ref a_net_rights, .ref a_net_nexts, .ref a_net_starts, .ref a_net_sizes, .ref a_net_steps, .ref a_net_links])), (a_now, .inr (5, [.ref a_now_kinds, .ref a_now_delays, .int i_now_held])), (a_levels, .inr (1, [.ref a_levels_of, .int i_levels_links, .int i_levels_sureLinks])), (a_now_kinds, .inl (cI, 8, .inl k_now_kinds)), (a_net_lefts, .inl (cI, 8, .inl k_net_lefts)), (a_levels_of, .inl (cI, 18, .inl k_levels_of)), (a_net_rights, .inl (cI, 8, .inl k_net_rights)), (a_net_starts, .inl (cI, 55, .inl k_net_starts)), (a_net_links, .inl (cI, 55, .inl k_net_links))] sz [.ref a_this, .int y1, .int y2] rr [(a_this, .inr (9, [.ref a_script, .ref a_acts, .ref a_sightings, .ref a_now, .ref a_trial, .ref a_slots, .ref a_levels, .ref a_table, .ref a_waves, .ref a_spans, .ref a_net, .ref a_draft, .long i_this_lastDraw])), (a_net, .inr (2, [.int i_net_inputs, .int i_net_gates, .int i_net_paths, .ref a_net_told, .ref a_net_lefts, .ref a_net_rights, .ref a_net_nexts, .ref a_net_starts, .ref a_net_sizes, .ref a_net_steps, .ref a_net_links])), (a_now, .inr (5, [.ref a_now_kinds, .ref a_now_delays, .int i_now_held])), (a_levels, .inr (1, [.ref a_levels_of, .int o_levels_links, .int o_levels_sureLinks])), (a_now_kinds, .inl (cI, 8, .inl k_now_kinds)), (a_net_lefts, .inl (cI, 8, .inl k_net_lefts)), (a_levels_of, .inl (cI, 18, .inl o_levels_of)), (a_net_rights, .inl (cI, 8, .inl k_net_rights)), (a_net_starts, .inl (cI, 55, .inl k_net_starts)), (a_net_links, .inl (cI, 55, .inl k_net_links))] := by
  refine entI (cc := cX9_tests) (maxL := 3) (own := RX9) (by decide) rfl rfl (Nat.le_of_ble_eq_true rfl) ?_
  intro p e s m args below meth c A ls Q H locs S hr hw hl hQ
  have hx := S.1.1
  have hb := S.1.2.1
  have hts := S.1.2.2.2.2
  have hl : lv_has ls 3 [(0, .ref a_this), (1, .int y1), (2, .int y2)] := hl
  have hinX9 : ∀ w ∈ u_ws RX9 TX9 13, w ∈ wsX9_tests := (fun _ h => List.mem_cons_of_mem _ (List.mem_append_left _ (List.mem_append_left _ (List.mem_append_left _ (List.mem_append_right _ h)))))
  have F33 : FLk s args wsX9_tests RX9 33 RX9 TX9 13 9 3 := ⟨hinX9, rfl, by decide, hts (.fieldLink RX9 33 "SlowPaths" "now" "LSlowPaths$Setting;") (List.mem_of_getElem? (i := 3) rfl)⟩
  have F47 : FLk s args wsX9_tests RX9 47 RX9 TX9 13 9 6 := ⟨hinX9, rfl, by decide, hts (.fieldLink RX9 47 "SlowPaths" "levels" "LSlowPaths$Levels;") (List.mem_of_getElem? (i := 2) rfl)⟩
  have F75 : FLk s args wsX9_tests RX9 75 RX9 TX9 13 9 10 := ⟨hinX9, rfl, by decide, hts (.fieldLink RX9 75 "SlowPaths" "net" "LSlowPaths$Net;") (List.mem_of_getElem? (i := 1) rfl)⟩
  have hinX5 : ∀ w ∈ u_ws RX5 TX5 3, w ∈ wsX9_tests := (fun _ h => List.mem_cons_of_mem _ (List.mem_append_left _ (List.mem_append_left _ (List.mem_append_right _ h))))
  have F120 : FLk s args wsX9_tests RX9 120 RX5 TX5 3 5 0 := ⟨hinX5, rfl, by decide, hts (.fieldLink RX9 120 "SlowPaths$Setting" "kinds" "[I") (List.mem_of_getElem? (i := 4) rfl)⟩
  have h := hf
  rw [f_X9_tests] at h
  refine lv_aload_n hx hb dX9_tests_0 rfl (lv_at hl 0 rfl) ?_
  refine z_get S hw F75 0 rfl rfl dX9_tests_1 ?_
  refine lv_iload_n hx hb dX9_tests_4 rfl (lv_at hl 1 rfl) ?_
  obtain ⟨r_1, e5_1, h⟩ := obd1_el h
  refine zr_VI (As := [.int y1]) (rest := []) (q0 := 0) S hw (c_X2_hasPath l D cI cJ cZ cS H.size N a_net a_net_told a_net_lefts a_net_rights a_net_nexts a_net_starts a_net_sizes a_net_steps a_net_links i_net_inputs i_net_gates i_net_paths y1 r_1 e5_1) (cwV 1 hts gX9_tests_X2_hasPath rfl rfl rfl dv_X2_hasPath ⟨Nat.le_of_ble_eq_true rfl, Nat.le_of_ble_eq_true rfl⟩) [1] rfl rfl rfl rfl rfl rfl hl.1 rfl (Nat.le_of_ble_eq_true rfl) dX9_tests_5 ⟨Nat.zero_le _, Nat.zero_le _⟩ ?_
  refine lv_if_ne (tgt := 13) hx hb dX9_tests_8 (by decide) (fun hc => ?_) (fun hc => ?_)
  · replace h := if_f hc h
    refine lv_aload_n hx hb dX9_tests_13 rfl (lv_at hl 0 rfl) ?_
    refine z_get S hw F75 0 rfl rfl dX9_tests_14 ?_
    refine lv_iload_n hx hb dX9_tests_17 rfl (lv_at hl 2 rfl) ?_
    obtain ⟨r_2, e18_1, h⟩ := obd1_el h
    refine zr_VI (As := [.int y2]) (rest := []) (q0 := 0) S hw (c_X2_hasPair l D cI cJ cZ cS H.size N a_net a_net_told a_net_lefts a_net_rights a_net_nexts a_net_starts a_net_sizes a_net_steps a_net_links i_net_inputs i_net_gates i_net_paths y2 r_2 e18_1) (cwV 1 hts gX9_tests_X2_hasPair rfl rfl rfl dv_X2_hasPair ⟨Nat.le_of_ble_eq_true rfl, Nat.le_of_ble_eq_true rfl⟩) [1] rfl rfl rfl rfl rfl rfl hl.1 rfl (Nat.le_of_ble_eq_true rfl) dX9_tests_18 ⟨Nat.zero_le _, Nat.zero_le _⟩ ?_
    refine lv_if_ne (tgt := 27) hx hb dX9_tests_21 (by decide) (fun hc => ?_) (fun hc => ?_)
    · replace h := if_f hc h
      refine lv_aload_n hx hb dX9_tests_27 rfl (lv_at hl 0 rfl) ?_
      refine z_get S hw F47 0 rfl rfl dX9_tests_28 ?_
      refine lv_aload_n hx hb dX9_tests_31 rfl (lv_at hl 0 rfl) ?_
      refine z_get S hw F75 0 rfl rfl dX9_tests_32 ?_
      refine lv_aload_n hx hb dX9_tests_35 rfl (lv_at hl 0 rfl) ?_
      refine z_get S hw F33 0 rfl rfl dX9_tests_36 ?_
      refine z_get S hw F120 2 rfl rfl dX9_tests_39 ?_
      refine lv_iload_n hx hb dX9_tests_42 rfl (lv_at hl 2 rfl) ?_
      obtain ⟨i_levels_links_3, i_levels_sureLinks_4, k_levels_of_5, e43_1, h⟩ := obd3_el h
      refine zc_VV (As := [.ref a_net, .ref a_now_kinds, .int y2]) (rest := []) (wr := [(a_this, .inr (9, [.ref a_script, .ref a_acts, .ref a_sightings, .ref a_now, .ref a_trial, .ref a_slots, .ref a_levels, .ref a_table, .ref a_waves, .ref a_spans, .ref a_net, .ref a_draft, .long i_this_lastDraw])), (a_now, .inr (5, [.ref a_now_kinds, .ref a_now_delays, .int i_now_held])), (a_net_starts, .inl (cI, 55, .inl k_net_starts)), (a_net_links, .inl (cI, 55, .inl k_net_links))]) (q0 := 1) S hw (c_X1_settle l D cI cJ cZ cS H.size N a_net a_levels a_now_kinds a_net_lefts a_levels_of a_net_rights a_net_told a_net_nexts a_net_starts a_net_sizes a_net_steps a_net_links i_net_inputs i_net_gates i_net_paths i_levels_links i_levels_sureLinks k_now_kinds k_net_lefts k_levels_of k_net_rights y2 i_levels_links_3 i_levels_sureLinks_4 k_levels_of_5 e43_1) (cwV 3 hts gX9_tests_X1_settle rfl rfl rfl dv_X1_settle ⟨Nat.le_of_ble_eq_true rfl, Nat.le_of_ble_eq_true rfl⟩) [1, 3, 4, 5, 6, 7] [0, 2, 8, 9] rfl rfl rfl rfl (by decide) rfl rfl rfl rfl hl.1 rfl (Nat.le_of_ble_eq_true rfl) dX9_tests_43 ⟨Nat.zero_le _, Nat.zero_le _⟩ (fun H locs hw => ?_)
      refine lv_aload_n hx hb dX9_tests_46 rfl (lv_at hl 0 rfl) ?_
      refine z_get S hw F47 0 rfl rfl dX9_tests_47 ?_
      refine lv_aload_n hx hb dX9_tests_50 rfl (lv_at hl 0 rfl) ?_
      refine z_get S hw F75 0 rfl rfl dX9_tests_51 ?_
      refine lv_iload_n hx hb dX9_tests_54 rfl (lv_at hl 1 rfl) ?_
      obtain ⟨r_6, e55_1, h⟩ := obd1_el h
      refine zr_VI (As := [.ref a_net, .int y1]) (rest := []) (q0 := 0) S hw (c_X1_howFar l D cI cJ cZ cS H.size N a_levels a_net a_net_starts a_levels_of a_net_links a_net_told a_net_lefts a_net_rights a_net_nexts a_net_sizes a_net_steps i_levels_links_3 i_levels_sureLinks_4 i_net_inputs i_net_gates i_net_paths k_net_starts k_levels_of_5 k_net_links y1 r_6 e55_1) (cwV 2 hts gX9_tests_X1_howFar rfl rfl rfl dv_X1_howFar ⟨Nat.le_of_ble_eq_true rfl, Nat.le_of_ble_eq_true rfl⟩) [5, 4, 2, 8, 3] rfl rfl rfl rfl rfl rfl hl.1 rfl (Nat.le_of_ble_eq_true rfl) dX9_tests_55 ⟨Nat.zero_le _, Nat.zero_le _⟩ ?_
      cases h
      exact z_iret S hQ hr hw [0, 4, 1, 5, 6, 7, 8, 9, 2, 3] rfl rfl dX9_tests_58
    · replace h := if_t hc h
      refine lv_bipush (v := (-2 : Int32)) hx hb dX9_tests_24 (by decide) ?_
      cases h
      exact z_iret S hQ hr hw [0, 1, 2, 3, 4, 5, 6, 7, 8, 9] rfl rfl dX9_tests_26
  · replace h := if_t hc h
    refine lv_iconst (v := (-1 : Int32)) hx hb dX9_tests_11 (by decide) ?_
    cases h
    exact z_iret S hQ hr hw [0, 1, 2, 3, 4, 5, 6, 7, 8, 9] rfl rfl dX9_tests_12
