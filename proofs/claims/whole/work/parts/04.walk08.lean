abbrev rmX9_canBe : Room := { frames := 5, cells := 0, slots := 0, locals := 121 }
theorem dv_X9_canBe : yX9_canBe.cls = RX9 ∧ yX9_canBe.cls ≠ "java/lang/invoke/MethodHandle" ∧ yX9_canBe.cls ≠ "java/lang/invoke/VarHandle" ∧ (parseMethodDescriptor yX9_canBe.desc).map (fun d => d.parameters.length) = some 1 := by decide +kernel
noncomputable def f_X9_canBe (N : Nat) (y1 : Int32) (i_net_inputs : Int32) (i_net_gates : Int32) (i_net_paths : Int32) (i_table_madeFor : Int32) (k_trial_delays : (Nat → Int32)) (k_trial_kinds : (Nat → Int32)) (k_net_sizes : (Nat → Int32)) (k_net_steps : (Nat → Int32)) (i_table_levels_links : Int32) (i_table_levels_sureLinks : Int32) (k_table_sureLinks : (Nat → Int32)) (k_table_risers : (Nat → Int64)) (k_table_fallers : (Nat → Int64)) (k_net_lefts : (Nat → Int32)) (k_net_rights : (Nat → Int32)) (k_net_nexts : (Nat → Int32)) (k_table_captured : (Nat → Int32)) (k_net_links : (Nat → Int32)) (k_net_starts : (Nat → Int32)) (k_table_levels_of : (Nat → Int32)) : Option (Int32 × Int32 × (Nat → Int32) × (Nat → Int32) × Int32 × Int32 × (Nat → Int32) × (Nat → Int64) × (Nat → Int64) × (Nat → Int32) × (Nat → Int32)) :=
  bnd (((y1 / (10 : Int32)) - (y1 / (10 : Int32)) / (100 : Int32) * (100 : Int32))) fun (x2_1 : Int32) => bnd ((y1 - y1 / (10 : Int32) * (10 : Int32))) fun (x3_2 : Int32) => (if (y1 / (1000 : Int32)) = (1 : Int32) then (bnd (fun (k_trial_delays_3 : (Nat → Int32)) => (some ((0 : Int32), i_table_madeFor, k_trial_delays_3, k_trial_kinds, i_table_levels_links, i_table_levels_sureLinks, k_table_sureLinks, k_table_risers, k_table_fallers, k_table_captured, k_table_levels_of))) fun (j79_1 : (Nat → Int32) → Option (Int32 × Int32 × (Nat → Int32) × (Nat → Int32) × Int32 × Int32 × (Nat → Int32) × (Nat → Int64) × (Nat → Int64) × (Nat → Int32) × (Nat → Int32))) => (if (x2_1 - x2_1 / (10 : Int32) * (10 : Int32)) = (0 : Int32) then (obd2 (f_X9_triesDelay N (x2_1 / (10 : Int32)) x3_2 i_net_gates k_trial_delays) fun (r_4 : Int32) (k_trial_delays_5 : (Nat → Int32)) => (if r_4 = (0 : Int32) then (j79_1 k_trial_delays_5) else (some ((1 : Int32), i_table_madeFor, k_trial_delays_5, k_trial_kinds, i_table_levels_links, i_table_levels_sureLinks, k_table_sureLinks, k_table_risers, k_table_fallers, k_table_captured, k_table_levels_of)))) else (j79_1 k_trial_delays))) else (if (y1 / (1000 : Int32)) = (2 : Int32) then (bnd (fun (k_trial_kinds_6 : (Nat → Int32)) => (some ((0 : Int32), i_table_madeFor, k_trial_delays, k_trial_kinds_6, i_table_levels_links, i_table_levels_sureLinks, k_table_sureLinks, k_table_risers, k_table_fallers, k_table_captured, k_table_levels_of))) fun (j104_1 : (Nat → Int32) → Option (Int32 × Int32 × (Nat → Int32) × (Nat → Int32) × Int32 × Int32 × (Nat → Int32) × (Nat → Int64) × (Nat → Int64) × (Nat → Int32) × (Nat → Int32))) => (if (x2_1 - x2_1 / (10 : Int32) * (10 : Int32)) = (0 : Int32) then (obd2 (f_X9_triesKind N (x2_1 / (10 : Int32)) x3_2 i_net_gates k_trial_kinds) fun (r_7 : Int32) (k_trial_kinds_8 : (Nat → Int32)) => (if r_7 = (0 : Int32) then (j104_1 k_trial_kinds_8) else (some ((1 : Int32), i_table_madeFor, k_trial_delays, k_trial_kinds_8, i_table_levels_links, i_table_levels_sureLinks, k_table_sureLinks, k_table_risers, k_table_fallers, k_table_captured, k_table_levels_of)))) else (j104_1 k_trial_kinds))) else (if (y1 / (1000 : Int32)) = (3 : Int32) then (obd1 (f_X2_hasPath N x2_1 i_net_paths) fun (r_9 : Int32) => bnd (α := Option (Int32 × Int32 × (Nat → Int32) × (Nat → Int32) × Int32 × Int32 × (Nat → Int32) × (Nat → Int64) × (Nat → Int64) × (Nat → Int32) × (Nat → Int32))) (some ((0 : Int32), i_table_madeFor, k_trial_delays, k_trial_kinds, i_table_levels_links, i_table_levels_sureLinks, k_table_sureLinks, k_table_risers, k_table_fallers, k_table_captured, k_table_levels_of)) fun (j140_1 : Option (Int32 × Int32 × (Nat → Int32) × (Nat → Int32) × Int32 × Int32 × (Nat → Int32) × (Nat → Int64) × (Nat → Int64) × (Nat → Int32) × (Nat → Int32))) => (if r_9 = (0 : Int32) then (j140_1) else (obd1 (f_X2_lengthOf N x2_1 k_trial_delays k_net_sizes k_net_steps) fun (r_10 : Int32) => (if r_10 < x3_2 then (j140_1) else (some ((1 : Int32), i_table_madeFor, k_trial_delays, k_trial_kinds, i_table_levels_links, i_table_levels_sureLinks, k_table_sureLinks, k_table_risers, k_table_fallers, k_table_captured, k_table_levels_of)))))) else (if (y1 / (1000 : Int32)) = (4 : Int32) then (obd1 (f_X9_pathsAsLong N x2_1 i_net_paths k_trial_delays k_net_sizes k_net_steps) fun (r_11 : Int32) => (if r_11 < x3_2 then (some ((0 : Int32), i_table_madeFor, k_trial_delays, k_trial_kinds, i_table_levels_links, i_table_levels_sureLinks, k_table_sureLinks, k_table_risers, k_table_fallers, k_table_captured, k_table_levels_of)) else (some ((1 : Int32), i_table_madeFor, k_trial_delays, k_trial_kinds, i_table_levels_links, i_table_levels_sureLinks, k_table_sureLinks, k_table_risers, k_table_fallers, k_table_captured, k_table_levels_of)))) else (if (y1 / (1000 : Int32)) = (5 : Int32) then (obd8 (f_X3_fitTo N i_net_inputs i_net_gates i_net_paths i_table_madeFor k_trial_kinds i_table_levels_links i_table_levels_sureLinks k_table_sureLinks k_table_risers k_table_fallers k_net_lefts k_net_rights k_net_nexts k_table_captured k_net_links k_net_starts k_table_levels_of) fun (i_table_madeFor_12 : Int32) (i_table_levels_links_13 : Int32) (i_table_levels_sureLinks_14 : Int32) (k_table_sureLinks_15 : (Nat → Int32)) (k_table_risers_16 : (Nat → Int64)) (k_table_fallers_17 : (Nat → Int64)) (k_table_captured_18 : (Nat → Int32)) (k_table_levels_of_19 : (Nat → Int32)) => obd1 (f_X2_hasPath N x2_1 i_net_paths) fun (r_20 : Int32) => bnd (α := Option (Int32 × Int32 × (Nat → Int32) × (Nat → Int32) × Int32 × Int32 × (Nat → Int32) × (Nat → Int64) × (Nat → Int64) × (Nat → Int32) × (Nat → Int32))) (some ((0 : Int32), i_table_madeFor_12, k_trial_delays, k_trial_kinds, i_table_levels_links_13, i_table_levels_sureLinks_14, k_table_sureLinks_15, k_table_risers_16, k_table_fallers_17, k_table_captured_18, k_table_levels_of_19)) fun (j207_1 : Option (Int32 × Int32 × (Nat → Int32) × (Nat → Int32) × Int32 × Int32 × (Nat → Int32) × (Nat → Int64) × (Nat → Int64) × (Nat → Int32) × (Nat → Int32))) => (if r_20 = (0 : Int32) then (j207_1) else ((if (1 : Int32) < x3_2 then (j207_1) else (obd1 (f_X3_canProve N x2_1 x3_2 k_table_fallers_17 k_table_risers_16) fun (r_21 : Int32) => (if r_21 = (0 : Int32) then (j207_1) else (some ((1 : Int32), i_table_madeFor_12, k_trial_delays, k_trial_kinds, i_table_levels_links_13, i_table_levels_sureLinks_14, k_table_sureLinks_15, k_table_risers_16, k_table_fallers_17, k_table_captured_18, k_table_levels_of_19)))))))) else (if (y1 / (1000 : Int32)) = (6 : Int32) then (obd8 (f_X3_fitTo N i_net_inputs i_net_gates i_net_paths i_table_madeFor k_trial_kinds i_table_levels_links i_table_levels_sureLinks k_table_sureLinks k_table_risers k_table_fallers k_net_lefts k_net_rights k_net_nexts k_table_captured k_net_links k_net_starts k_table_levels_of) fun (i_table_madeFor_22 : Int32) (i_table_levels_links_23 : Int32) (i_table_levels_sureLinks_24 : Int32) (k_table_sureLinks_25 : (Nat → Int32)) (k_table_risers_26 : (Nat → Int64)) (k_table_fallers_27 : (Nat → Int64)) (k_table_captured_28 : (Nat → Int32)) (k_table_levels_of_29 : (Nat → Int32)) => bnd (α := Option (Int32 × Int32 × (Nat → Int32) × (Nat → Int32) × Int32 × Int32 × (Nat → Int32) × (Nat → Int64) × (Nat → Int64) × (Nat → Int32) × (Nat → Int32))) (some ((0 : Int32), i_table_madeFor_22, k_trial_delays, k_trial_kinds, i_table_levels_links_23, i_table_levels_sureLinks_24, k_table_sureLinks_25, k_table_risers_26, k_table_fallers_27, k_table_captured_28, k_table_levels_of_29)) fun (j256_1 : Option (Int32 × Int32 × (Nat → Int32) × (Nat → Int32) × Int32 × Int32 × (Nat → Int32) × (Nat → Int64) × (Nat → Int64) × (Nat → Int32) × (Nat → Int32))) => (if (x2_1 / (10 : Int32)) = (0 : Int32) then (obd1 (f_X3_deadBeginnings N i_net_paths k_net_sizes k_net_starts k_net_steps k_net_links k_table_sureLinks_25) fun (r_30 : Int32) => (if r_30 < (y1 - y1 / (100 : Int32) * (100 : Int32)) then (j256_1) else (some ((1 : Int32), i_table_madeFor_22, k_trial_delays, k_trial_kinds, i_table_levels_links_23, i_table_levels_sureLinks_24, k_table_sureLinks_25, k_table_risers_26, k_table_fallers_27, k_table_captured_28, k_table_levels_of_29)))) else (j256_1))) else some ((0 : Int32), i_table_madeFor, k_trial_delays, k_trial_kinds, i_table_levels_links, i_table_levels_sureLinks, k_table_sureLinks, k_table_risers, k_table_fallers, k_table_captured, k_table_levels_of)))))))
set_option maxHeartbeats 4000000 in
set_option maxRecDepth 100000 in
theorem c_X9_canBe (l : Launch) (D : va_G) (cI cJ cZ cS : ClassId) (sz N : Nat) (a_this a_trial a_net a_table a_trial_delays a_trial_kinds a_net_sizes a_net_steps a_table_levels a_table_sureLinks a_table_risers a_table_fallers a_net_lefts a_net_rights a_net_nexts a_table_captured a_net_links a_net_starts a_table_levels_of a_script a_acts a_sightings a_now a_slots a_levels a_waves a_spans a_draft a_net_told : Nat) (i_this_lastDraw : Int64) (i_trial_held : Int32) (i_net_inputs : Int32) (i_net_gates : Int32) (i_net_paths : Int32) (i_table_madeFor : Int32) (k_trial_delays : (Nat → Int32)) (k_trial_kinds : (Nat → Int32)) (k_net_sizes : (Nat → Int32)) (k_net_steps : (Nat → Int32)) (i_table_levels_links : Int32) (i_table_levels_sureLinks : Int32) (k_table_sureLinks : (Nat → Int32)) (k_table_risers : (Nat → Int64)) (k_table_fallers : (Nat → Int64)) (k_net_lefts : (Nat → Int32)) (k_net_rights : (Nat → Int32)) (k_net_nexts : (Nat → Int32)) (k_table_captured : (Nat → Int32)) (k_net_links : (Nat → Int32)) (k_net_starts : (Nat → Int32)) (k_table_levels_of : (Nat → Int32)) (y1 : Int32) (rr : Int32) (o_table_madeFor : Int32) (o_trial_delays : (Nat → Int32)) (o_trial_kinds : (Nat → Int32)) (o_table_levels_links : Int32) (o_table_levels_sureLinks : Int32) (o_table_sureLinks : (Nat → Int32)) (o_table_risers : (Nat → Int64)) (o_table_fallers : (Nat → Int64)) (o_table_captured : (Nat → Int32)) (o_table_levels_of : (Nat → Int32)) (hf : f_X9_canBe N y1 i_net_inputs i_net_gates i_net_paths i_table_madeFor k_trial_delays k_trial_kinds k_net_sizes k_net_steps i_table_levels_links i_table_levels_sureLinks k_table_sureLinks k_table_risers k_table_fallers k_net_lefts k_net_rights k_net_nexts k_table_captured k_net_links k_net_starts k_table_levels_of = some (rr, o_table_madeFor, o_trial_delays, o_trial_kinds, o_table_levels_links, o_table_levels_sureLinks, o_table_sureLinks, o_table_risers, o_table_fallers, o_table_captured, o_table_levels_of)) : MetI l yX9_canBe wsX9_canBe rmX9_canBe D (tyA cI cJ cZ cS) [(a_this, .inr (9, [.ref a_script, .ref a_acts, .ref a_sightings, .ref a_now, .ref a_trial, .ref a_slots, .ref a_levels, .ref a_table, .ref a_waves, .ref a_spans, .ref a_net, .ref a_draft, .long i_this_lastDraw])), (a_trial, .inr (5, [.ref a_trial_kinds, .ref a_trial_delays, .int i_trial_held])), (a_net, .inr (2, [.int i_net_inputs, .int i_net_gates, .int i_net_paths, .ref a_net_told, .ref a_net_lefts, .ref a_net_rights, .ref a_net_nexts, .ref a_net_starts, .ref a_net_sizes, .ref a_net_steps, .ref a_net_links])), (a_table, .inr (3, [.ref a_table_levels, .ref a_table_sureLinks, .ref a_table_risers, .ref a_table_fallers, .ref a_table_captured, .int i_table_madeFor])), (a_trial_delays, .inl (cI, 8, .inl k_trial_delays)), (a_trial_kinds, .inl (cI, 8, .inl k_trial_kinds)), (a_net_sizes, .inl (cI, 55, .inl k_net_sizes)), (a_net_steps, .inl (cI, 440, .inl k_net_steps)), (a_table_levels, .inr (1, [.ref a_table_levels_of, .int i_table_levels_links, .int i_table_levels_sureLinks])), (a_table_sureLinks, .inl (cI, 256, .inl k_table_sureLinks)), (a_table_risers, .inl (cJ, 256, .inr (.inl k_table_risers))), (a_table_fallers, .inl (cJ, 256, .inr (.inl k_table_fallers))), (a_net_lefts, .inl (cI, 8, .inl k_net_lefts)), (a_net_rights, .inl (cI, 8, .inl k_net_rights)), (a_net_nexts, .inl (cI, 4, .inl k_net_nexts)), (a_table_captured, .inl (cI, 16, .inl k_table_captured)), (a_net_links, .inl (cI, 55, .inl k_net_links)), (a_net_starts, .inl (cI, 55, .inl k_net_starts)), (a_table_levels_of, .inl (cI, 18, .inl k_table_levels_of))] sz [.ref a_this, .int y1] rr [(a_this, .inr (9, [.ref a_script, .ref a_acts, .ref a_sightings, .ref a_now, .ref a_trial, .ref a_slots, .ref a_levels, .ref a_table, .ref a_waves, .ref a_spans, .ref a_net, .ref a_draft, .long i_this_lastDraw])), (a_trial, .inr (5, [.ref a_trial_kinds, .ref a_trial_delays, .int i_trial_held])), (a_net, .inr (2, [.int i_net_inputs, .int i_net_gates, .int i_net_paths, .ref a_net_told, .ref a_net_lefts, .ref a_net_rights, .ref a_net_nexts, .ref a_net_starts, .ref a_net_sizes, .ref a_net_steps, .ref a_net_links])), (a_table, .inr (3, [.ref a_table_levels, .ref a_table_sureLinks, .ref a_table_risers, .ref a_table_fallers, .ref a_table_captured, .int o_table_madeFor])), (a_trial_delays, .inl (cI, 8, .inl o_trial_delays)), (a_trial_kinds, .inl (cI, 8, .inl o_trial_kinds)), (a_net_sizes, .inl (cI, 55, .inl k_net_sizes)), (a_net_steps, .inl (cI, 440, .inl k_net_steps)), (a_table_levels, .inr (1, [.ref a_table_levels_of, .int o_table_levels_links, .int o_table_levels_sureLinks])), (a_table_sureLinks, .inl (cI, 256, .inl o_table_sureLinks)), (a_table_risers, .inl (cJ, 256, .inr (.inl o_table_risers))), (a_table_fallers, .inl (cJ, 256, .inr (.inl o_table_fallers))), (a_net_lefts, .inl (cI, 8, .inl k_net_lefts)), (a_net_rights, .inl (cI, 8, .inl k_net_rights)), (a_net_nexts, .inl (cI, 4, .inl k_net_nexts)), (a_table_captured, .inl (cI, 16, .inl o_table_captured)), (a_net_links, .inl (cI, 55, .inl k_net_links)), (a_net_starts, .inl (cI, 55, .inl k_net_starts)), (a_table_levels_of, .inl (cI, 18, .inl o_table_levels_of))] := by
  refine entZ (cc := cX9_canBe) (maxL := 4) (own := RX9) (by decide) rfl rfl (Nat.le_of_ble_eq_true rfl) ?_
  intro p e s m args below meth c A ls Q H locs S hr hw hl hQ
  have hx := S.1.1
  have hb := S.1.2.1
  have hts := S.1.2.2.2.2
  have hl : lv_has ls 4 [(0, .ref a_this), (1, .int y1)] := hl
  have hinX9 : ∀ w ∈ u_ws RX9 TX9 13, w ∈ wsX9_canBe := (fun _ h => List.mem_cons_of_mem _ (List.mem_append_left _ (List.mem_append_left _ (List.mem_append_left _ (List.mem_append_left _ (List.mem_append_right _ h))))))
  have F37 : FLk s args wsX9_canBe RX9 37 RX9 TX9 13 9 4 := ⟨hinX9, rfl, by decide, hts (.fieldLink RX9 37 "SlowPaths" "trial" "LSlowPaths$Setting;") (List.mem_of_getElem? (i := 2) rfl)⟩
  have F54 : FLk s args wsX9_canBe RX9 54 RX9 TX9 13 9 7 := ⟨hinX9, rfl, by decide, hts (.fieldLink RX9 54 "SlowPaths" "table" "LSlowPaths$PairTable;") (List.mem_of_getElem? (i := 4) rfl)⟩
  have F75 : FLk s args wsX9_canBe RX9 75 RX9 TX9 13 9 10 := ⟨hinX9, rfl, by decide, hts (.fieldLink RX9 75 "SlowPaths" "net" "LSlowPaths$Net;") (List.mem_of_getElem? (i := 1) rfl)⟩
  have hinX5 : ∀ w ∈ u_ws RX5 TX5 3, w ∈ wsX9_canBe := (fun _ h => List.mem_cons_of_mem _ (List.mem_append_left _ (List.mem_append_left _ (List.mem_append_left _ (List.mem_append_right _ h)))))
  have F120 : FLk s args wsX9_canBe RX9 120 RX5 TX5 3 5 0 := ⟨hinX5, rfl, by decide, hts (.fieldLink RX9 120 "SlowPaths$Setting" "kinds" "[I") (List.mem_of_getElem? (i := 5) rfl)⟩
  have F129 : FLk s args wsX9_canBe RX9 129 RX5 TX5 3 5 1 := ⟨hinX5, rfl, by decide, hts (.fieldLink RX9 129 "SlowPaths$Setting" "delays" "[I") (List.mem_of_getElem? (i := 3) rfl)⟩
  have h := hf
  rw [f_X9_canBe] at h
  refine lv_iload_n hx hb dX9_canBe_0 rfl (lv_at hl 1 rfl) ?_
  refine lv_bipush (v := (10 : Int32)) hx hb dX9_canBe_1 (by decide) ?_
  refine lv_idiv hx hb dX9_canBe_3 (by decide) ?_
  refine lv_bipush (v := (100 : Int32)) hx hb dX9_canBe_4 (by decide) ?_
  refine lv_irem hx hb dX9_canBe_6 (by decide) ?_
  refine lv_topi (fun x2_1 ex2_1 => ?_)
  replace h := bnd_at ex2_1 h
  refine lv_istore_n (lv' := [(2, .int x2_1), (0, .ref a_this), (1, .int y1)]) hx hb dX9_canBe_7 rfl hl (by decide) rfl (fun ls hl => ?_)
  refine lv_iload_n hx hb dX9_canBe_8 rfl (lv_at hl 2 rfl) ?_
  refine lv_bipush (v := (10 : Int32)) hx hb dX9_canBe_9 (by decide) ?_
  refine lv_irem hx hb dX9_canBe_11 (by decide) ?_
  refine lv_topi (fun x3_2 ex3_2 => ?_)
  replace h := bnd_at ex3_2 h
  refine lv_istore_n (lv' := [(3, .int x3_2), (2, .int x2_1), (0, .ref a_this), (1, .int y1)]) hx hb dX9_canBe_12 rfl hl (by decide) rfl (fun ls hl => ?_)
  refine lv_iload_n hx hb dX9_canBe_13 rfl (lv_at hl 3 rfl) ?_
  refine lv_sipush (v := (1000 : Int32)) hx hb dX9_canBe_14 (by decide) ?_
  refine lv_idiv hx hb dX9_canBe_17 (by decide) ?_
  by_cases hs1 : (y1 / (1000 : Int32)) = (1 : Int32)
  · replace h := if_t hs1 h
    refine lv_tableIn (off := 38) (tgt := 56) hx hb dX9_canBe_18 (by rw [hs1]; decide) (by rw [hs1]; decide) (by rw [hs1]; rfl) (by decide) ?_
    refine lv_iload_n hx hb dX9_canBe_56 rfl (lv_at hl 1 rfl) ?_
    refine lv_bipush (v := (10 : Int32)) hx hb dX9_canBe_57 (by decide) ?_
    refine lv_irem hx hb dX9_canBe_59 (by decide) ?_
    obtain ⟨j79_1, ej79_1, h⟩ := bnd_ex h
    have hj79_1 : ∀ (k_trial_delays_3 : (Nat → Int32)) (H : Heap) (locs : List Loc) (ls : Array Slot), j79_1 k_trial_delays_3 = some (rr, o_table_madeFor, o_trial_delays, o_trial_kinds, o_table_levels_links, o_table_levels_sureLinks, o_table_sureLinks, o_table_risers, o_table_fallers, o_table_captured, o_table_levels_of) → Wd D (tyA cI cJ cZ cS) A s [(a_this, .inr (9, [.ref a_script, .ref a_acts, .ref a_sightings, .ref a_now, .ref a_trial, .ref a_slots, .ref a_levels, .ref a_table, .ref a_waves, .ref a_spans, .ref a_net, .ref a_draft, .long i_this_lastDraw])), (a_trial, .inr (5, [.ref a_trial_kinds, .ref a_trial_delays, .int i_trial_held])), (a_net, .inr (2, [.int i_net_inputs, .int i_net_gates, .int i_net_paths, .ref a_net_told, .ref a_net_lefts, .ref a_net_rights, .ref a_net_nexts, .ref a_net_starts, .ref a_net_sizes, .ref a_net_steps, .ref a_net_links])), (a_table, .inr (3, [.ref a_table_levels, .ref a_table_sureLinks, .ref a_table_risers, .ref a_table_fallers, .ref a_table_captured, .int i_table_madeFor])), (a_trial_delays, .inl (cI, 8, .inl k_trial_delays_3)), (a_trial_kinds, .inl (cI, 8, .inl k_trial_kinds)), (a_net_sizes, .inl (cI, 55, .inl k_net_sizes)), (a_net_steps, .inl (cI, 440, .inl k_net_steps)), (a_table_levels, .inr (1, [.ref a_table_levels_of, .int i_table_levels_links, .int i_table_levels_sureLinks])), (a_table_sureLinks, .inl (cI, 256, .inl k_table_sureLinks)), (a_table_risers, .inl (cJ, 256, .inr (.inl k_table_risers))), (a_table_fallers, .inl (cJ, 256, .inr (.inl k_table_fallers))), (a_net_lefts, .inl (cI, 8, .inl k_net_lefts)), (a_net_rights, .inl (cI, 8, .inl k_net_rights)), (a_net_nexts, .inl (cI, 4, .inl k_net_nexts)), (a_table_captured, .inl (cI, 16, .inl k_table_captured)), (a_net_links, .inl (cI, 55, .inl k_net_links)), (a_net_starts, .inl (cI, 55, .inl k_net_starts)), (a_table_levels_of, .inl (cI, 18, .inl k_table_levels_of))] H locs → lv_has ls 4 [] → W p l e rmX9_canBe s m args below meth c H locs 0 0 Q (F0 m 79 ls []) := by
      intro k_trial_delays_3 H locs ls h hw hl
      replace h := ap1 ej79_1 h
      refine lv_iconst (v := (0 : Int32)) hx hb dX9_canBe_79 (by decide) ?_
      cases h
      exact z_zret S hQ hr rfl hw [0, 1, 2, 3, 4, 5, 6, 7, 8, 9, 10, 11, 12, 13, 14, 15, 16, 17, 18] rfl rfl dX9_canBe_80
    refine lv_if_ne (tgt := 79) hx hb dX9_canBe_60 (by decide) (fun hc => ?_) (fun hc => ?_)
    · replace h := if_f hc h
      exact hj79_1 k_trial_delays H locs ls h hw (lv_sub hl [] rfl)
    · replace h := if_t hc h
      refine lv_aload_n hx hb dX9_canBe_63 rfl (lv_at hl 2 rfl) ?_
      refine lv_iload_n hx hb dX9_canBe_64 rfl (lv_at hl 1 rfl) ?_
      refine lv_bipush (v := (10 : Int32)) hx hb dX9_canBe_65 (by decide) ?_
      refine lv_idiv hx hb dX9_canBe_67 (by decide) ?_
      refine lv_iload_n hx hb dX9_canBe_68 rfl (lv_at hl 0 rfl) ?_
      obtain ⟨r_4, k_trial_delays_5, e69_1, h⟩ := obd2_el h
      refine zc_VI (As := [.int (x2_1 / (10 : Int32)), .int x3_2]) (rest := []) (wr := [(a_table, .inr (3, [.ref a_table_levels, .ref a_table_sureLinks, .ref a_table_risers, .ref a_table_fallers, .ref a_table_captured, .int i_table_madeFor])), (a_trial_kinds, .inl (cI, 8, .inl k_trial_kinds)), (a_net_sizes, .inl (cI, 55, .inl k_net_sizes)), (a_net_steps, .inl (cI, 440, .inl k_net_steps)), (a_table_levels, .inr (1, [.ref a_table_levels_of, .int i_table_levels_links, .int i_table_levels_sureLinks])), (a_table_sureLinks, .inl (cI, 256, .inl k_table_sureLinks)), (a_table_risers, .inl (cJ, 256, .inr (.inl k_table_risers))), (a_table_fallers, .inl (cJ, 256, .inr (.inl k_table_fallers))), (a_net_lefts, .inl (cI, 8, .inl k_net_lefts)), (a_net_rights, .inl (cI, 8, .inl k_net_rights)), (a_net_nexts, .inl (cI, 4, .inl k_net_nexts)), (a_table_captured, .inl (cI, 16, .inl k_table_captured)), (a_net_links, .inl (cI, 55, .inl k_net_links)), (a_net_starts, .inl (cI, 55, .inl k_net_starts)), (a_table_levels_of, .inl (cI, 18, .inl k_table_levels_of))]) (q0 := 0) S hw (c_X9_triesDelay l D cI cJ cZ cS H.size N a_this a_net a_trial a_trial_delays a_script a_acts a_sightings a_now a_slots a_levels a_table a_waves a_spans a_draft a_net_told a_net_lefts a_net_rights a_net_nexts a_net_starts a_net_sizes a_net_steps a_net_links a_trial_kinds i_this_lastDraw i_net_inputs i_net_gates i_net_paths i_trial_held k_trial_delays (x2_1 / (10 : Int32)) x3_2 r_4 k_trial_delays_5 e69_1) (cwV 2 hts gX9_canBe_X9_triesDelay rfl rfl rfl dv_X9_triesDelay ⟨Nat.le_of_ble_eq_true rfl, Nat.le_of_ble_eq_true rfl⟩) [0, 2, 1, 4] [3, 5, 6, 7, 8, 9, 10, 11, 12, 13, 14, 15, 16, 17, 18] rfl rfl rfl rfl (by decide) rfl rfl rfl rfl hl.1 rfl (Nat.le_of_ble_eq_true rfl) dX9_canBe_69 ⟨Nat.zero_le _, Nat.zero_le _⟩ (fun H locs hw => ?_)
      refine lv_if_eq (tgt := 79) hx hb dX9_canBe_72 (by decide) (fun hc => ?_) (fun hc => ?_)
      · replace h := if_t hc h
        exact hj79_1 k_trial_delays_5 H locs ls h (hw.sub [15, 17, 16, 0, 18, 1, 2, 3, 4, 5, 6, 7, 8, 9, 10, 11, 12, 13, 14] rfl rfl) (lv_sub hl [] rfl)
      · replace h := if_f hc h
        refine lv_iconst (v := (1 : Int32)) hx hb dX9_canBe_75 (by decide) ?_
        refine lv_goto (tgt := 80) hx hb dX9_canBe_76 (by decide) ?_
        cases h
        exact z_zret S hQ hr rfl hw [15, 17, 16, 0, 18, 1, 2, 3, 4, 5, 6, 7, 8, 9, 10, 11, 12, 13, 14] rfl rfl dX9_canBe_80
  replace h := if_f hs1 h
  by_cases hs2 : (y1 / (1000 : Int32)) = (2 : Int32)
  · replace h := if_t hs2 h
    refine lv_tableIn (off := 63) (tgt := 81) hx hb dX9_canBe_18 (by rw [hs2]; decide) (by rw [hs2]; decide) (by rw [hs2]; rfl) (by decide) ?_
    refine lv_iload_n hx hb dX9_canBe_81 rfl (lv_at hl 1 rfl) ?_
    refine lv_bipush (v := (10 : Int32)) hx hb dX9_canBe_82 (by decide) ?_
    refine lv_irem hx hb dX9_canBe_84 (by decide) ?_
    obtain ⟨j104_1, ej104_1, h⟩ := bnd_ex h
    have hj104_1 : ∀ (k_trial_kinds_6 : (Nat → Int32)) (H : Heap) (locs : List Loc) (ls : Array Slot), j104_1 k_trial_kinds_6 = some (rr, o_table_madeFor, o_trial_delays, o_trial_kinds, o_table_levels_links, o_table_levels_sureLinks, o_table_sureLinks, o_table_risers, o_table_fallers, o_table_captured, o_table_levels_of) → Wd D (tyA cI cJ cZ cS) A s [(a_this, .inr (9, [.ref a_script, .ref a_acts, .ref a_sightings, .ref a_now, .ref a_trial, .ref a_slots, .ref a_levels, .ref a_table, .ref a_waves, .ref a_spans, .ref a_net, .ref a_draft, .long i_this_lastDraw])), (a_trial, .inr (5, [.ref a_trial_kinds, .ref a_trial_delays, .int i_trial_held])), (a_net, .inr (2, [.int i_net_inputs, .int i_net_gates, .int i_net_paths, .ref a_net_told, .ref a_net_lefts, .ref a_net_rights, .ref a_net_nexts, .ref a_net_starts, .ref a_net_sizes, .ref a_net_steps, .ref a_net_links])), (a_table, .inr (3, [.ref a_table_levels, .ref a_table_sureLinks, .ref a_table_risers, .ref a_table_fallers, .ref a_table_captured, .int i_table_madeFor])), (a_trial_delays, .inl (cI, 8, .inl k_trial_delays)), (a_trial_kinds, .inl (cI, 8, .inl k_trial_kinds_6)), (a_net_sizes, .inl (cI, 55, .inl k_net_sizes)), (a_net_steps, .inl (cI, 440, .inl k_net_steps)), (a_table_levels, .inr (1, [.ref a_table_levels_of, .int i_table_levels_links, .int i_table_levels_sureLinks])), (a_table_sureLinks, .inl (cI, 256, .inl k_table_sureLinks)), (a_table_risers, .inl (cJ, 256, .inr (.inl k_table_risers))), (a_table_fallers, .inl (cJ, 256, .inr (.inl k_table_fallers))), (a_net_lefts, .inl (cI, 8, .inl k_net_lefts)), (a_net_rights, .inl (cI, 8, .inl k_net_rights)), (a_net_nexts, .inl (cI, 4, .inl k_net_nexts)), (a_table_captured, .inl (cI, 16, .inl k_table_captured)), (a_net_links, .inl (cI, 55, .inl k_net_links)), (a_net_starts, .inl (cI, 55, .inl k_net_starts)), (a_table_levels_of, .inl (cI, 18, .inl k_table_levels_of))] H locs → lv_has ls 4 [] → W p l e rmX9_canBe s m args below meth c H locs 0 0 Q (F0 m 104 ls []) := by
      intro k_trial_kinds_6 H locs ls h hw hl
      replace h := ap1 ej104_1 h
      refine lv_iconst (v := (0 : Int32)) hx hb dX9_canBe_104 (by decide) ?_
      cases h
      exact z_zret S hQ hr rfl hw [0, 1, 2, 3, 4, 5, 6, 7, 8, 9, 10, 11, 12, 13, 14, 15, 16, 17, 18] rfl rfl dX9_canBe_105
    refine lv_if_ne (tgt := 104) hx hb dX9_canBe_85 (by decide) (fun hc => ?_) (fun hc => ?_)
    · replace h := if_f hc h
      exact hj104_1 k_trial_kinds H locs ls h hw (lv_sub hl [] rfl)
    · replace h := if_t hc h
      refine lv_aload_n hx hb dX9_canBe_88 rfl (lv_at hl 2 rfl) ?_
      refine lv_iload_n hx hb dX9_canBe_89 rfl (lv_at hl 1 rfl) ?_
      refine lv_bipush (v := (10 : Int32)) hx hb dX9_canBe_90 (by decide) ?_
      refine lv_idiv hx hb dX9_canBe_92 (by decide) ?_
      refine lv_iload_n hx hb dX9_canBe_93 rfl (lv_at hl 0 rfl) ?_
      obtain ⟨r_7, k_trial_kinds_8, e94_1, h⟩ := obd2_el h
      refine zc_VI (As := [.int (x2_1 / (10 : Int32)), .int x3_2]) (rest := []) (wr := [(a_table, .inr (3, [.ref a_table_levels, .ref a_table_sureLinks, .ref a_table_risers, .ref a_table_fallers, .ref a_table_captured, .int i_table_madeFor])), (a_trial_delays, .inl (cI, 8, .inl k_trial_delays)), (a_net_sizes, .inl (cI, 55, .inl k_net_sizes)), (a_net_steps, .inl (cI, 440, .inl k_net_steps)), (a_table_levels, .inr (1, [.ref a_table_levels_of, .int i_table_levels_links, .int i_table_levels_sureLinks])), (a_table_sureLinks, .inl (cI, 256, .inl k_table_sureLinks)), (a_table_risers, .inl (cJ, 256, .inr (.inl k_table_risers))), (a_table_fallers, .inl (cJ, 256, .inr (.inl k_table_fallers))), (a_net_lefts, .inl (cI, 8, .inl k_net_lefts)), (a_net_rights, .inl (cI, 8, .inl k_net_rights)), (a_net_nexts, .inl (cI, 4, .inl k_net_nexts)), (a_table_captured, .inl (cI, 16, .inl k_table_captured)), (a_net_links, .inl (cI, 55, .inl k_net_links)), (a_net_starts, .inl (cI, 55, .inl k_net_starts)), (a_table_levels_of, .inl (cI, 18, .inl k_table_levels_of))]) (q0 := 0) S hw (c_X9_triesKind l D cI cJ cZ cS H.size N a_this a_net a_trial a_trial_kinds a_script a_acts a_sightings a_now a_slots a_levels a_table a_waves a_spans a_draft a_net_told a_net_lefts a_net_rights a_net_nexts a_net_starts a_net_sizes a_net_steps a_net_links a_trial_delays i_this_lastDraw i_net_inputs i_net_gates i_net_paths i_trial_held k_trial_kinds (x2_1 / (10 : Int32)) x3_2 r_7 k_trial_kinds_8 e94_1) (cwV 2 hts gX9_canBe_X9_triesKind rfl rfl rfl dv_X9_triesKind ⟨Nat.le_of_ble_eq_true rfl, Nat.le_of_ble_eq_true rfl⟩) [0, 2, 1, 5] [3, 4, 6, 7, 8, 9, 10, 11, 12, 13, 14, 15, 16, 17, 18] rfl rfl rfl rfl (by decide) rfl rfl rfl rfl hl.1 rfl (Nat.le_of_ble_eq_true rfl) dX9_canBe_94 ⟨Nat.zero_le _, Nat.zero_le _⟩ (fun H locs hw => ?_)
      refine lv_if_eq (tgt := 104) hx hb dX9_canBe_97 (by decide) (fun hc => ?_) (fun hc => ?_)
      · replace h := if_t hc h
        exact hj104_1 k_trial_kinds_8 H locs ls h (hw.sub [15, 17, 16, 0, 1, 18, 2, 3, 4, 5, 6, 7, 8, 9, 10, 11, 12, 13, 14] rfl rfl) (lv_sub hl [] rfl)
      · replace h := if_f hc h
        refine lv_iconst (v := (1 : Int32)) hx hb dX9_canBe_100 (by decide) ?_
        refine lv_goto (tgt := 105) hx hb dX9_canBe_101 (by decide) ?_
        cases h
        exact z_zret S hQ hr rfl hw [15, 17, 16, 0, 1, 18, 2, 3, 4, 5, 6, 7, 8, 9, 10, 11, 12, 13, 14] rfl rfl dX9_canBe_105
  replace h := if_f hs2 h
  by_cases hs3 : (y1 / (1000 : Int32)) = (3 : Int32)
  · replace h := if_t hs3 h
    refine lv_tableIn (off := 88) (tgt := 106) hx hb dX9_canBe_18 (by rw [hs3]; decide) (by rw [hs3]; decide) (by rw [hs3]; rfl) (by decide) ?_
    refine lv_aload_n hx hb dX9_canBe_106 rfl (lv_at hl 2 rfl) ?_
    refine z_get S hw F75 0 rfl rfl dX9_canBe_107 ?_
    refine lv_iload_n hx hb dX9_canBe_110 rfl (lv_at hl 1 rfl) ?_
    obtain ⟨r_9, e111_1, h⟩ := obd1_el h
    refine zr_VI (As := [.int x2_1]) (rest := []) (q0 := 0) S hw (c_X2_hasPath l D cI cJ cZ cS H.size N a_net a_net_told a_net_lefts a_net_rights a_net_nexts a_net_starts a_net_sizes a_net_steps a_net_links i_net_inputs i_net_gates i_net_paths x2_1 r_9 e111_1) (cwV 1 hts gX9_canBe_X2_hasPath rfl rfl rfl dv_X2_hasPath ⟨Nat.le_of_ble_eq_true rfl, Nat.le_of_ble_eq_true rfl⟩) [2] rfl rfl rfl rfl rfl rfl hl.1 rfl (Nat.le_of_ble_eq_true rfl) dX9_canBe_111 ⟨Nat.zero_le _, Nat.zero_le _⟩ ?_
    obtain ⟨j140_1, ej140_1, h⟩ := bnd_ex h
    have hj140_1 : ∀ (H : Heap) (locs : List Loc) (ls : Array Slot), j140_1 = some (rr, o_table_madeFor, o_trial_delays, o_trial_kinds, o_table_levels_links, o_table_levels_sureLinks, o_table_sureLinks, o_table_risers, o_table_fallers, o_table_captured, o_table_levels_of) → Wd D (tyA cI cJ cZ cS) A s [(a_this, .inr (9, [.ref a_script, .ref a_acts, .ref a_sightings, .ref a_now, .ref a_trial, .ref a_slots, .ref a_levels, .ref a_table, .ref a_waves, .ref a_spans, .ref a_net, .ref a_draft, .long i_this_lastDraw])), (a_trial, .inr (5, [.ref a_trial_kinds, .ref a_trial_delays, .int i_trial_held])), (a_net, .inr (2, [.int i_net_inputs, .int i_net_gates, .int i_net_paths, .ref a_net_told, .ref a_net_lefts, .ref a_net_rights, .ref a_net_nexts, .ref a_net_starts, .ref a_net_sizes, .ref a_net_steps, .ref a_net_links])), (a_table, .inr (3, [.ref a_table_levels, .ref a_table_sureLinks, .ref a_table_risers, .ref a_table_fallers, .ref a_table_captured, .int i_table_madeFor])), (a_trial_delays, .inl (cI, 8, .inl k_trial_delays)), (a_trial_kinds, .inl (cI, 8, .inl k_trial_kinds)), (a_net_sizes, .inl (cI, 55, .inl k_net_sizes)), (a_net_steps, .inl (cI, 440, .inl k_net_steps)), (a_table_levels, .inr (1, [.ref a_table_levels_of, .int i_table_levels_links, .int i_table_levels_sureLinks])), (a_table_sureLinks, .inl (cI, 256, .inl k_table_sureLinks)), (a_table_risers, .inl (cJ, 256, .inr (.inl k_table_risers))), (a_table_fallers, .inl (cJ, 256, .inr (.inl k_table_fallers))), (a_net_lefts, .inl (cI, 8, .inl k_net_lefts)), (a_net_rights, .inl (cI, 8, .inl k_net_rights)), (a_net_nexts, .inl (cI, 4, .inl k_net_nexts)), (a_table_captured, .inl (cI, 16, .inl k_table_captured)), (a_net_links, .inl (cI, 55, .inl k_net_links)), (a_net_starts, .inl (cI, 55, .inl k_net_starts)), (a_table_levels_of, .inl (cI, 18, .inl k_table_levels_of))] H locs → lv_has ls 4 [] → W p l e rmX9_canBe s m args below meth c H locs 0 0 Q (F0 m 140 ls []) := by
      intro H locs ls h hw hl
      replace h := ap0 ej140_1 h
      refine lv_iconst (v := (0 : Int32)) hx hb dX9_canBe_140 (by decide) ?_
      cases h
      exact z_zret S hQ hr rfl hw [0, 1, 2, 3, 4, 5, 6, 7, 8, 9, 10, 11, 12, 13, 14, 15, 16, 17, 18] rfl rfl dX9_canBe_141
    refine lv_if_eq (tgt := 140) hx hb dX9_canBe_114 (by decide) (fun hc => ?_) (fun hc => ?_)
    · replace h := if_t hc h
      exact hj140_1  H locs ls h hw (lv_sub hl [] rfl)
    · replace h := if_f hc h
      refine lv_aload_n hx hb dX9_canBe_117 rfl (lv_at hl 2 rfl) ?_
      refine z_get S hw F75 0 rfl rfl dX9_canBe_118 ?_
      refine lv_iload_n hx hb dX9_canBe_121 rfl (lv_at hl 1 rfl) ?_
      refine lv_aload_n hx hb dX9_canBe_122 rfl (lv_at hl 2 rfl) ?_
      refine z_get S hw F37 0 rfl rfl dX9_canBe_123 ?_
      refine z_get S hw F129 1 rfl rfl dX9_canBe_126 ?_
      obtain ⟨r_10, e129_1, h⟩ := obd1_el h
      refine zr_VI (As := [.int x2_1, .ref a_trial_delays]) (rest := []) (q0 := 0) S hw (c_X2_lengthOf l D cI cJ cZ cS H.size N a_net a_trial_delays a_net_sizes a_net_steps a_net_told a_net_lefts a_net_rights a_net_nexts a_net_starts a_net_links i_net_inputs i_net_gates i_net_paths k_trial_delays k_net_sizes k_net_steps x2_1 r_10 e129_1) (cwV 2 hts gX9_canBe_X2_lengthOf rfl rfl rfl dv_X2_lengthOf ⟨Nat.le_of_ble_eq_true rfl, Nat.le_of_ble_eq_true rfl⟩) [2, 4, 6, 7] rfl rfl rfl rfl rfl rfl hl.1 rfl (Nat.le_of_ble_eq_true rfl) dX9_canBe_129 ⟨Nat.zero_le _, Nat.zero_le _⟩ ?_
      refine lv_iload_n hx hb dX9_canBe_132 rfl (lv_at hl 0 rfl) ?_
      refine lv_icmp_lt (tgt := 140) hx hb dX9_canBe_133 (by decide) (fun hc => ?_) (fun hc => ?_)
      · replace h := if_t hc h
        exact hj140_1  H locs ls h hw (lv_sub hl [] rfl)
      · replace h := if_f hc h
        refine lv_iconst (v := (1 : Int32)) hx hb dX9_canBe_136 (by decide) ?_
        refine lv_goto (tgt := 141) hx hb dX9_canBe_137 (by decide) ?_
        cases h
        exact z_zret S hQ hr rfl hw [0, 1, 2, 3, 4, 5, 6, 7, 8, 9, 10, 11, 12, 13, 14, 15, 16, 17, 18] rfl rfl dX9_canBe_141
  replace h := if_f hs3 h
  by_cases hs4 : (y1 / (1000 : Int32)) = (4 : Int32)
  · replace h := if_t hs4 h
    refine lv_tableIn (off := 124) (tgt := 142) hx hb dX9_canBe_18 (by rw [hs4]; decide) (by rw [hs4]; decide) (by rw [hs4]; rfl) (by decide) ?_
    refine lv_aload_n hx hb dX9_canBe_142 rfl (lv_at hl 2 rfl) ?_
    refine lv_iload_n hx hb dX9_canBe_143 rfl (lv_at hl 1 rfl) ?_
    obtain ⟨r_11, e144_1, h⟩ := obd1_el h
    refine zr_VI (As := [.int x2_1]) (rest := []) (q0 := 0) S hw (c_X9_pathsAsLong l D cI cJ cZ cS H.size N a_this a_net a_trial a_trial_delays a_net_sizes a_net_steps a_script a_acts a_sightings a_now a_slots a_levels a_table a_waves a_spans a_draft a_net_told a_net_lefts a_net_rights a_net_nexts a_net_starts a_net_links a_trial_kinds i_this_lastDraw i_net_inputs i_net_gates i_net_paths i_trial_held k_trial_delays k_net_sizes k_net_steps x2_1 r_11 e144_1) (cwV 1 hts gX9_canBe_X9_pathsAsLong rfl rfl rfl dv_X9_pathsAsLong ⟨Nat.le_of_ble_eq_true rfl, Nat.le_of_ble_eq_true rfl⟩) [0, 2, 1, 4, 6, 7] rfl rfl rfl rfl rfl rfl hl.1 rfl (Nat.le_of_ble_eq_true rfl) dX9_canBe_144 ⟨Nat.zero_le _, Nat.zero_le _⟩ ?_
    refine lv_iload_n hx hb dX9_canBe_147 rfl (lv_at hl 0 rfl) ?_
    refine lv_icmp_lt (tgt := 155) hx hb dX9_canBe_148 (by decide) (fun hc => ?_) (fun hc => ?_)
    · replace h := if_t hc h
      refine lv_iconst (v := (0 : Int32)) hx hb dX9_canBe_155 (by decide) ?_
      cases h
      exact z_zret S hQ hr rfl hw [0, 1, 2, 3, 4, 5, 6, 7, 8, 9, 10, 11, 12, 13, 14, 15, 16, 17, 18] rfl rfl dX9_canBe_156
    · replace h := if_f hc h
      refine lv_iconst (v := (1 : Int32)) hx hb dX9_canBe_151 (by decide) ?_
      refine lv_goto (tgt := 156) hx hb dX9_canBe_152 (by decide) ?_
      cases h
      exact z_zret S hQ hr rfl hw [0, 1, 2, 3, 4, 5, 6, 7, 8, 9, 10, 11, 12, 13, 14, 15, 16, 17, 18] rfl rfl dX9_canBe_156
  replace h := if_f hs4 h
  by_cases hs5 : (y1 / (1000 : Int32)) = (5 : Int32)
  · replace h := if_t hs5 h
    refine lv_tableIn (off := 139) (tgt := 157) hx hb dX9_canBe_18 (by rw [hs5]; decide) (by rw [hs5]; decide) (by rw [hs5]; rfl) (by decide) ?_
    refine lv_aload_n hx hb dX9_canBe_157 rfl (lv_at hl 2 rfl) ?_
    refine z_get S hw F54 0 rfl rfl dX9_canBe_158 ?_
    refine lv_aload_n hx hb dX9_canBe_161 rfl (lv_at hl 2 rfl) ?_
    refine z_get S hw F75 0 rfl rfl dX9_canBe_162 ?_
    refine lv_aload_n hx hb dX9_canBe_165 rfl (lv_at hl 2 rfl) ?_
    refine z_get S hw F37 0 rfl rfl dX9_canBe_166 ?_
    refine z_get S hw F120 1 rfl rfl dX9_canBe_169 ?_
    obtain ⟨i_table_madeFor_12, i_table_levels_links_13, i_table_levels_sureLinks_14, k_table_sureLinks_15, k_table_risers_16, k_table_fallers_17, k_table_captured_18, k_table_levels_of_19, e172_1, h⟩ := obd8_el h
    refine zc_VV (As := [.ref a_net, .ref a_trial_kinds]) (rest := []) (wr := [(a_this, .inr (9, [.ref a_script, .ref a_acts, .ref a_sightings, .ref a_now, .ref a_trial, .ref a_slots, .ref a_levels, .ref a_table, .ref a_waves, .ref a_spans, .ref a_net, .ref a_draft, .long i_this_lastDraw])), (a_trial, .inr (5, [.ref a_trial_kinds, .ref a_trial_delays, .int i_trial_held])), (a_trial_delays, .inl (cI, 8, .inl k_trial_delays)), (a_net_sizes, .inl (cI, 55, .inl k_net_sizes)), (a_net_steps, .inl (cI, 440, .inl k_net_steps))]) (q0 := 1) S hw (c_X3_fitTo l D cI cJ cZ cS H.size N a_net a_table a_trial_kinds a_table_levels a_table_sureLinks a_table_risers a_table_fallers a_net_lefts a_net_rights a_net_nexts a_table_captured a_net_links a_net_starts a_table_levels_of a_net_told a_net_sizes a_net_steps i_net_inputs i_net_gates i_net_paths i_table_madeFor k_trial_kinds i_table_levels_links i_table_levels_sureLinks k_table_sureLinks k_table_risers k_table_fallers k_net_lefts k_net_rights k_net_nexts k_table_captured k_net_links k_net_starts k_table_levels_of i_table_madeFor_12 i_table_levels_links_13 i_table_levels_sureLinks_14 k_table_sureLinks_15 k_table_risers_16 k_table_fallers_17 k_table_captured_18 k_table_levels_of_19 e172_1) (cwV 2 hts gX9_canBe_X3_fitTo rfl rfl rfl dv_X3_fitTo ⟨Nat.le_of_ble_eq_true rfl, Nat.le_of_ble_eq_true rfl⟩) [2, 3, 5, 8, 9, 10, 11, 12, 13, 14, 15, 16, 17, 18] [0, 1, 4, 6, 7] rfl rfl rfl rfl (by decide) rfl rfl rfl rfl hl.1 rfl (Nat.le_of_ble_eq_true rfl) dX9_canBe_172 ⟨Nat.zero_le _, Nat.zero_le _⟩ (fun H locs hw => ?_)
    refine lv_aload_n hx hb dX9_canBe_175 rfl (lv_at hl 2 rfl) ?_
    refine z_get S hw F75 0 rfl rfl dX9_canBe_176 ?_
    refine lv_iload_n hx hb dX9_canBe_179 rfl (lv_at hl 1 rfl) ?_
    obtain ⟨r_20, e180_1, h⟩ := obd1_el h
    refine zr_VI (As := [.int x2_1]) (rest := []) (q0 := 0) S hw (c_X2_hasPath l D cI cJ cZ cS H.size N a_net a_net_told a_net_lefts a_net_rights a_net_nexts a_net_starts a_net_sizes a_net_steps a_net_links i_net_inputs i_net_gates i_net_paths x2_1 r_20 e180_1) (cwV 1 hts gX9_canBe_X2_hasPath rfl rfl rfl dv_X2_hasPath ⟨Nat.le_of_ble_eq_true rfl, Nat.le_of_ble_eq_true rfl⟩) [5] rfl rfl rfl rfl rfl rfl hl.1 rfl (Nat.le_of_ble_eq_true rfl) dX9_canBe_180 ⟨Nat.zero_le _, Nat.zero_le _⟩ ?_
    obtain ⟨j207_1, ej207_1, h⟩ := bnd_ex h
    have hj207_1 : ∀ (H : Heap) (locs : List Loc) (ls : Array Slot), j207_1 = some (rr, o_table_madeFor, o_trial_delays, o_trial_kinds, o_table_levels_links, o_table_levels_sureLinks, o_table_sureLinks, o_table_risers, o_table_fallers, o_table_captured, o_table_levels_of) → Wd D (tyA cI cJ cZ cS) A s [(a_this, .inr (9, [.ref a_script, .ref a_acts, .ref a_sightings, .ref a_now, .ref a_trial, .ref a_slots, .ref a_levels, .ref a_table, .ref a_waves, .ref a_spans, .ref a_net, .ref a_draft, .long i_this_lastDraw])), (a_trial, .inr (5, [.ref a_trial_kinds, .ref a_trial_delays, .int i_trial_held])), (a_net, .inr (2, [.int i_net_inputs, .int i_net_gates, .int i_net_paths, .ref a_net_told, .ref a_net_lefts, .ref a_net_rights, .ref a_net_nexts, .ref a_net_starts, .ref a_net_sizes, .ref a_net_steps, .ref a_net_links])), (a_table, .inr (3, [.ref a_table_levels, .ref a_table_sureLinks, .ref a_table_risers, .ref a_table_fallers, .ref a_table_captured, .int i_table_madeFor_12])), (a_trial_delays, .inl (cI, 8, .inl k_trial_delays)), (a_trial_kinds, .inl (cI, 8, .inl k_trial_kinds)), (a_net_sizes, .inl (cI, 55, .inl k_net_sizes)), (a_net_steps, .inl (cI, 440, .inl k_net_steps)), (a_table_levels, .inr (1, [.ref a_table_levels_of, .int i_table_levels_links_13, .int i_table_levels_sureLinks_14])), (a_table_sureLinks, .inl (cI, 256, .inl k_table_sureLinks_15)), (a_table_risers, .inl (cJ, 256, .inr (.inl k_table_risers_16))), (a_table_fallers, .inl (cJ, 256, .inr (.inl k_table_fallers_17))), (a_net_lefts, .inl (cI, 8, .inl k_net_lefts)), (a_net_rights, .inl (cI, 8, .inl k_net_rights)), (a_net_nexts, .inl (cI, 4, .inl k_net_nexts)), (a_table_captured, .inl (cI, 16, .inl k_table_captured_18)), (a_net_links, .inl (cI, 55, .inl k_net_links)), (a_net_starts, .inl (cI, 55, .inl k_net_starts)), (a_table_levels_of, .inl (cI, 18, .inl k_table_levels_of_19))] H locs → lv_has ls 4 [] → W p l e rmX9_canBe s m args below meth c H locs 0 0 Q (F0 m 207 ls []) := by
      intro H locs ls h hw hl
      replace h := ap0 ej207_1 h
      refine lv_iconst (v := (0 : Int32)) hx hb dX9_canBe_207 (by decide) ?_
      cases h
      exact z_zret S hQ hr rfl hw [0, 1, 2, 3, 4, 5, 6, 7, 8, 9, 10, 11, 12, 13, 14, 15, 16, 17, 18] rfl rfl dX9_canBe_208
    refine lv_if_eq (tgt := 207) hx hb dX9_canBe_183 (by decide) (fun hc => ?_) (fun hc => ?_)
    · replace h := if_t hc h
      exact hj207_1  H locs ls h (hw.sub [0, 1, 5, 6, 2, 7, 3, 4, 8, 9, 10, 11, 12, 13, 14, 15, 16, 17, 18] rfl rfl) (lv_sub hl [] rfl)
    · replace h := if_f hc h
      refine lv_iload_n hx hb dX9_canBe_186 rfl (lv_at hl 0 rfl) ?_
      refine lv_iconst (v := (1 : Int32)) hx hb dX9_canBe_187 (by decide) ?_
      refine lv_icmp_gt (tgt := 207) hx hb dX9_canBe_188 (by decide) (fun hc => ?_) (fun hc => ?_)
      · replace h := if_t hc h
        exact hj207_1  H locs ls h (hw.sub [0, 1, 5, 6, 2, 7, 3, 4, 8, 9, 10, 11, 12, 13, 14, 15, 16, 17, 18] rfl rfl) (lv_sub hl [] rfl)
      · replace h := if_f hc h
        refine lv_aload_n hx hb dX9_canBe_191 rfl (lv_at hl 2 rfl) ?_
        refine z_get S hw F54 0 rfl rfl dX9_canBe_192 ?_
        refine lv_iload_n hx hb dX9_canBe_195 rfl (lv_at hl 1 rfl) ?_
        refine lv_iload_n hx hb dX9_canBe_196 rfl (lv_at hl 0 rfl) ?_
        obtain ⟨r_21, e197_1, h⟩ := obd1_el h
        refine zr_VI (As := [.int x2_1, .int x3_2]) (rest := []) (q0 := 0) S hw (c_X3_canProve l D cI cJ cZ cS H.size N a_table a_table_fallers a_table_risers a_table_levels a_table_sureLinks a_table_captured i_table_madeFor_12 k_table_fallers_17 k_table_risers_16 x2_1 x3_2 r_21 e197_1) (cwV 2 hts gX9_canBe_X3_canProve rfl rfl rfl dv_X3_canProve ⟨Nat.le_of_ble_eq_true rfl, Nat.le_of_ble_eq_true rfl⟩) [6, 11, 10] rfl rfl rfl rfl rfl rfl hl.1 rfl (Nat.le_of_ble_eq_true rfl) dX9_canBe_197 ⟨Nat.zero_le _, Nat.zero_le _⟩ ?_
        refine lv_if_eq (tgt := 207) hx hb dX9_canBe_200 (by decide) (fun hc => ?_) (fun hc => ?_)
        · replace h := if_t hc h
          exact hj207_1  H locs ls h (hw.sub [0, 1, 5, 6, 2, 7, 3, 4, 8, 9, 10, 11, 12, 13, 14, 15, 16, 17, 18] rfl rfl) (lv_sub hl [] rfl)
        · replace h := if_f hc h
          refine lv_iconst (v := (1 : Int32)) hx hb dX9_canBe_203 (by decide) ?_
          refine lv_goto (tgt := 208) hx hb dX9_canBe_204 (by decide) ?_
          cases h
          exact z_zret S hQ hr rfl hw [0, 1, 5, 6, 2, 7, 3, 4, 8, 9, 10, 11, 12, 13, 14, 15, 16, 17, 18] rfl rfl dX9_canBe_208
  replace h := if_f hs5 h
  by_cases hs6 : (y1 / (1000 : Int32)) = (6 : Int32)
  · replace h := if_t hs6 h
    refine lv_tableIn (off := 191) (tgt := 209) hx hb dX9_canBe_18 (by rw [hs6]; decide) (by rw [hs6]; decide) (by rw [hs6]; rfl) (by decide) ?_
    refine lv_aload_n hx hb dX9_canBe_209 rfl (lv_at hl 2 rfl) ?_
    refine z_get S hw F54 0 rfl rfl dX9_canBe_210 ?_
    refine lv_aload_n hx hb dX9_canBe_213 rfl (lv_at hl 2 rfl) ?_
    refine z_get S hw F75 0 rfl rfl dX9_canBe_214 ?_
    refine lv_aload_n hx hb dX9_canBe_217 rfl (lv_at hl 2 rfl) ?_
    refine z_get S hw F37 0 rfl rfl dX9_canBe_218 ?_
    refine z_get S hw F120 1 rfl rfl dX9_canBe_221 ?_
    obtain ⟨i_table_madeFor_22, i_table_levels_links_23, i_table_levels_sureLinks_24, k_table_sureLinks_25, k_table_risers_26, k_table_fallers_27, k_table_captured_28, k_table_levels_of_29, e224_1, h⟩ := obd8_el h
    refine zc_VV (As := [.ref a_net, .ref a_trial_kinds]) (rest := []) (wr := [(a_this, .inr (9, [.ref a_script, .ref a_acts, .ref a_sightings, .ref a_now, .ref a_trial, .ref a_slots, .ref a_levels, .ref a_table, .ref a_waves, .ref a_spans, .ref a_net, .ref a_draft, .long i_this_lastDraw])), (a_trial, .inr (5, [.ref a_trial_kinds, .ref a_trial_delays, .int i_trial_held])), (a_trial_delays, .inl (cI, 8, .inl k_trial_delays)), (a_net_sizes, .inl (cI, 55, .inl k_net_sizes)), (a_net_steps, .inl (cI, 440, .inl k_net_steps))]) (q0 := 1) S hw (c_X3_fitTo l D cI cJ cZ cS H.size N a_net a_table a_trial_kinds a_table_levels a_table_sureLinks a_table_risers a_table_fallers a_net_lefts a_net_rights a_net_nexts a_table_captured a_net_links a_net_starts a_table_levels_of a_net_told a_net_sizes a_net_steps i_net_inputs i_net_gates i_net_paths i_table_madeFor k_trial_kinds i_table_levels_links i_table_levels_sureLinks k_table_sureLinks k_table_risers k_table_fallers k_net_lefts k_net_rights k_net_nexts k_table_captured k_net_links k_net_starts k_table_levels_of i_table_madeFor_22 i_table_levels_links_23 i_table_levels_sureLinks_24 k_table_sureLinks_25 k_table_risers_26 k_table_fallers_27 k_table_captured_28 k_table_levels_of_29 e224_1) (cwV 2 hts gX9_canBe_X3_fitTo rfl rfl rfl dv_X3_fitTo ⟨Nat.le_of_ble_eq_true rfl, Nat.le_of_ble_eq_true rfl⟩) [2, 3, 5, 8, 9, 10, 11, 12, 13, 14, 15, 16, 17, 18] [0, 1, 4, 6, 7] rfl rfl rfl rfl (by decide) rfl rfl rfl rfl hl.1 rfl (Nat.le_of_ble_eq_true rfl) dX9_canBe_224 ⟨Nat.zero_le _, Nat.zero_le _⟩ (fun H locs hw => ?_)
    refine lv_iload_n hx hb dX9_canBe_227 rfl (lv_at hl 1 rfl) ?_
    refine lv_bipush (v := (10 : Int32)) hx hb dX9_canBe_228 (by decide) ?_
    refine lv_idiv hx hb dX9_canBe_230 (by decide) ?_
    obtain ⟨j256_1, ej256_1, h⟩ := bnd_ex h
    have hj256_1 : ∀ (H : Heap) (locs : List Loc) (ls : Array Slot), j256_1 = some (rr, o_table_madeFor, o_trial_delays, o_trial_kinds, o_table_levels_links, o_table_levels_sureLinks, o_table_sureLinks, o_table_risers, o_table_fallers, o_table_captured, o_table_levels_of) → Wd D (tyA cI cJ cZ cS) A s [(a_this, .inr (9, [.ref a_script, .ref a_acts, .ref a_sightings, .ref a_now, .ref a_trial, .ref a_slots, .ref a_levels, .ref a_table, .ref a_waves, .ref a_spans, .ref a_net, .ref a_draft, .long i_this_lastDraw])), (a_trial, .inr (5, [.ref a_trial_kinds, .ref a_trial_delays, .int i_trial_held])), (a_net, .inr (2, [.int i_net_inputs, .int i_net_gates, .int i_net_paths, .ref a_net_told, .ref a_net_lefts, .ref a_net_rights, .ref a_net_nexts, .ref a_net_starts, .ref a_net_sizes, .ref a_net_steps, .ref a_net_links])), (a_table, .inr (3, [.ref a_table_levels, .ref a_table_sureLinks, .ref a_table_risers, .ref a_table_fallers, .ref a_table_captured, .int i_table_madeFor_22])), (a_trial_delays, .inl (cI, 8, .inl k_trial_delays)), (a_trial_kinds, .inl (cI, 8, .inl k_trial_kinds)), (a_net_sizes, .inl (cI, 55, .inl k_net_sizes)), (a_net_steps, .inl (cI, 440, .inl k_net_steps)), (a_table_levels, .inr (1, [.ref a_table_levels_of, .int i_table_levels_links_23, .int i_table_levels_sureLinks_24])), (a_table_sureLinks, .inl (cI, 256, .inl k_table_sureLinks_25)), (a_table_risers, .inl (cJ, 256, .inr (.inl k_table_risers_26))), (a_table_fallers, .inl (cJ, 256, .inr (.inl k_table_fallers_27))), (a_net_lefts, .inl (cI, 8, .inl k_net_lefts)), (a_net_rights, .inl (cI, 8, .inl k_net_rights)), (a_net_nexts, .inl (cI, 4, .inl k_net_nexts)), (a_table_captured, .inl (cI, 16, .inl k_table_captured_28)), (a_net_links, .inl (cI, 55, .inl k_net_links)), (a_net_starts, .inl (cI, 55, .inl k_net_starts)), (a_table_levels_of, .inl (cI, 18, .inl k_table_levels_of_29))] H locs → lv_has ls 4 [] → W p l e rmX9_canBe s m args below meth c H locs 0 0 Q (F0 m 256 ls []) := by
      intro H locs ls h hw hl
      replace h := ap0 ej256_1 h
      refine lv_iconst (v := (0 : Int32)) hx hb dX9_canBe_256 (by decide) ?_
      cases h
      exact z_zret S hQ hr rfl hw [0, 1, 2, 3, 4, 5, 6, 7, 8, 9, 10, 11, 12, 13, 14, 15, 16, 17, 18] rfl rfl dX9_canBe_257
    refine lv_if_ne (tgt := 256) hx hb dX9_canBe_231 (by decide) (fun hc => ?_) (fun hc => ?_)
    · replace h := if_f hc h
      exact hj256_1  H locs ls h (hw.sub [0, 1, 5, 6, 2, 7, 3, 4, 8, 9, 10, 11, 12, 13, 14, 15, 16, 17, 18] rfl rfl) (lv_sub hl [] rfl)
    · replace h := if_t hc h
      refine lv_aload_n hx hb dX9_canBe_234 rfl (lv_at hl 2 rfl) ?_
      refine z_get S hw F54 0 rfl rfl dX9_canBe_235 ?_
      refine lv_aload_n hx hb dX9_canBe_238 rfl (lv_at hl 2 rfl) ?_
      refine z_get S hw F75 0 rfl rfl dX9_canBe_239 ?_
      obtain ⟨r_30, e242_1, h⟩ := obd1_el h
      refine zr_VI (As := [.ref a_net]) (rest := []) (q0 := 1) S hw (c_X3_deadBeginnings l D cI cJ cZ cS H.size N a_net a_table a_net_sizes a_net_starts a_net_steps a_net_links a_table_sureLinks a_net_told a_net_lefts a_net_rights a_net_nexts a_table_levels a_table_risers a_table_fallers a_table_captured i_net_inputs i_net_gates i_net_paths i_table_madeFor_22 k_net_sizes k_net_starts k_net_steps k_net_links k_table_sureLinks_25 r_30 e242_1) (cwV 1 hts gX9_canBe_X3_deadBeginnings rfl rfl rfl dv_X3_deadBeginnings ⟨Nat.le_of_ble_eq_true rfl, Nat.le_of_ble_eq_true rfl⟩) [5, 6, 3, 17, 4, 16, 9] rfl rfl rfl rfl rfl rfl hl.1 rfl (Nat.le_of_ble_eq_true rfl) dX9_canBe_242 ⟨Nat.zero_le _, Nat.zero_le _⟩ ?_
      refine lv_iload_n hx hb dX9_canBe_245 rfl (lv_at hl 3 rfl) ?_
      refine lv_bipush (v := (100 : Int32)) hx hb dX9_canBe_246 (by decide) ?_
      refine lv_irem hx hb dX9_canBe_248 (by decide) ?_
      refine lv_icmp_lt (tgt := 256) hx hb dX9_canBe_249 (by decide) (fun hc => ?_) (fun hc => ?_)
      · replace h := if_t hc h
        exact hj256_1  H locs ls h (hw.sub [0, 1, 5, 6, 2, 7, 3, 4, 8, 9, 10, 11, 12, 13, 14, 15, 16, 17, 18] rfl rfl) (lv_sub hl [] rfl)
      · replace h := if_f hc h
        refine lv_iconst (v := (1 : Int32)) hx hb dX9_canBe_252 (by decide) ?_
        refine lv_goto (tgt := 257) hx hb dX9_canBe_253 (by decide) ?_
        cases h
        exact z_zret S hQ hr rfl hw [0, 1, 5, 6, 2, 7, 3, 4, 8, 9, 10, 11, 12, 13, 14, 15, 16, 17, 18] rfl rfl dX9_canBe_257
  replace h := if_f hs6 h
  refine lv_tableOut (tgt := 258) hx hb dX9_canBe_18 (tb_out (fun j h1 h2 => ?_)) (by decide) ?_
  · rcases (show j = 1 ∨ j = 2 ∨ j = 3 ∨ j = 4 ∨ j = 5 ∨ j = 6 by omega) with rfl | rfl | rfl | rfl | rfl | rfl
    · exact fun he => hs1 (he.trans (by decide))
    · exact fun he => hs2 (he.trans (by decide))
    · exact fun he => hs3 (he.trans (by decide))
    · exact fun he => hs4 (he.trans (by decide))
    · exact fun he => hs5 (he.trans (by decide))
    · exact fun he => hs6 (he.trans (by decide))
  refine lv_iconst (v := (0 : Int32)) hx hb dX9_canBe_258 (by decide) ?_
  cases h
  exact z_zret S hQ hr rfl hw [0, 1, 2, 3, 4, 5, 6, 7, 8, 9, 10, 11, 12, 13, 14, 15, 16, 17, 18] rfl rfl dX9_canBe_259
abbrev rmX9_judge : Room := { frames := 6, cells := 0, slots := 0, locals := 144 }
theorem dv_X9_judge : yX9_judge.cls = RX9 ∧ yX9_judge.cls ≠ "java/lang/invoke/MethodHandle" ∧ yX9_judge.cls ≠ "java/lang/invoke/VarHandle" ∧ (parseMethodDescriptor yX9_judge.desc).map (fun d => d.parameters.length) = some 2 := by decide +kernel
noncomputable def f_X9_judge_L69 (N : Nat) (y1 : Int32) (y2 : Int64) (i_net_inputs : Int32) (i_net_gates : Int32) (i_net_paths : Int32) (k_net_sizes : (Nat → Int32)) (k_net_steps : (Nat → Int32)) (k_net_lefts : (Nat → Int32)) (k_net_rights : (Nat → Int32)) (k_net_nexts : (Nat → Int32)) (k_net_links : (Nat → Int32)) (k_net_starts : (Nat → Int32)) (j116_1 : Int32 → (Nat → Int32) → (Nat → Int32) → Int32 → Int32 → (Nat → Int32) → (Nat → Int64) → (Nat → Int64) → (Nat → Int32) → (Nat → Int32) → Option (Int32 × Int32 × (Nat → Int32) × (Nat → Int32) × Int32 × Int32 × (Nat → Int32) × (Nat → Int64) × (Nat → Int64) × (Nat → Int32) × (Nat → Int32))) : Nat → Int64 → Int32 → Int32 → (Nat → Int32) → (Nat → Int32) → Int32 → Int32 → (Nat → Int32) → (Nat → Int64) → (Nat → Int64) → (Nat → Int32) → (Nat → Int32) → Option (Int32 × Int32 × (Nat → Int32) × (Nat → Int32) × Int32 × Int32 × (Nat → Int32) × (Nat → Int64) × (Nat → Int64) × (Nat → Int32) × (Nat → Int32))
  | 0, _, _, _, _, _, _, _, _, _, _, _, _ => none
  | n_69 + 1, x4_14, x6_15, i_table_madeFor_16, k_trial_kinds_17, k_trial_delays_18, i_table_levels_links_19, i_table_levels_sureLinks_20, k_table_sureLinks_21, k_table_risers_22, k_table_fallers_23, k_table_captured_24, k_table_levels_of_25 =>
    (if y1 ≤ x6_15 then (j116_1 i_table_madeFor_16 k_trial_kinds_17 k_trial_delays_18 i_table_levels_links_19 i_table_levels_sureLinks_20 k_table_sureLinks_21 k_table_risers_22 k_table_fallers_23 k_table_captured_24 k_table_levels_of_25) else (bnd ((x4_14 / (10000 : Int64))) fun (x4_26 : Int64) => grd (nzL (if (1 : Int64) < x4_26 then x4_26 else (1 : Int64))) <| bnd ((((y2 / (if (1 : Int64) < x4_26 then x4_26 else (1 : Int64))) - (y2 / (if (1 : Int64) < x4_26 then x4_26 else (1 : Int64))) / (10000 : Int64) * (10000 : Int64)).toInt32)) fun (x7_27 : Int32) => obd11 (f_X9_canBe N x7_27 i_net_inputs i_net_gates i_net_paths i_table_madeFor_16 k_trial_delays_18 k_trial_kinds_17 k_net_sizes k_net_steps i_table_levels_links_19 i_table_levels_sureLinks_20 k_table_sureLinks_21 k_table_risers_22 k_table_fallers_23 k_net_lefts k_net_rights k_net_nexts k_table_captured_24 k_net_links k_net_starts k_table_levels_of_25) fun (r_28 : Int32) (i_table_madeFor_29 : Int32) (k_trial_delays_30 : (Nat → Int32)) (k_trial_kinds_31 : (Nat → Int32)) (i_table_levels_links_32 : Int32) (i_table_levels_sureLinks_33 : Int32) (k_table_sureLinks_34 : (Nat → Int32)) (k_table_risers_35 : (Nat → Int64)) (k_table_fallers_36 : (Nat → Int64)) (k_table_captured_37 : (Nat → Int32)) (k_table_levels_of_38 : (Nat → Int32)) => (if r_28 = (0 : Int32) then (some (x6_15, i_table_madeFor_29, k_trial_kinds_31, k_trial_delays_30, i_table_levels_links_32, i_table_levels_sureLinks_33, k_table_sureLinks_34, k_table_risers_35, k_table_fallers_36, k_table_captured_37, k_table_levels_of_38)) else (bnd (x6_15 + (1 : Int32)) fun (x6_39 : Int32) => f_X9_judge_L69 N y1 y2 i_net_inputs i_net_gates i_net_paths k_net_sizes k_net_steps k_net_lefts k_net_rights k_net_nexts k_net_links k_net_starts j116_1 n_69 x4_26 x6_39 i_table_madeFor_29 k_trial_kinds_31 k_trial_delays_30 i_table_levels_links_32 i_table_levels_sureLinks_33 k_table_sureLinks_34 k_table_risers_35 k_table_fallers_36 k_table_captured_37 k_table_levels_of_38))))
noncomputable def f_X9_judge_L19 (N : Nat) (y1 : Int32) (j39_1 : Int64 → Option (Int32 × Int32 × (Nat → Int32) × (Nat → Int32) × Int32 × Int32 × (Nat → Int32) × (Nat → Int64) × (Nat → Int64) × (Nat → Int32) × (Nat → Int32))) : Nat → Int64 → Int32 → Option (Int32 × Int32 × (Nat → Int32) × (Nat → Int32) × Int32 × Int32 × (Nat → Int32) × (Nat → Int64) × (Nat → Int64) × (Nat → Int32) × (Nat → Int32))
  | 0, _, _ => none
  | n_19 + 1, x4_40, x6_41 =>
    (if y1 ≤ x6_41 then (j39_1 x4_40) else (bnd ((x4_40 * (10000 : Int64))) fun (x4_42 : Int64) => bnd (x6_41 + (1 : Int32)) fun (x6_43 : Int32) => f_X9_judge_L19 N y1 j39_1 n_19 x4_42 x6_43))
noncomputable def f_X9_judge (N : Nat) (y1 : Int32) (y2 : Int64) (i_net_inputs : Int32) (i_net_gates : Int32) (i_net_paths : Int32) (i_table_madeFor : Int32) (k_now_kinds : (Nat → Int32)) (k_trial_kinds : (Nat → Int32)) (k_now_delays : (Nat → Int32)) (k_trial_delays : (Nat → Int32)) (i_table_levels_links : Int32) (i_table_levels_sureLinks : Int32) (k_net_sizes : (Nat → Int32)) (k_net_steps : (Nat → Int32)) (k_table_sureLinks : (Nat → Int32)) (k_table_risers : (Nat → Int64)) (k_table_fallers : (Nat → Int64)) (k_net_lefts : (Nat → Int32)) (k_net_rights : (Nat → Int32)) (k_net_nexts : (Nat → Int32)) (k_table_captured : (Nat → Int32)) (k_net_links : (Nat → Int32)) (k_net_starts : (Nat → Int32)) (k_table_levels_of : (Nat → Int32)) : Option (Int32 × Int32 × (Nat → Int32) × (Nat → Int32) × Int32 × Int32 × (Nat → Int32) × (Nat → Int64) × (Nat → Int64) × (Nat → Int32) × (Nat → Int32)) :=
  (if y1 < (1 : Int32) then (some ((-2 : Int32), i_table_madeFor, k_trial_kinds, k_trial_delays, i_table_levels_links, i_table_levels_sureLinks, k_table_sureLinks, k_table_risers, k_table_fallers, k_table_captured, k_table_levels_of)) else ((if y1 ≤ (4 : Int32) then (bnd (fun (x4_1 : Int64) => ((if (lg_cmp y2 (0 : Int64)) < (0 : Int32) then (some ((-2 : Int32), i_table_madeFor, k_trial_kinds, k_trial_delays, i_table_levels_links, i_table_levels_sureLinks, k_table_sureLinks, k_table_risers, k_table_fallers, k_table_captured, k_table_levels_of)) else ((if (lg_cmp y2 x4_1) < (0 : Int32) then (obd2 (f_X5_copyFrom N k_now_kinds k_trial_kinds k_now_delays k_trial_delays) fun (k_trial_kinds_2 : (Nat → Int32)) (k_trial_delays_3 : (Nat → Int32)) => bnd (fun (i_table_madeFor_4 : Int32) (k_trial_kinds_5 : (Nat → Int32)) (k_trial_delays_6 : (Nat → Int32)) (i_table_levels_links_7 : Int32) (i_table_levels_sureLinks_8 : Int32) (k_table_sureLinks_9 : (Nat → Int32)) (k_table_risers_10 : (Nat → Int64)) (k_table_fallers_11 : (Nat → Int64)) (k_table_captured_12 : (Nat → Int32)) (k_table_levels_of_13 : (Nat → Int32)) => (some ((-9 : Int32), i_table_madeFor_4, k_trial_kinds_5, k_trial_delays_6, i_table_levels_links_7, i_table_levels_sureLinks_8, k_table_sureLinks_9, k_table_risers_10, k_table_fallers_11, k_table_captured_12, k_table_levels_of_13))) fun (j116_1 : Int32 → (Nat → Int32) → (Nat → Int32) → Int32 → Int32 → (Nat → Int32) → (Nat → Int64) → (Nat → Int64) → (Nat → Int32) → (Nat → Int32) → Option (Int32 × Int32 × (Nat → Int32) × (Nat → Int32) × Int32 × Int32 × (Nat → Int32) × (Nat → Int64) × (Nat → Int64) × (Nat → Int32) × (Nat → Int32))) => f_X9_judge_L69 N y1 y2 i_net_inputs i_net_gates i_net_paths k_net_sizes k_net_steps k_net_lefts k_net_rights k_net_nexts k_net_links k_net_starts j116_1 N x4_1 ((0 : Int32)) i_table_madeFor k_trial_kinds_2 k_trial_delays_3 i_table_levels_links i_table_levels_sureLinks k_table_sureLinks k_table_risers k_table_fallers k_table_captured k_table_levels_of) else (some ((-2 : Int32), i_table_madeFor, k_trial_kinds, k_trial_delays, i_table_levels_links, i_table_levels_sureLinks, k_table_sureLinks, k_table_risers, k_table_fallers, k_table_captured, k_table_levels_of))))))) fun (j39_1 : Int64 → Option (Int32 × Int32 × (Nat → Int32) × (Nat → Int32) × Int32 × Int32 × (Nat → Int32) × (Nat → Int64) × (Nat → Int64) × (Nat → Int32) × (Nat → Int32))) => f_X9_judge_L19 N y1 j39_1 N ((1 : Int64)) ((0 : Int32))) else (some ((-2 : Int32), i_table_madeFor, k_trial_kinds, k_trial_delays, i_table_levels_links, i_table_levels_sureLinks, k_table_sureLinks, k_table_risers, k_table_fallers, k_table_captured, k_table_levels_of)))))
set_option maxHeartbeats 4000000 in
set_option maxRecDepth 100000 in
theorem c_X9_judge (l : Launch) (D : va_G) (cI cJ cZ cS : ClassId) (sz N : Nat) (a_this a_now a_trial a_net a_table a_now_kinds a_trial_kinds a_now_delays a_trial_delays a_table_levels a_net_sizes a_net_steps a_table_sureLinks a_table_risers a_table_fallers a_net_lefts a_net_rights a_net_nexts a_table_captured a_net_links a_net_starts a_table_levels_of a_script a_acts a_sightings a_slots a_levels a_waves a_spans a_draft a_net_told : Nat) (i_this_lastDraw : Int64) (i_now_held : Int32) (i_trial_held : Int32) (i_net_inputs : Int32) (i_net_gates : Int32) (i_net_paths : Int32) (i_table_madeFor : Int32) (k_now_kinds : (Nat → Int32)) (k_trial_kinds : (Nat → Int32)) (k_now_delays : (Nat → Int32)) (k_trial_delays : (Nat → Int32)) (i_table_levels_links : Int32) (i_table_levels_sureLinks : Int32) (k_net_sizes : (Nat → Int32)) (k_net_steps : (Nat → Int32)) (k_table_sureLinks : (Nat → Int32)) (k_table_risers : (Nat → Int64)) (k_table_fallers : (Nat → Int64)) (k_net_lefts : (Nat → Int32)) (k_net_rights : (Nat → Int32)) (k_net_nexts : (Nat → Int32)) (k_table_captured : (Nat → Int32)) (k_net_links : (Nat → Int32)) (k_net_starts : (Nat → Int32)) (k_table_levels_of : (Nat → Int32)) (y1 : Int32) (y2 : Int64) (rr : Int32) (o_table_madeFor : Int32) (o_trial_kinds : (Nat → Int32)) (o_trial_delays : (Nat → Int32)) (o_table_levels_links : Int32) (o_table_levels_sureLinks : Int32) (o_table_sureLinks : (Nat → Int32)) (o_table_risers : (Nat → Int64)) (o_table_fallers : (Nat → Int64)) (o_table_captured : (Nat → Int32)) (o_table_levels_of : (Nat → Int32)) (hf : f_X9_judge N y1 y2 i_net_inputs i_net_gates i_net_paths i_table_madeFor k_now_kinds k_trial_kinds k_now_delays k_trial_delays i_table_levels_links i_table_levels_sureLinks k_net_sizes k_net_steps k_table_sureLinks k_table_risers k_table_fallers k_net_lefts k_net_rights k_net_nexts k_table_captured k_net_links k_net_starts k_table_levels_of = some (rr, o_table_madeFor, o_trial_kinds, o_trial_delays, o_table_levels_links, o_table_levels_sureLinks, o_table_sureLinks, o_table_risers, o_table_fallers, o_table_captured, o_table_levels_of)) : MetI l yX9_judge wsX9_judge rmX9_judge D (tyA cI cJ cZ cS) [(a_this, .inr (9, [.ref a_script, .ref a_acts, .ref a_sightings, .ref a_now, .ref a_trial, .ref a_slots, .ref a_levels, .ref a_table, .ref a_waves, .ref a_spans, .ref a_net, .ref a_draft, .long i_this_lastDraw])), (a_now, .inr (5, [.ref a_now_kinds, .ref a_now_delays, .int i_now_held])), (a_trial, .inr (5, [.ref a_trial_kinds, .ref a_trial_delays, .int i_trial_held])), (a_net, .inr (2, [.int i_net_inputs, .int i_net_gates, .int i_net_paths, .ref a_net_told, .ref a_net_lefts, .ref a_net_rights, .ref a_net_nexts, .ref a_net_starts, .ref a_net_sizes, .ref a_net_steps, .ref a_net_links])), (a_table, .inr (3, [.ref a_table_levels, .ref a_table_sureLinks, .ref a_table_risers, .ref a_table_fallers, .ref a_table_captured, .int i_table_madeFor])), (a_now_kinds, .inl (cI, 8, .inl k_now_kinds)), (a_trial_kinds, .inl (cI, 8, .inl k_trial_kinds)), (a_now_delays, .inl (cI, 8, .inl k_now_delays)), (a_trial_delays, .inl (cI, 8, .inl k_trial_delays)), (a_table_levels, .inr (1, [.ref a_table_levels_of, .int i_table_levels_links, .int i_table_levels_sureLinks])), (a_net_sizes, .inl (cI, 55, .inl k_net_sizes)), (a_net_steps, .inl (cI, 440, .inl k_net_steps)), (a_table_sureLinks, .inl (cI, 256, .inl k_table_sureLinks)), (a_table_risers, .inl (cJ, 256, .inr (.inl k_table_risers))), (a_table_fallers, .inl (cJ, 256, .inr (.inl k_table_fallers))), (a_net_lefts, .inl (cI, 8, .inl k_net_lefts)), (a_net_rights, .inl (cI, 8, .inl k_net_rights)), (a_net_nexts, .inl (cI, 4, .inl k_net_nexts)), (a_table_captured, .inl (cI, 16, .inl k_table_captured)), (a_net_links, .inl (cI, 55, .inl k_net_links)), (a_net_starts, .inl (cI, 55, .inl k_net_starts)), (a_table_levels_of, .inl (cI, 18, .inl k_table_levels_of))] sz [.ref a_this, .int y1, .long y2] rr [(a_this, .inr (9, [.ref a_script, .ref a_acts, .ref a_sightings, .ref a_now, .ref a_trial, .ref a_slots, .ref a_levels, .ref a_table, .ref a_waves, .ref a_spans, .ref a_net, .ref a_draft, .long i_this_lastDraw])), (a_now, .inr (5, [.ref a_now_kinds, .ref a_now_delays, .int i_now_held])), (a_trial, .inr (5, [.ref a_trial_kinds, .ref a_trial_delays, .int i_trial_held])), (a_net, .inr (2, [.int i_net_inputs, .int i_net_gates, .int i_net_paths, .ref a_net_told, .ref a_net_lefts, .ref a_net_rights, .ref a_net_nexts, .ref a_net_starts, .ref a_net_sizes, .ref a_net_steps, .ref a_net_links])), (a_table, .inr (3, [.ref a_table_levels, .ref a_table_sureLinks, .ref a_table_risers, .ref a_table_fallers, .ref a_table_captured, .int o_table_madeFor])), (a_now_kinds, .inl (cI, 8, .inl k_now_kinds)), (a_trial_kinds, .inl (cI, 8, .inl o_trial_kinds)), (a_now_delays, .inl (cI, 8, .inl k_now_delays)), (a_trial_delays, .inl (cI, 8, .inl o_trial_delays)), (a_table_levels, .inr (1, [.ref a_table_levels_of, .int o_table_levels_links, .int o_table_levels_sureLinks])), (a_net_sizes, .inl (cI, 55, .inl k_net_sizes)), (a_net_steps, .inl (cI, 440, .inl k_net_steps)), (a_table_sureLinks, .inl (cI, 256, .inl o_table_sureLinks)), (a_table_risers, .inl (cJ, 256, .inr (.inl o_table_risers))), (a_table_fallers, .inl (cJ, 256, .inr (.inl o_table_fallers))), (a_net_lefts, .inl (cI, 8, .inl k_net_lefts)), (a_net_rights, .inl (cI, 8, .inl k_net_rights)), (a_net_nexts, .inl (cI, 4, .inl k_net_nexts)), (a_table_captured, .inl (cI, 16, .inl o_table_captured)), (a_net_links, .inl (cI, 55, .inl k_net_links)), (a_net_starts, .inl (cI, 55, .inl k_net_starts)), (a_table_levels_of, .inl (cI, 18, .inl o_table_levels_of))] := by
  refine entI (cc := cX9_judge) (maxL := 8) (own := RX9) (by decide) rfl rfl (Nat.le_of_ble_eq_true rfl) ?_
  intro p e s m args below meth c A ls Q H locs S hr hw hl hQ
  have hx := S.1.1
  have hb := S.1.2.1
  have hts := S.1.2.2.2.2
  have hl : lv_has ls 8 [(0, .ref a_this), (1, .int y1), (2, .long y2)] := hl
  have hinX9 : ∀ w ∈ u_ws RX9 TX9 13, w ∈ wsX9_judge := (fun _ h => List.mem_cons_of_mem _ (List.mem_append_left _ (List.mem_append_left _ (List.mem_append_left _ (List.mem_append_left _ (List.mem_append_right _ h))))))
  have F33 : FLk s args wsX9_judge RX9 33 RX9 TX9 13 9 3 := ⟨hinX9, rfl, by decide, hts (.fieldLink RX9 33 "SlowPaths" "now" "LSlowPaths$Setting;") (List.mem_of_getElem? (i := 3) rfl)⟩
  have F37 : FLk s args wsX9_judge RX9 37 RX9 TX9 13 9 4 := ⟨hinX9, rfl, by decide, hts (.fieldLink RX9 37 "SlowPaths" "trial" "LSlowPaths$Setting;") (List.mem_of_getElem? (i := 2) rfl)⟩
  have h := hf
  rw [f_X9_judge] at h
  refine lv_iload_n hx hb dX9_judge_0 rfl (lv_at hl 1 rfl) ?_
  refine lv_iconst (v := (1 : Int32)) hx hb dX9_judge_1 (by decide) ?_
  refine lv_icmp_lt (tgt := 10) hx hb dX9_judge_2 (by decide) (fun hc => ?_) (fun hc => ?_)
  · replace h := if_t hc h
    refine lv_bipush (v := (-2 : Int32)) hx hb dX9_judge_10 (by decide) ?_
    cases h
    exact z_iret S hQ hr hw [0, 1, 2, 3, 4, 5, 6, 7, 8, 9, 10, 11, 12, 13, 14, 15, 16, 17, 18, 19, 20, 21] rfl rfl dX9_judge_12
  · replace h := if_f hc h
    refine lv_iload_n hx hb dX9_judge_5 rfl (lv_at hl 1 rfl) ?_
    refine lv_iconst (v := (4 : Int32)) hx hb dX9_judge_6 (by decide) ?_
    refine lv_icmp_le (tgt := 13) hx hb dX9_judge_7 (by decide) (fun hc => ?_) (fun hc => ?_)
    · replace h := if_t hc h
      refine lv_lconst (v := (1 : Int64)) hx hb dX9_judge_13 (by decide) ?_
      refine lv_lstore (lv' := [(4, .long (1 : Int64)), (0, .ref a_this), (1, .int y1), (2, .long y2)]) hx hb dX9_judge_14 hl (by decide) rfl (fun ls hl => ?_)
      refine lv_iconst (v := (0 : Int32)) hx hb dX9_judge_16 (by decide) ?_
      refine lv_istore (lv' := [(6, .int (0 : Int32)), (4, .long (1 : Int64)), (0, .ref a_this), (1, .int y1), (2, .long y2)]) hx hb dX9_judge_17 hl (by decide) rfl (fun ls hl => ?_)
      obtain ⟨j39_1, ej39_1, h⟩ := bnd_ex h
      have hj39_1 : ∀ (x4_1 : Int64) (H : Heap) (locs : List Loc) (ls : Array Slot), j39_1 x4_1 = some (rr, o_table_madeFor, o_trial_kinds, o_trial_delays, o_table_levels_links, o_table_levels_sureLinks, o_table_sureLinks, o_table_risers, o_table_fallers, o_table_captured, o_table_levels_of) → Wd D (tyA cI cJ cZ cS) A s [(a_this, .inr (9, [.ref a_script, .ref a_acts, .ref a_sightings, .ref a_now, .ref a_trial, .ref a_slots, .ref a_levels, .ref a_table, .ref a_waves, .ref a_spans, .ref a_net, .ref a_draft, .long i_this_lastDraw])), (a_now, .inr (5, [.ref a_now_kinds, .ref a_now_delays, .int i_now_held])), (a_trial, .inr (5, [.ref a_trial_kinds, .ref a_trial_delays, .int i_trial_held])), (a_net, .inr (2, [.int i_net_inputs, .int i_net_gates, .int i_net_paths, .ref a_net_told, .ref a_net_lefts, .ref a_net_rights, .ref a_net_nexts, .ref a_net_starts, .ref a_net_sizes, .ref a_net_steps, .ref a_net_links])), (a_table, .inr (3, [.ref a_table_levels, .ref a_table_sureLinks, .ref a_table_risers, .ref a_table_fallers, .ref a_table_captured, .int i_table_madeFor])), (a_now_kinds, .inl (cI, 8, .inl k_now_kinds)), (a_trial_kinds, .inl (cI, 8, .inl k_trial_kinds)), (a_now_delays, .inl (cI, 8, .inl k_now_delays)), (a_trial_delays, .inl (cI, 8, .inl k_trial_delays)), (a_table_levels, .inr (1, [.ref a_table_levels_of, .int i_table_levels_links, .int i_table_levels_sureLinks])), (a_net_sizes, .inl (cI, 55, .inl k_net_sizes)), (a_net_steps, .inl (cI, 440, .inl k_net_steps)), (a_table_sureLinks, .inl (cI, 256, .inl k_table_sureLinks)), (a_table_risers, .inl (cJ, 256, .inr (.inl k_table_risers))), (a_table_fallers, .inl (cJ, 256, .inr (.inl k_table_fallers))), (a_net_lefts, .inl (cI, 8, .inl k_net_lefts)), (a_net_rights, .inl (cI, 8, .inl k_net_rights)), (a_net_nexts, .inl (cI, 4, .inl k_net_nexts)), (a_table_captured, .inl (cI, 16, .inl k_table_captured)), (a_net_links, .inl (cI, 55, .inl k_net_links)), (a_net_starts, .inl (cI, 55, .inl k_net_starts)), (a_table_levels_of, .inl (cI, 18, .inl k_table_levels_of))] H locs → lv_has ls 8 [(0, .ref a_this), (1, .int y1), (2, .long y2), (4, .long x4_1)] → W p l e rmX9_judge s m args below meth c H locs 0 0 Q (F0 m 39 ls []) := by
        intro x4_1 H locs ls h hw hl
        replace h := ap1 ej39_1 h
        refine lv_lload_n hx hb dX9_judge_39 rfl (lv_at hl 2 rfl) ?_
        refine lv_lconst (v := (0 : Int64)) hx hb dX9_judge_40 (by decide) ?_
        refine W.lcmp hx hb dX9_judge_41 ?_
        refine lv_if_lt (tgt := 52) hx hb dX9_judge_42 (by decide) (fun hc => ?_) (fun hc => ?_)
        · replace h := if_t hc h
          refine lv_bipush (v := (-2 : Int32)) hx hb dX9_judge_52 (by decide) ?_
          cases h
          exact z_iret S hQ hr hw [0, 1, 2, 3, 4, 5, 6, 7, 8, 9, 10, 11, 12, 13, 14, 15, 16, 17, 18, 19, 20, 21] rfl rfl dX9_judge_54
        · replace h := if_f hc h
          refine lv_lload_n hx hb dX9_judge_45 rfl (lv_at hl 2 rfl) ?_
          refine lv_lload hx hb dX9_judge_46 (lv_at hl 3 rfl) ?_
          refine W.lcmp hx hb dX9_judge_48 ?_
          refine lv_if_lt (tgt := 55) hx hb dX9_judge_49 (by decide) (fun hc => ?_) (fun hc => ?_)
          · replace h := if_t hc h
            refine lv_aload_n hx hb dX9_judge_55 rfl (lv_at hl 0 rfl) ?_
            refine z_get S hw F37 0 rfl rfl dX9_judge_56 ?_
            refine lv_aload_n hx hb dX9_judge_59 rfl (lv_at hl 0 rfl) ?_
            refine z_get S hw F33 0 rfl rfl dX9_judge_60 ?_
            obtain ⟨k_trial_kinds_2, k_trial_delays_3, e63_1, h⟩ := obd2_el h
            refine zc_VV (As := [.ref a_now]) (rest := []) (wr := [(a_this, .inr (9, [.ref a_script, .ref a_acts, .ref a_sightings, .ref a_now, .ref a_trial, .ref a_slots, .ref a_levels, .ref a_table, .ref a_waves, .ref a_spans, .ref a_net, .ref a_draft, .long i_this_lastDraw])), (a_net, .inr (2, [.int i_net_inputs, .int i_net_gates, .int i_net_paths, .ref a_net_told, .ref a_net_lefts, .ref a_net_rights, .ref a_net_nexts, .ref a_net_starts, .ref a_net_sizes, .ref a_net_steps, .ref a_net_links])), (a_table, .inr (3, [.ref a_table_levels, .ref a_table_sureLinks, .ref a_table_risers, .ref a_table_fallers, .ref a_table_captured, .int i_table_madeFor])), (a_table_levels, .inr (1, [.ref a_table_levels_of, .int i_table_levels_links, .int i_table_levels_sureLinks])), (a_net_sizes, .inl (cI, 55, .inl k_net_sizes)), (a_net_steps, .inl (cI, 440, .inl k_net_steps)), (a_table_sureLinks, .inl (cI, 256, .inl k_table_sureLinks)), (a_table_risers, .inl (cJ, 256, .inr (.inl k_table_risers))), (a_table_fallers, .inl (cJ, 256, .inr (.inl k_table_fallers))), (a_net_lefts, .inl (cI, 8, .inl k_net_lefts)), (a_net_rights, .inl (cI, 8, .inl k_net_rights)), (a_net_nexts, .inl (cI, 4, .inl k_net_nexts)), (a_table_captured, .inl (cI, 16, .inl k_table_captured)), (a_net_links, .inl (cI, 55, .inl k_net_links)), (a_net_starts, .inl (cI, 55, .inl k_net_starts)), (a_table_levels_of, .inl (cI, 18, .inl k_table_levels_of))]) (q0 := 0) S hw (c_X5_copyFrom l D cI cJ cZ cS H.size N a_trial a_now a_now_kinds a_trial_kinds a_now_delays a_trial_delays i_trial_held i_now_held k_now_kinds k_trial_kinds k_now_delays k_trial_delays k_trial_kinds_2 k_trial_delays_3 e63_1) (cwV 1 hts gX9_judge_X5_copyFrom rfl rfl rfl dv_X5_copyFrom ⟨Nat.le_of_ble_eq_true rfl, Nat.le_of_ble_eq_true rfl⟩) [2, 1, 5, 6, 7, 8] [0, 3, 4, 9, 10, 11, 12, 13, 14, 15, 16, 17, 18, 19, 20, 21] rfl rfl rfl rfl (by decide) rfl rfl rfl rfl hl.1 rfl (Nat.le_of_ble_eq_true rfl) dX9_judge_63 ⟨Nat.zero_le _, Nat.zero_le _⟩ (fun H locs hw => ?_)
            refine lv_iconst (v := (0 : Int32)) hx hb dX9_judge_66 (by decide) ?_
            refine lv_istore (lv' := [(6, .int (0 : Int32)), (0, .ref a_this), (1, .int y1), (2, .long y2), (4, .long x4_1)]) hx hb dX9_judge_67 hl (by decide) rfl (fun ls hl => ?_)
            obtain ⟨j116_1, ej116_1, h⟩ := bnd_ex h
            have hj116_1 : ∀ (i_table_madeFor_4 : Int32) (k_trial_kinds_5 : (Nat → Int32)) (k_trial_delays_6 : (Nat → Int32)) (i_table_levels_links_7 : Int32) (i_table_levels_sureLinks_8 : Int32) (k_table_sureLinks_9 : (Nat → Int32)) (k_table_risers_10 : (Nat → Int64)) (k_table_fallers_11 : (Nat → Int64)) (k_table_captured_12 : (Nat → Int32)) (k_table_levels_of_13 : (Nat → Int32)) (H : Heap) (locs : List Loc) (ls : Array Slot), j116_1 i_table_madeFor_4 k_trial_kinds_5 k_trial_delays_6 i_table_levels_links_7 i_table_levels_sureLinks_8 k_table_sureLinks_9 k_table_risers_10 k_table_fallers_11 k_table_captured_12 k_table_levels_of_13 = some (rr, o_table_madeFor, o_trial_kinds, o_trial_delays, o_table_levels_links, o_table_levels_sureLinks, o_table_sureLinks, o_table_risers, o_table_fallers, o_table_captured, o_table_levels_of) → Wd D (tyA cI cJ cZ cS) A s [(a_this, .inr (9, [.ref a_script, .ref a_acts, .ref a_sightings, .ref a_now, .ref a_trial, .ref a_slots, .ref a_levels, .ref a_table, .ref a_waves, .ref a_spans, .ref a_net, .ref a_draft, .long i_this_lastDraw])), (a_now, .inr (5, [.ref a_now_kinds, .ref a_now_delays, .int i_now_held])), (a_trial, .inr (5, [.ref a_trial_kinds, .ref a_trial_delays, .int i_trial_held])), (a_net, .inr (2, [.int i_net_inputs, .int i_net_gates, .int i_net_paths, .ref a_net_told, .ref a_net_lefts, .ref a_net_rights, .ref a_net_nexts, .ref a_net_starts, .ref a_net_sizes, .ref a_net_steps, .ref a_net_links])), (a_table, .inr (3, [.ref a_table_levels, .ref a_table_sureLinks, .ref a_table_risers, .ref a_table_fallers, .ref a_table_captured, .int i_table_madeFor_4])), (a_now_kinds, .inl (cI, 8, .inl k_now_kinds)), (a_trial_kinds, .inl (cI, 8, .inl k_trial_kinds_5)), (a_now_delays, .inl (cI, 8, .inl k_now_delays)), (a_trial_delays, .inl (cI, 8, .inl k_trial_delays_6)), (a_table_levels, .inr (1, [.ref a_table_levels_of, .int i_table_levels_links_7, .int i_table_levels_sureLinks_8])), (a_net_sizes, .inl (cI, 55, .inl k_net_sizes)), (a_net_steps, .inl (cI, 440, .inl k_net_steps)), (a_table_sureLinks, .inl (cI, 256, .inl k_table_sureLinks_9)), (a_table_risers, .inl (cJ, 256, .inr (.inl k_table_risers_10))), (a_table_fallers, .inl (cJ, 256, .inr (.inl k_table_fallers_11))), (a_net_lefts, .inl (cI, 8, .inl k_net_lefts)), (a_net_rights, .inl (cI, 8, .inl k_net_rights)), (a_net_nexts, .inl (cI, 4, .inl k_net_nexts)), (a_table_captured, .inl (cI, 16, .inl k_table_captured_12)), (a_net_links, .inl (cI, 55, .inl k_net_links)), (a_net_starts, .inl (cI, 55, .inl k_net_starts)), (a_table_levels_of, .inl (cI, 18, .inl k_table_levels_of_13))] H locs → lv_has ls 8 [] → W p l e rmX9_judge s m args below meth c H locs 0 0 Q (F0 m 116 ls []) := by
              intro i_table_madeFor_4 k_trial_kinds_5 k_trial_delays_6 i_table_levels_links_7 i_table_levels_sureLinks_8 k_table_sureLinks_9 k_table_risers_10 k_table_fallers_11 k_table_captured_12 k_table_levels_of_13 H locs ls h hw hl
              replace h := ap10 ej116_1 h
              refine lv_bipush (v := (-9 : Int32)) hx hb dX9_judge_116 (by decide) ?_
              cases h
              exact z_iret S hQ hr hw [0, 1, 2, 3, 4, 5, 6, 7, 8, 9, 10, 11, 12, 13, 14, 15, 16, 17, 18, 19, 20, 21] rfl rfl dX9_judge_118
            have hL69_1 : ∀ (nf : Nat) (x4_14 : Int64) (x6_15 : Int32) (i_table_madeFor_16 : Int32) (k_trial_kinds_17 : (Nat → Int32)) (k_trial_delays_18 : (Nat → Int32)) (i_table_levels_links_19 : Int32) (i_table_levels_sureLinks_20 : Int32) (k_table_sureLinks_21 : (Nat → Int32)) (k_table_risers_22 : (Nat → Int64)) (k_table_fallers_23 : (Nat → Int64)) (k_table_captured_24 : (Nat → Int32)) (k_table_levels_of_25 : (Nat → Int32)) (H : Heap) (locs : List Loc) (ls : Array Slot), f_X9_judge_L69 N y1 y2 i_net_inputs i_net_gates i_net_paths k_net_sizes k_net_steps k_net_lefts k_net_rights k_net_nexts k_net_links k_net_starts j116_1 nf x4_14 x6_15 i_table_madeFor_16 k_trial_kinds_17 k_trial_delays_18 i_table_levels_links_19 i_table_levels_sureLinks_20 k_table_sureLinks_21 k_table_risers_22 k_table_fallers_23 k_table_captured_24 k_table_levels_of_25 = some (rr, o_table_madeFor, o_trial_kinds, o_trial_delays, o_table_levels_links, o_table_levels_sureLinks, o_table_sureLinks, o_table_risers, o_table_fallers, o_table_captured, o_table_levels_of) → Wd D (tyA cI cJ cZ cS) A s [(a_this, .inr (9, [.ref a_script, .ref a_acts, .ref a_sightings, .ref a_now, .ref a_trial, .ref a_slots, .ref a_levels, .ref a_table, .ref a_waves, .ref a_spans, .ref a_net, .ref a_draft, .long i_this_lastDraw])), (a_now, .inr (5, [.ref a_now_kinds, .ref a_now_delays, .int i_now_held])), (a_trial, .inr (5, [.ref a_trial_kinds, .ref a_trial_delays, .int i_trial_held])), (a_net, .inr (2, [.int i_net_inputs, .int i_net_gates, .int i_net_paths, .ref a_net_told, .ref a_net_lefts, .ref a_net_rights, .ref a_net_nexts, .ref a_net_starts, .ref a_net_sizes, .ref a_net_steps, .ref a_net_links])), (a_table, .inr (3, [.ref a_table_levels, .ref a_table_sureLinks, .ref a_table_risers, .ref a_table_fallers, .ref a_table_captured, .int i_table_madeFor_16])), (a_now_kinds, .inl (cI, 8, .inl k_now_kinds)), (a_trial_kinds, .inl (cI, 8, .inl k_trial_kinds_17)), (a_now_delays, .inl (cI, 8, .inl k_now_delays)), (a_trial_delays, .inl (cI, 8, .inl k_trial_delays_18)), (a_table_levels, .inr (1, [.ref a_table_levels_of, .int i_table_levels_links_19, .int i_table_levels_sureLinks_20])), (a_net_sizes, .inl (cI, 55, .inl k_net_sizes)), (a_net_steps, .inl (cI, 440, .inl k_net_steps)), (a_table_sureLinks, .inl (cI, 256, .inl k_table_sureLinks_21)), (a_table_risers, .inl (cJ, 256, .inr (.inl k_table_risers_22))), (a_table_fallers, .inl (cJ, 256, .inr (.inl k_table_fallers_23))), (a_net_lefts, .inl (cI, 8, .inl k_net_lefts)), (a_net_rights, .inl (cI, 8, .inl k_net_rights)), (a_net_nexts, .inl (cI, 4, .inl k_net_nexts)), (a_table_captured, .inl (cI, 16, .inl k_table_captured_24)), (a_net_links, .inl (cI, 55, .inl k_net_links)), (a_net_starts, .inl (cI, 55, .inl k_net_starts)), (a_table_levels_of, .inl (cI, 18, .inl k_table_levels_of_25))] H locs → lv_has ls 8 [(0, .ref a_this), (1, .int y1), (2, .long y2), (4, .long x4_14), (6, .int x6_15)] → W p l e rmX9_judge s m args below meth c H locs 0 0 Q (F0 m 69 ls []) := by
              intro nf
              induction nf with
              | zero =>
                intro x4_14 x6_15 i_table_madeFor_16 k_trial_kinds_17 k_trial_delays_18 i_table_levels_links_19 i_table_levels_sureLinks_20 k_table_sureLinks_21 k_table_risers_22 k_table_fallers_23 k_table_captured_24 k_table_levels_of_25 H locs ls h
                rw [f_X9_judge_L69] at h
                cases h
              | succ n_69 ih_69 =>
                intro x4_14 x6_15 i_table_madeFor_16 k_trial_kinds_17 k_trial_delays_18 i_table_levels_links_19 i_table_levels_sureLinks_20 k_table_sureLinks_21 k_table_risers_22 k_table_fallers_23 k_table_captured_24 k_table_levels_of_25 H locs ls h hw hl
                rw [f_X9_judge_L69] at h
                refine lv_iload hx hb dX9_judge_69 (lv_at hl 4 rfl) ?_
                refine lv_iload_n hx hb dX9_judge_71 rfl (lv_at hl 1 rfl) ?_
                refine lv_icmp_ge (tgt := 116) hx hb dX9_judge_72 (by decide) (fun hc => ?_) (fun hc => ?_)
                · replace h := if_t hc h
                  exact hj116_1 i_table_madeFor_16 k_trial_kinds_17 k_trial_delays_18 i_table_levels_links_19 i_table_levels_sureLinks_20 k_table_sureLinks_21 k_table_risers_22 k_table_fallers_23 k_table_captured_24 k_table_levels_of_25 H locs ls h hw (lv_sub hl [] rfl)
                · replace h := if_f hc h
                  refine lv_lload hx hb dX9_judge_75 (lv_at hl 3 rfl) ?_
                  refine lv_ldc2 (v := (10000 : Int64)) hx hb S.1.2.2.2.1 (hts (.constantLong RX9 204 (10000)) (List.mem_of_getElem? (i := 1) rfl)) dX9_judge_77 ?_
                  refine lv_ldiv hx hb dX9_judge_80 (by decide) ?_
                  refine lv_topl (fun x4_26 ex4_26 => ?_)
                  replace h := bnd_at ex4_26 h
                  refine lv_lstore (lv' := [(4, .long x4_26), (0, .ref a_this), (1, .int y1), (2, .long y2), (6, .int x6_15)]) hx hb dX9_judge_81 hl (by decide) rfl (fun ls hl => ?_)
                  refine lv_lload_n hx hb dX9_judge_83 rfl (lv_at hl 3 rfl) ?_
                  refine lv_lload hx hb dX9_judge_84 (lv_at hl 0 rfl) ?_
                  refine lv_lconst (v := (1 : Int64)) hx hb dX9_judge_86 (by decide) ?_
                  refine va_mmax_long hx hb (hl.1.symm ▸ S.1.2.2.1) S.1.2.2.2.1 (hts (.methodLink RX9 210 Lib.MathLoose.max_long.x) (List.mem_of_getElem? (i := 4) rfl)) (hts (.static Lib.MathLoose.max_long.x) (List.mem_of_getElem? (i := 5) rfl)) (hts (.initialized "java/lang/Math") (List.mem_of_getElem? (i := 6) rfl)) (hts (.code Lib.MathLoose.max_long.x Lib.MathLoose.max_long.code 4 (some .long)) (List.mem_of_getElem? (i := 7) rfl)) (Nat.le_of_ble_eq_true rfl) (Nat.le_of_ble_eq_true rfl) (Nat.zero_le _) (Nat.zero_le _) dX9_judge_87 ?_
                  obtain ⟨hg, h⟩ := grd_el h
                  refine lv_ldiv hx hb dX9_judge_90 (nzL_ne hg) ?_
                  refine lv_ldc2 (v := (10000 : Int64)) hx hb S.1.2.2.2.1 (hts (.constantLong RX9 204 (10000)) (List.mem_of_getElem? (i := 1) rfl)) dX9_judge_91 ?_
                  refine lv_lrem hx hb dX9_judge_94 (by decide) ?_
                  refine lv_l2i hx hb dX9_judge_95 rfl ?_
                  refine lv_topi (fun x7_27 ex7_27 => ?_)
                  replace h := bnd_at ex7_27 h
                  refine lv_istore (lv' := [(7, .int x7_27), (4, .long x4_26), (0, .ref a_this), (1, .int y1), (2, .long y2), (6, .int x6_15)]) hx hb dX9_judge_96 hl (by decide) rfl (fun ls hl => ?_)
                  refine lv_aload_n hx hb dX9_judge_98 rfl (lv_at hl 2 rfl) ?_
                  refine lv_iload hx hb dX9_judge_99 (lv_at hl 0 rfl) ?_
                  obtain ⟨r_28, i_table_madeFor_29, k_trial_delays_30, k_trial_kinds_31, i_table_levels_links_32, i_table_levels_sureLinks_33, k_table_sureLinks_34, k_table_risers_35, k_table_fallers_36, k_table_captured_37, k_table_levels_of_38, e101_1, h⟩ := obd11_el h
                  refine zc_VI (As := [.int x7_27]) (rest := []) (wr := [(a_now, .inr (5, [.ref a_now_kinds, .ref a_now_delays, .int i_now_held])), (a_now_kinds, .inl (cI, 8, .inl k_now_kinds)), (a_now_delays, .inl (cI, 8, .inl k_now_delays))]) (q0 := 0) S hw (c_X9_canBe l D cI cJ cZ cS H.size N a_this a_trial a_net a_table a_trial_delays a_trial_kinds a_net_sizes a_net_steps a_table_levels a_table_sureLinks a_table_risers a_table_fallers a_net_lefts a_net_rights a_net_nexts a_table_captured a_net_links a_net_starts a_table_levels_of a_script a_acts a_sightings a_now a_slots a_levels a_waves a_spans a_draft a_net_told i_this_lastDraw i_trial_held i_net_inputs i_net_gates i_net_paths i_table_madeFor_16 k_trial_delays_18 k_trial_kinds_17 k_net_sizes k_net_steps i_table_levels_links_19 i_table_levels_sureLinks_20 k_table_sureLinks_21 k_table_risers_22 k_table_fallers_23 k_net_lefts k_net_rights k_net_nexts k_table_captured_24 k_net_links k_net_starts k_table_levels_of_25 x7_27 r_28 i_table_madeFor_29 k_trial_delays_30 k_trial_kinds_31 i_table_levels_links_32 i_table_levels_sureLinks_33 k_table_sureLinks_34 k_table_risers_35 k_table_fallers_36 k_table_captured_37 k_table_levels_of_38 e101_1) (cwV 1 hts gX9_judge_X9_canBe rfl rfl rfl dv_X9_canBe ⟨Nat.le_of_ble_eq_true rfl, Nat.le_of_ble_eq_true rfl⟩) [0, 2, 3, 4, 8, 6, 10, 11, 9, 12, 13, 14, 15, 16, 17, 18, 19, 20, 21] [1, 5, 7] rfl rfl rfl rfl (by decide) rfl rfl rfl rfl hl.1 rfl (Nat.le_of_ble_eq_true rfl) dX9_judge_101 ⟨Nat.zero_le _, Nat.zero_le _⟩ (fun H locs hw => ?_)
                  refine lv_if_ne (tgt := 110) hx hb dX9_judge_104 (by decide) (fun hc => ?_) (fun hc => ?_)
                  · replace h := if_f hc h
                    obtain ⟨x6_39, ex6_39, h⟩ := bnd_ex h
                    refine lv_iinc (v := x6_39) (lv' := [(6, .int x6_39), (7, .int x7_27), (4, .long x4_26), (0, .ref a_this), (1, .int y1), (2, .long y2)]) hx hb dX9_judge_110 hl (k := 5) rfl (by rw [ex6_39]; rfl) (by decide) rfl (fun ls hl => ?_)
                    refine lv_goto (tgt := 69) hx hb dX9_judge_113 (by decide) ?_
                    exact ih_69 x4_26 x6_39 i_table_madeFor_29 k_trial_kinds_31 k_trial_delays_30 i_table_levels_links_32 i_table_levels_sureLinks_33 k_table_sureLinks_34 k_table_risers_35 k_table_fallers_36 k_table_captured_37 k_table_levels_of_38 H locs ls h (hw.sub [3, 0, 4, 5, 6, 1, 8, 2, 7, 11, 9, 10, 12, 13, 14, 15, 16, 17, 18, 19, 20, 21] rfl rfl) (lv_sub hl [3, 4, 5, 2, 0] rfl)
                  · replace h := if_t hc h
                    refine lv_iload hx hb dX9_judge_107 (lv_at hl 5 rfl) ?_
                    cases h
                    exact z_iret S hQ hr hw [3, 0, 4, 5, 6, 1, 8, 2, 7, 11, 9, 10, 12, 13, 14, 15, 16, 17, 18, 19, 20, 21] rfl rfl dX9_judge_109
            exact hL69_1 N x4_1 ((0 : Int32)) i_table_madeFor k_trial_kinds_2 k_trial_delays_3 i_table_levels_links i_table_levels_sureLinks k_table_sureLinks k_table_risers k_table_fallers k_table_captured k_table_levels_of H locs ls h (hw.sub [0, 17, 16, 1, 2, 18, 19, 20, 21, 3, 4, 5, 6, 7, 8, 9, 10, 11, 12, 13, 14, 15] rfl rfl) (lv_sub hl [1, 2, 3, 4, 0] rfl)
          · replace h := if_f hc h
            refine lv_bipush (v := (-2 : Int32)) hx hb dX9_judge_52 (by decide) ?_
            cases h
            exact z_iret S hQ hr hw [0, 1, 2, 3, 4, 5, 6, 7, 8, 9, 10, 11, 12, 13, 14, 15, 16, 17, 18, 19, 20, 21] rfl rfl dX9_judge_54
      have hL19_1 : ∀ (nf : Nat) (x4_40 : Int64) (x6_41 : Int32) (H : Heap) (locs : List Loc) (ls : Array Slot), f_X9_judge_L19 N y1 j39_1 nf x4_40 x6_41 = some (rr, o_table_madeFor, o_trial_kinds, o_trial_delays, o_table_levels_links, o_table_levels_sureLinks, o_table_sureLinks, o_table_risers, o_table_fallers, o_table_captured, o_table_levels_of) → Wd D (tyA cI cJ cZ cS) A s [(a_this, .inr (9, [.ref a_script, .ref a_acts, .ref a_sightings, .ref a_now, .ref a_trial, .ref a_slots, .ref a_levels, .ref a_table, .ref a_waves, .ref a_spans, .ref a_net, .ref a_draft, .long i_this_lastDraw])), (a_now, .inr (5, [.ref a_now_kinds, .ref a_now_delays, .int i_now_held])), (a_trial, .inr (5, [.ref a_trial_kinds, .ref a_trial_delays, .int i_trial_held])), (a_net, .inr (2, [.int i_net_inputs, .int i_net_gates, .int i_net_paths, .ref a_net_told, .ref a_net_lefts, .ref a_net_rights, .ref a_net_nexts, .ref a_net_starts, .ref a_net_sizes, .ref a_net_steps, .ref a_net_links])), (a_table, .inr (3, [.ref a_table_levels, .ref a_table_sureLinks, .ref a_table_risers, .ref a_table_fallers, .ref a_table_captured, .int i_table_madeFor])), (a_now_kinds, .inl (cI, 8, .inl k_now_kinds)), (a_trial_kinds, .inl (cI, 8, .inl k_trial_kinds)), (a_now_delays, .inl (cI, 8, .inl k_now_delays)), (a_trial_delays, .inl (cI, 8, .inl k_trial_delays)), (a_table_levels, .inr (1, [.ref a_table_levels_of, .int i_table_levels_links, .int i_table_levels_sureLinks])), (a_net_sizes, .inl (cI, 55, .inl k_net_sizes)), (a_net_steps, .inl (cI, 440, .inl k_net_steps)), (a_table_sureLinks, .inl (cI, 256, .inl k_table_sureLinks)), (a_table_risers, .inl (cJ, 256, .inr (.inl k_table_risers))), (a_table_fallers, .inl (cJ, 256, .inr (.inl k_table_fallers))), (a_net_lefts, .inl (cI, 8, .inl k_net_lefts)), (a_net_rights, .inl (cI, 8, .inl k_net_rights)), (a_net_nexts, .inl (cI, 4, .inl k_net_nexts)), (a_table_captured, .inl (cI, 16, .inl k_table_captured)), (a_net_links, .inl (cI, 55, .inl k_net_links)), (a_net_starts, .inl (cI, 55, .inl k_net_starts)), (a_table_levels_of, .inl (cI, 18, .inl k_table_levels_of))] H locs → lv_has ls 8 [(0, .ref a_this), (1, .int y1), (2, .long y2), (4, .long x4_40), (6, .int x6_41)] → W p l e rmX9_judge s m args below meth c H locs 0 0 Q (F0 m 19 ls []) := by
        intro nf
        induction nf with
        | zero =>
          intro x4_40 x6_41 H locs ls h
          rw [f_X9_judge_L19] at h
          cases h
        | succ n_19 ih_19 =>
          intro x4_40 x6_41 H locs ls h hw hl
          rw [f_X9_judge_L19] at h
          refine lv_iload hx hb dX9_judge_19 (lv_at hl 4 rfl) ?_
          refine lv_iload_n hx hb dX9_judge_21 rfl (lv_at hl 1 rfl) ?_
          refine lv_icmp_ge (tgt := 39) hx hb dX9_judge_22 (by decide) (fun hc => ?_) (fun hc => ?_)
          · replace h := if_t hc h
            exact hj39_1 x4_40 H locs ls h hw (lv_sub hl [0, 1, 2, 3] rfl)
          · replace h := if_f hc h
            refine lv_lload hx hb dX9_judge_25 (lv_at hl 3 rfl) ?_
            refine lv_ldc2 (v := (10000 : Int64)) hx hb S.1.2.2.2.1 (hts (.constantLong RX9 204 (10000)) (List.mem_of_getElem? (i := 1) rfl)) dX9_judge_27 ?_
            refine lv_lmul hx hb dX9_judge_30 ?_
            refine lv_topl (fun x4_42 ex4_42 => ?_)
            replace h := bnd_at ex4_42 h
            refine lv_lstore (lv' := [(4, .long x4_42), (0, .ref a_this), (1, .int y1), (2, .long y2), (6, .int x6_41)]) hx hb dX9_judge_31 hl (by decide) rfl (fun ls hl => ?_)
            obtain ⟨x6_43, ex6_43, h⟩ := bnd_ex h
            refine lv_iinc (v := x6_43) (lv' := [(6, .int x6_43), (4, .long x4_42), (0, .ref a_this), (1, .int y1), (2, .long y2)]) hx hb dX9_judge_33 hl (k := 4) rfl (by rw [ex6_43]; rfl) (by decide) rfl (fun ls hl => ?_)
            refine lv_goto (tgt := 19) hx hb dX9_judge_36 (by decide) ?_
            exact ih_19 x4_42 x6_43 H locs ls h hw (lv_sub hl [2, 3, 4, 1, 0] rfl)
      exact hL19_1 N ((1 : Int64)) ((0 : Int32)) H locs ls h hw (lv_sub hl [2, 3, 4, 1, 0] rfl)
    · replace h := if_f hc h
      refine lv_bipush (v := (-2 : Int32)) hx hb dX9_judge_10 (by decide) ?_
      cases h
      exact z_iret S hQ hr hw [0, 1, 2, 3, 4, 5, 6, 7, 8, 9, 10, 11, 12, 13, 14, 15, 16, 17, 18, 19, 20, 21] rfl rfl dX9_judge_12
abbrev rmX9_see : Room := { frames := 1, cells := 0, slots := 0, locals := 23 }
theorem dv_X9_see : yX9_see.cls = RX9 ∧ yX9_see.cls ≠ "java/lang/invoke/MethodHandle" ∧ yX9_see.cls ≠ "java/lang/invoke/VarHandle" ∧ (parseMethodDescriptor yX9_see.desc).map (fun d => d.parameters.length) = some 3 := by decide +kernel
noncomputable def f_X9_see (N : Nat) (y1 : Int32) (y2 : Int32) (y3 : Int32) (i_sightings_size : Int32) (k_sightings_pairs : (Nat → Int32)) (k_sightings_times : (Nat → Int32)) (k_sightings_lates : (Nat → Int32)) : Option (Int32 × Int32 × (Nat → Int32) × (Nat → Int32) × (Nat → Int32)) :=
  (if y1 < (0 : Int32) then (some ((-2 : Int32), i_sightings_size, k_sightings_pairs, k_sightings_times, k_sightings_lates)) else ((if (256 : Int32) ≤ y1 then (some ((-2 : Int32), i_sightings_size, k_sightings_pairs, k_sightings_times, k_sightings_lates)) else ((if y2 < (0 : Int32) then (some ((-2 : Int32), i_sightings_size, k_sightings_pairs, k_sightings_times, k_sightings_lates)) else ((if (99 : Int32) < y2 then (some ((-2 : Int32), i_sightings_size, k_sightings_pairs, k_sightings_times, k_sightings_lates)) else ((if y3 < (0 : Int32) then (some ((-2 : Int32), i_sightings_size, k_sightings_pairs, k_sightings_times, k_sightings_lates)) else ((if y3 ≤ (1 : Int32) then ((if i_sightings_size < (6 : Int32) then (obd4 (f_X6_add N y1 y2 y3 i_sightings_size k_sightings_pairs k_sightings_times k_sightings_lates) fun (i_sightings_size_1 : Int32) (k_sightings_pairs_2 : (Nat → Int32)) (k_sightings_times_3 : (Nat → Int32)) (k_sightings_lates_4 : (Nat → Int32)) => some (i_sightings_size_1, i_sightings_size_1, k_sightings_pairs_2, k_sightings_times_3, k_sightings_lates_4)) else (some ((-4 : Int32), i_sightings_size, k_sightings_pairs, k_sightings_times, k_sightings_lates)))) else (some ((-2 : Int32), i_sightings_size, k_sightings_pairs, k_sightings_times, k_sightings_lates)))))))))))))
set_option maxHeartbeats 4000000 in
set_option maxRecDepth 100000 in
theorem c_X9_see (l : Launch) (D : va_G) (cI cJ cZ cS : ClassId) (sz N : Nat) (a_this a_sightings a_sightings_pairs a_sightings_times a_sightings_lates a_script a_acts a_now a_trial a_slots a_levels a_table a_waves a_spans a_net a_draft : Nat) (i_this_lastDraw : Int64) (i_sightings_size : Int32) (k_sightings_pairs : (Nat → Int32)) (k_sightings_times : (Nat → Int32)) (k_sightings_lates : (Nat → Int32)) (y1 : Int32) (y2 : Int32) (y3 : Int32) (rr : Int32) (o_sightings_size : Int32) (o_sightings_pairs : (Nat → Int32)) (o_sightings_times : (Nat → Int32)) (o_sightings_lates : (Nat → Int32)) (hf : f_X9_see N y1 y2 y3 i_sightings_size k_sightings_pairs k_sightings_times k_sightings_lates = some (rr, o_sightings_size, o_sightings_pairs, o_sightings_times, o_sightings_lates)) : MetI l yX9_see wsX9_see rmX9_see D (tyA cI cJ cZ cS) [(a_this, .inr (9, [.ref a_script, .ref a_acts, .ref a_sightings, .ref a_now, .ref a_trial, .ref a_slots, .ref a_levels, .ref a_table, .ref a_waves, .ref a_spans, .ref a_net, .ref a_draft, .long i_this_lastDraw])), (a_sightings, .inr (6, [.ref a_sightings_pairs, .ref a_sightings_times, .ref a_sightings_lates, .int i_sightings_size])), (a_sightings_pairs, .inl (cI, 6, .inl k_sightings_pairs)), (a_sightings_times, .inl (cI, 6, .inl k_sightings_times)), (a_sightings_lates, .inl (cI, 6, .inl k_sightings_lates))] sz [.ref a_this, .int y1, .int y2, .int y3] rr [(a_this, .inr (9, [.ref a_script, .ref a_acts, .ref a_sightings, .ref a_now, .ref a_trial, .ref a_slots, .ref a_levels, .ref a_table, .ref a_waves, .ref a_spans, .ref a_net, .ref a_draft, .long i_this_lastDraw])), (a_sightings, .inr (6, [.ref a_sightings_pairs, .ref a_sightings_times, .ref a_sightings_lates, .int o_sightings_size])), (a_sightings_pairs, .inl (cI, 6, .inl o_sightings_pairs)), (a_sightings_times, .inl (cI, 6, .inl o_sightings_times)), (a_sightings_lates, .inl (cI, 6, .inl o_sightings_lates))] := by
  refine entI (cc := cX9_see) (maxL := 4) (own := RX9) (by decide) rfl rfl (Nat.le_of_ble_eq_true rfl) ?_
  intro p e s m args below meth c A ls Q H locs S hr hw hl hQ
  have hx := S.1.1
  have hb := S.1.2.1
  have hts := S.1.2.2.2.2
  have hl : lv_has ls 4 [(0, .ref a_this), (1, .int y1), (2, .int y2), (3, .int y3)] := hl
  have hinX9 : ∀ w ∈ u_ws RX9 TX9 13, w ∈ wsX9_see := (fun _ h => List.mem_cons_of_mem _ (List.mem_append_left _ (List.mem_append_right _ h)))
  have F26 : FLk s args wsX9_see RX9 26 RX9 TX9 13 9 2 := ⟨hinX9, rfl, by decide, hts (.fieldLink RX9 26 "SlowPaths" "sightings" "LSlowPaths$Sightings;") (List.mem_of_getElem? (i := 1) rfl)⟩
  have hinX6 : ∀ w ∈ u_ws RX6 TX6 4, w ∈ wsX9_see := (fun _ h => List.mem_cons_of_mem _ (List.mem_append_right _ h))
  have F219 : FLk s args wsX9_see RX9 219 RX6 TX6 4 6 3 := ⟨hinX6, rfl, by decide, hts (.fieldLink RX9 219 "SlowPaths$Sightings" "size" "I") (List.mem_of_getElem? (i := 2) rfl)⟩
  have h := hf
  rw [f_X9_see] at h
  refine lv_iload_n hx hb dX9_see_0 rfl (lv_at hl 1 rfl) ?_
  refine lv_if_lt (tgt := 30) hx hb dX9_see_1 (by decide) (fun hc => ?_) (fun hc => ?_)
  · replace h := if_t hc h
    refine lv_bipush (v := (-2 : Int32)) hx hb dX9_see_30 (by decide) ?_
    cases h
    exact z_iret S hQ hr hw [0, 1, 2, 3, 4] rfl rfl dX9_see_32
  · replace h := if_f hc h
    refine lv_iload_n hx hb dX9_see_4 rfl (lv_at hl 1 rfl) ?_
    refine lv_sipush (v := (256 : Int32)) hx hb dX9_see_5 (by decide) ?_
    refine lv_icmp_ge (tgt := 30) hx hb dX9_see_8 (by decide) (fun hc => ?_) (fun hc => ?_)
    · replace h := if_t hc h
      refine lv_bipush (v := (-2 : Int32)) hx hb dX9_see_30 (by decide) ?_
      cases h
      exact z_iret S hQ hr hw [0, 1, 2, 3, 4] rfl rfl dX9_see_32
    · replace h := if_f hc h
      refine lv_iload_n hx hb dX9_see_11 rfl (lv_at hl 2 rfl) ?_
      refine lv_if_lt (tgt := 30) hx hb dX9_see_12 (by decide) (fun hc => ?_) (fun hc => ?_)
      · replace h := if_t hc h
        refine lv_bipush (v := (-2 : Int32)) hx hb dX9_see_30 (by decide) ?_
        cases h
        exact z_iret S hQ hr hw [0, 1, 2, 3, 4] rfl rfl dX9_see_32
      · replace h := if_f hc h
        refine lv_iload_n hx hb dX9_see_15 rfl (lv_at hl 2 rfl) ?_
        refine lv_bipush (v := (99 : Int32)) hx hb dX9_see_16 (by decide) ?_
        refine lv_icmp_gt (tgt := 30) hx hb dX9_see_18 (by decide) (fun hc => ?_) (fun hc => ?_)
        · replace h := if_t hc h
          refine lv_bipush (v := (-2 : Int32)) hx hb dX9_see_30 (by decide) ?_
          cases h
          exact z_iret S hQ hr hw [0, 1, 2, 3, 4] rfl rfl dX9_see_32
        · replace h := if_f hc h
          refine lv_iload_n hx hb dX9_see_21 rfl (lv_at hl 3 rfl) ?_
          refine lv_if_lt (tgt := 30) hx hb dX9_see_22 (by decide) (fun hc => ?_) (fun hc => ?_)
          · replace h := if_t hc h
            refine lv_bipush (v := (-2 : Int32)) hx hb dX9_see_30 (by decide) ?_
            cases h
            exact z_iret S hQ hr hw [0, 1, 2, 3, 4] rfl rfl dX9_see_32
          · replace h := if_f hc h
            refine lv_iload_n hx hb dX9_see_25 rfl (lv_at hl 3 rfl) ?_
            refine lv_iconst (v := (1 : Int32)) hx hb dX9_see_26 (by decide) ?_
            refine lv_icmp_le (tgt := 33) hx hb dX9_see_27 (by decide) (fun hc => ?_) (fun hc => ?_)
            · replace h := if_t hc h
              refine lv_aload_n hx hb dX9_see_33 rfl (lv_at hl 0 rfl) ?_
              refine z_get S hw F26 0 rfl rfl dX9_see_34 ?_
              refine z_get S hw F219 1 rfl rfl dX9_see_37 ?_
              refine lv_bipush (v := (6 : Int32)) hx hb dX9_see_40 (by decide) ?_
              refine lv_icmp_lt (tgt := 48) hx hb dX9_see_42 (by decide) (fun hc => ?_) (fun hc => ?_)
              · replace h := if_t hc h
                refine lv_aload_n hx hb dX9_see_48 rfl (lv_at hl 0 rfl) ?_
                refine z_get S hw F26 0 rfl rfl dX9_see_49 ?_
                refine lv_iload_n hx hb dX9_see_52 rfl (lv_at hl 1 rfl) ?_
                refine lv_iload_n hx hb dX9_see_53 rfl (lv_at hl 2 rfl) ?_
                refine lv_iload_n hx hb dX9_see_54 rfl (lv_at hl 3 rfl) ?_
                obtain ⟨i_sightings_size_1, k_sightings_pairs_2, k_sightings_times_3, k_sightings_lates_4, e55_1, h⟩ := obd4_el h
                refine zc_VV (As := [.int y1, .int y2, .int y3]) (rest := []) (wr := [(a_this, .inr (9, [.ref a_script, .ref a_acts, .ref a_sightings, .ref a_now, .ref a_trial, .ref a_slots, .ref a_levels, .ref a_table, .ref a_waves, .ref a_spans, .ref a_net, .ref a_draft, .long i_this_lastDraw]))]) (q0 := 0) S hw (c_X6_add l D cI cJ cZ cS H.size N a_sightings a_sightings_pairs a_sightings_times a_sightings_lates i_sightings_size k_sightings_pairs k_sightings_times k_sightings_lates y1 y2 y3 i_sightings_size_1 k_sightings_pairs_2 k_sightings_times_3 k_sightings_lates_4 e55_1) (cwV 3 hts gX9_see_X6_add rfl rfl rfl dv_X6_add ⟨Nat.le_of_ble_eq_true rfl, Nat.le_of_ble_eq_true rfl⟩) [1, 2, 3, 4] [0] rfl rfl rfl rfl (by decide) rfl rfl rfl rfl hl.1 rfl (Nat.le_of_ble_eq_true rfl) dX9_see_55 ⟨Nat.zero_le _, Nat.zero_le _⟩ (fun H locs hw => ?_)
                refine lv_aload_n hx hb dX9_see_58 rfl (lv_at hl 0 rfl) ?_
                refine z_get S hw F26 0 rfl rfl dX9_see_59 ?_
                refine z_get S hw F219 1 rfl rfl dX9_see_62 ?_
                cases h
                exact z_iret S hQ hr hw [0, 1, 2, 3, 4] rfl rfl dX9_see_65
              · replace h := if_f hc h
                refine lv_bipush (v := (-4 : Int32)) hx hb dX9_see_45 (by decide) ?_
                cases h
                exact z_iret S hQ hr hw [0, 1, 2, 3, 4] rfl rfl dX9_see_47
            · replace h := if_f hc h
              refine lv_bipush (v := (-2 : Int32)) hx hb dX9_see_30 (by decide) ?_
              cases h
              exact z_iret S hQ hr hw [0, 1, 2, 3, 4] rfl rfl dX9_see_32
abbrev rmX9_unsee : Room := { frames := 0, cells := 0, slots := 0, locals := 0 }
theorem dv_X9_unsee : yX9_unsee.cls = RX9 ∧ yX9_unsee.cls ≠ "java/lang/invoke/MethodHandle" ∧ yX9_unsee.cls ≠ "java/lang/invoke/VarHandle" ∧ (parseMethodDescriptor yX9_unsee.desc).map (fun d => d.parameters.length) = some 0 := by decide +kernel
noncomputable def f_X9_unsee (N : Nat)  (i_sightings_size : Int32) : Option (Int32 × Int32) :=
  some (i_sightings_size, (0 : Int32))
set_option maxHeartbeats 4000000 in
set_option maxRecDepth 100000 in
theorem c_X9_unsee (l : Launch) (D : va_G) (cI cJ cZ cS : ClassId) (sz N : Nat) (a_this a_sightings a_script a_acts a_now a_trial a_slots a_levels a_table a_waves a_spans a_net a_draft a_sightings_pairs a_sightings_times a_sightings_lates : Nat) (i_this_lastDraw : Int64) (i_sightings_size : Int32)  (rr : Int32) (o_sightings_size : Int32) (hf : f_X9_unsee N i_sightings_size = some (rr, o_sightings_size)) : MetI l yX9_unsee wsX9_unsee rmX9_unsee D (tyA cI cJ cZ cS) [(a_this, .inr (9, [.ref a_script, .ref a_acts, .ref a_sightings, .ref a_now, .ref a_trial, .ref a_slots, .ref a_levels, .ref a_table, .ref a_waves, .ref a_spans, .ref a_net, .ref a_draft, .long i_this_lastDraw])), (a_sightings, .inr (6, [.ref a_sightings_pairs, .ref a_sightings_times, .ref a_sightings_lates, .int i_sightings_size]))] sz [.ref a_this] rr [(a_this, .inr (9, [.ref a_script, .ref a_acts, .ref a_sightings, .ref a_now, .ref a_trial, .ref a_slots, .ref a_levels, .ref a_table, .ref a_waves, .ref a_spans, .ref a_net, .ref a_draft, .long i_this_lastDraw])), (a_sightings, .inr (6, [.ref a_sightings_pairs, .ref a_sightings_times, .ref a_sightings_lates, .int o_sightings_size]))] := by
  refine entI (cc := cX9_unsee) (maxL := 2) (own := RX9) (by decide) rfl rfl (Nat.le_of_ble_eq_true rfl) ?_
  intro p e s m args below meth c A ls Q H locs S hr hw hl hQ
  have hx := S.1.1
  have hb := S.1.2.1
  have hts := S.1.2.2.2.2
  have hl : lv_has ls 2 [(0, .ref a_this)] := hl
  have hinX9 : ∀ w ∈ u_ws RX9 TX9 13, w ∈ wsX9_unsee := (fun _ h => List.mem_cons_of_mem _ (List.mem_append_left _ (List.mem_append_right _ h)))
  have F26 : FLk s args wsX9_unsee RX9 26 RX9 TX9 13 9 2 := ⟨hinX9, rfl, by decide, hts (.fieldLink RX9 26 "SlowPaths" "sightings" "LSlowPaths$Sightings;") (List.mem_of_getElem? (i := 1) rfl)⟩
  have hinX6 : ∀ w ∈ u_ws RX6 TX6 4, w ∈ wsX9_unsee := (fun _ h => List.mem_cons_of_mem _ (List.mem_append_right _ h))
  have F219 : FLk s args wsX9_unsee RX9 219 RX6 TX6 4 6 3 := ⟨hinX6, rfl, by decide, hts (.fieldLink RX9 219 "SlowPaths$Sightings" "size" "I") (List.mem_of_getElem? (i := 2) rfl)⟩
  have P219 : PLk TX6 4 3 tyX6 false .int := ⟨tyX6_ok, nmX6, rfl, rfl⟩
  have h := hf
  rw [f_X9_unsee] at h
  refine lv_aload_n hx hb dX9_unsee_0 rfl (lv_at hl 0 rfl) ?_
  refine z_get S hw F26 0 rfl rfl dX9_unsee_1 ?_
  refine z_get S hw F219 1 rfl rfl dX9_unsee_4 ?_
  refine lv_istore_n (lv' := [(1, .int i_sightings_size), (0, .ref a_this)]) hx hb dX9_unsee_7 rfl hl (by decide) rfl (fun ls hl => ?_)
  refine lv_aload_n hx hb dX9_unsee_8 rfl (lv_at hl 1 rfl) ?_
  refine z_get S hw F26 0 rfl rfl dX9_unsee_9 ?_
  refine lv_iconst (v := (0 : Int32)) hx hb dX9_unsee_12 (by decide) ?_
  refine z_put S hw F219 P219 rfl rfl 1 rfl (Nat.le_of_ble_eq_true rfl) dX9_unsee_13 (fun H locs hw => ?_)
  refine lv_iload_n hx hb dX9_unsee_16 rfl (lv_at hl 0 rfl) ?_
  cases h
  exact z_iret S hQ hr hw [0, 1] rfl rfl dX9_unsee_17
abbrev rmX9_agreesWithSeen : Room := { frames := 2, cells := 0, slots := 0, locals := 53 }
theorem dv_X9_agreesWithSeen : yX9_agreesWithSeen.cls = RX9 ∧ yX9_agreesWithSeen.cls ≠ "java/lang/invoke/MethodHandle" ∧ yX9_agreesWithSeen.cls ≠ "java/lang/invoke/VarHandle" ∧ (parseMethodDescriptor yX9_agreesWithSeen.desc).map (fun d => d.parameters.length) = some 0 := by decide +kernel
noncomputable def f_X9_agreesWithSeen_L2 (N : Nat) (i_sightings_size : Int32) (i_net_inputs : Int32) (i_net_gates : Int32) (k_sightings_pairs : (Nat → Int32)) (k_trial_kinds : (Nat → Int32)) (k_trial_delays : (Nat → Int32)) (k_net_lefts : (Nat → Int32)) (k_net_rights : (Nat → Int32)) (k_sightings_times : (Nat → Int32)) (k_sightings_lates : (Nat → Int32)) (j105_1 : (Nat → Int64) → (Nat → Int64) → (Nat → Int64) → (Nat → Int64) → Option (Int32 × (Nat → Int64) × (Nat → Int64) × (Nat → Int64) × (Nat → Int64))) : Nat → Int32 → (Nat → Int64) → (Nat → Int64) → (Nat → Int64) → (Nat → Int64) → Option (Int32 × (Nat → Int64) × (Nat → Int64) × (Nat → Int64) × (Nat → Int64))
  | 0, _, _, _, _, _ => none
  | n_2 + 1, x1_5, k_waves_before_6, k_waves_after_7, k_waves_low_8, k_waves_high_9 =>
    (if i_sightings_size ≤ x1_5 then (j105_1 k_waves_before_6 k_waves_after_7 k_waves_low_8 k_waves_high_9) else (grd (inb x1_5 6) <| obd1 (f_X2_pairWithin N (k_sightings_pairs x1_5.toNatClampNeg) i_net_inputs) fun (r_10 : Int32) => obd4 (f_X8_run N r_10 i_net_inputs i_net_gates k_trial_kinds k_trial_delays k_net_lefts k_net_rights k_waves_before_6 k_waves_after_7 k_waves_low_8 k_waves_high_9) fun (k_waves_before_11 : (Nat → Int64)) (k_waves_after_12 : (Nat → Int64)) (k_waves_low_13 : (Nat → Int64)) (k_waves_high_14 : (Nat → Int64)) => grd (inb x1_5 6) <| obd1 (f_X8_isLate N (k_sightings_times x1_5.toNatClampNeg) i_net_gates k_waves_high_14 k_waves_low_13 k_waves_after_12) fun (r_15 : Int32) => grd (inb x1_5 6) <| bnd (fun (t_16 : Int32) (t_17 : Int32) => ((if t_17 = t_16 then (bnd (x1_5 + (1 : Int32)) fun (x1_18 : Int32) => f_X9_agreesWithSeen_L2 N i_sightings_size i_net_inputs i_net_gates k_sightings_pairs k_trial_kinds k_trial_delays k_net_lefts k_net_rights k_sightings_times k_sightings_lates j105_1 n_2 x1_18 k_waves_before_11 k_waves_after_12 k_waves_low_13 k_waves_high_14) else (some ((0 : Int32), k_waves_before_11, k_waves_after_12, k_waves_low_13, k_waves_high_14))))) fun (j94_1 : Int32 → Int32 → Option (Int32 × (Nat → Int64) × (Nat → Int64) × (Nat → Int64) × (Nat → Int64))) => (if (k_sightings_lates x1_5.toNatClampNeg) = (1 : Int32) then (j94_1 ((1 : Int32)) r_15) else (j94_1 ((0 : Int32)) r_15))))
noncomputable def f_X9_agreesWithSeen (N : Nat)  (i_sightings_size : Int32) (i_net_inputs : Int32) (i_net_gates : Int32) (k_sightings_pairs : (Nat → Int32)) (k_trial_kinds : (Nat → Int32)) (k_trial_delays : (Nat → Int32)) (k_net_lefts : (Nat → Int32)) (k_net_rights : (Nat → Int32)) (k_waves_before : (Nat → Int64)) (k_waves_after : (Nat → Int64)) (k_waves_low : (Nat → Int64)) (k_waves_high : (Nat → Int64)) (k_sightings_times : (Nat → Int32)) (k_sightings_lates : (Nat → Int32)) : Option (Int32 × (Nat → Int64) × (Nat → Int64) × (Nat → Int64) × (Nat → Int64)) :=
  bnd (fun (k_waves_before_1 : (Nat → Int64)) (k_waves_after_2 : (Nat → Int64)) (k_waves_low_3 : (Nat → Int64)) (k_waves_high_4 : (Nat → Int64)) => (some ((1 : Int32), k_waves_before_1, k_waves_after_2, k_waves_low_3, k_waves_high_4))) fun (j105_1 : (Nat → Int64) → (Nat → Int64) → (Nat → Int64) → (Nat → Int64) → Option (Int32 × (Nat → Int64) × (Nat → Int64) × (Nat → Int64) × (Nat → Int64))) => f_X9_agreesWithSeen_L2 N i_sightings_size i_net_inputs i_net_gates k_sightings_pairs k_trial_kinds k_trial_delays k_net_lefts k_net_rights k_sightings_times k_sightings_lates j105_1 N ((0 : Int32)) k_waves_before k_waves_after k_waves_low k_waves_high
set_option maxHeartbeats 4000000 in
set_option maxRecDepth 100000 in
theorem c_X9_agreesWithSeen (l : Launch) (D : va_G) (cI cJ cZ cS : ClassId) (sz N : Nat) (a_this a_sightings a_trial a_net a_waves a_sightings_pairs a_trial_kinds a_trial_delays a_net_lefts a_net_rights a_waves_before a_waves_after a_waves_low a_waves_high a_sightings_times a_sightings_lates a_script a_acts a_now a_slots a_levels a_table a_spans a_draft a_net_told a_net_nexts a_net_starts a_net_sizes a_net_steps a_net_links : Nat) (i_this_lastDraw : Int64) (i_sightings_size : Int32) (i_trial_held : Int32) (i_net_inputs : Int32) (i_net_gates : Int32) (i_net_paths : Int32) (k_sightings_pairs : (Nat → Int32)) (k_trial_kinds : (Nat → Int32)) (k_trial_delays : (Nat → Int32)) (k_net_lefts : (Nat → Int32)) (k_net_rights : (Nat → Int32)) (k_waves_before : (Nat → Int64)) (k_waves_after : (Nat → Int64)) (k_waves_low : (Nat → Int64)) (k_waves_high : (Nat → Int64)) (k_sightings_times : (Nat → Int32)) (k_sightings_lates : (Nat → Int32))  (rr : Int32) (o_waves_before : (Nat → Int64)) (o_waves_after : (Nat → Int64)) (o_waves_low : (Nat → Int64)) (o_waves_high : (Nat → Int64)) (hf : f_X9_agreesWithSeen N i_sightings_size i_net_inputs i_net_gates k_sightings_pairs k_trial_kinds k_trial_delays k_net_lefts k_net_rights k_waves_before k_waves_after k_waves_low k_waves_high k_sightings_times k_sightings_lates = some (rr, o_waves_before, o_waves_after, o_waves_low, o_waves_high)) : MetI l yX9_agreesWithSeen wsX9_agreesWithSeen rmX9_agreesWithSeen D (tyA cI cJ cZ cS) [(a_this, .inr (9, [.ref a_script, .ref a_acts, .ref a_sightings, .ref a_now, .ref a_trial, .ref a_slots, .ref a_levels, .ref a_table, .ref a_waves, .ref a_spans, .ref a_net, .ref a_draft, .long i_this_lastDraw])), (a_sightings, .inr (6, [.ref a_sightings_pairs, .ref a_sightings_times, .ref a_sightings_lates, .int i_sightings_size])), (a_trial, .inr (5, [.ref a_trial_kinds, .ref a_trial_delays, .int i_trial_held])), (a_net, .inr (2, [.int i_net_inputs, .int i_net_gates, .int i_net_paths, .ref a_net_told, .ref a_net_lefts, .ref a_net_rights, .ref a_net_nexts, .ref a_net_starts, .ref a_net_sizes, .ref a_net_steps, .ref a_net_links])), (a_waves, .inr (8, [.ref a_waves_before, .ref a_waves_after, .ref a_waves_low, .ref a_waves_high])), (a_sightings_pairs, .inl (cI, 6, .inl k_sightings_pairs)), (a_trial_kinds, .inl (cI, 8, .inl k_trial_kinds)), (a_trial_delays, .inl (cI, 8, .inl k_trial_delays)), (a_net_lefts, .inl (cI, 8, .inl k_net_lefts)), (a_net_rights, .inl (cI, 8, .inl k_net_rights)), (a_waves_before, .inl (cJ, 18, .inr (.inl k_waves_before))), (a_waves_after, .inl (cJ, 18, .inr (.inl k_waves_after))), (a_waves_low, .inl (cJ, 18, .inr (.inl k_waves_low))), (a_waves_high, .inl (cJ, 18, .inr (.inl k_waves_high))), (a_sightings_times, .inl (cI, 6, .inl k_sightings_times)), (a_sightings_lates, .inl (cI, 6, .inl k_sightings_lates))] sz [.ref a_this] rr [(a_this, .inr (9, [.ref a_script, .ref a_acts, .ref a_sightings, .ref a_now, .ref a_trial, .ref a_slots, .ref a_levels, .ref a_table, .ref a_waves, .ref a_spans, .ref a_net, .ref a_draft, .long i_this_lastDraw])), (a_sightings, .inr (6, [.ref a_sightings_pairs, .ref a_sightings_times, .ref a_sightings_lates, .int i_sightings_size])), (a_trial, .inr (5, [.ref a_trial_kinds, .ref a_trial_delays, .int i_trial_held])), (a_net, .inr (2, [.int i_net_inputs, .int i_net_gates, .int i_net_paths, .ref a_net_told, .ref a_net_lefts, .ref a_net_rights, .ref a_net_nexts, .ref a_net_starts, .ref a_net_sizes, .ref a_net_steps, .ref a_net_links])), (a_waves, .inr (8, [.ref a_waves_before, .ref a_waves_after, .ref a_waves_low, .ref a_waves_high])), (a_sightings_pairs, .inl (cI, 6, .inl k_sightings_pairs)), (a_trial_kinds, .inl (cI, 8, .inl k_trial_kinds)), (a_trial_delays, .inl (cI, 8, .inl k_trial_delays)), (a_net_lefts, .inl (cI, 8, .inl k_net_lefts)), (a_net_rights, .inl (cI, 8, .inl k_net_rights)), (a_waves_before, .inl (cJ, 18, .inr (.inl o_waves_before))), (a_waves_after, .inl (cJ, 18, .inr (.inl o_waves_after))), (a_waves_low, .inl (cJ, 18, .inr (.inl o_waves_low))), (a_waves_high, .inl (cJ, 18, .inr (.inl o_waves_high))), (a_sightings_times, .inl (cI, 6, .inl k_sightings_times)), (a_sightings_lates, .inl (cI, 6, .inl k_sightings_lates))] := by
  refine entZ (cc := cX9_agreesWithSeen) (maxL := 3) (own := RX9) (by decide) rfl rfl (Nat.le_of_ble_eq_true rfl) ?_
  intro p e s m args below meth c A ls Q H locs S hr hw hl hQ
  have hx := S.1.1
  have hb := S.1.2.1
  have hts := S.1.2.2.2.2
  have hl : lv_has ls 3 [(0, .ref a_this)] := hl
  have hinX9 : ∀ w ∈ u_ws RX9 TX9 13, w ∈ wsX9_agreesWithSeen := (fun _ h => List.mem_cons_of_mem _ (List.mem_append_left _ (List.mem_append_left _ (List.mem_append_left _ (List.mem_append_left _ (List.mem_append_right _ h))))))
  have F26 : FLk s args wsX9_agreesWithSeen RX9 26 RX9 TX9 13 9 2 := ⟨hinX9, rfl, by decide, hts (.fieldLink RX9 26 "SlowPaths" "sightings" "LSlowPaths$Sightings;") (List.mem_of_getElem? (i := 1) rfl)⟩
  have F37 : FLk s args wsX9_agreesWithSeen RX9 37 RX9 TX9 13 9 4 := ⟨hinX9, rfl, by decide, hts (.fieldLink RX9 37 "SlowPaths" "trial" "LSlowPaths$Setting;") (List.mem_of_getElem? (i := 5) rfl)⟩
  have F61 : FLk s args wsX9_agreesWithSeen RX9 61 RX9 TX9 13 9 8 := ⟨hinX9, rfl, by decide, hts (.fieldLink RX9 61 "SlowPaths" "waves" "LSlowPaths$Waves;") (List.mem_of_getElem? (i := 3) rfl)⟩
  have F75 : FLk s args wsX9_agreesWithSeen RX9 75 RX9 TX9 13 9 10 := ⟨hinX9, rfl, by decide, hts (.fieldLink RX9 75 "SlowPaths" "net" "LSlowPaths$Net;") (List.mem_of_getElem? (i := 4) rfl)⟩
  have hinX5 : ∀ w ∈ u_ws RX5 TX5 3, w ∈ wsX9_agreesWithSeen := (fun _ h => List.mem_cons_of_mem _ (List.mem_append_left _ (List.mem_append_left _ (List.mem_append_right _ h))))
  have F120 : FLk s args wsX9_agreesWithSeen RX9 120 RX5 TX5 3 5 0 := ⟨hinX5, rfl, by decide, hts (.fieldLink RX9 120 "SlowPaths$Setting" "kinds" "[I") (List.mem_of_getElem? (i := 6) rfl)⟩
  have F129 : FLk s args wsX9_agreesWithSeen RX9 129 RX5 TX5 3 5 1 := ⟨hinX5, rfl, by decide, hts (.fieldLink RX9 129 "SlowPaths$Setting" "delays" "[I") (List.mem_of_getElem? (i := 7) rfl)⟩
  have hinX6 : ∀ w ∈ u_ws RX6 TX6 4, w ∈ wsX9_agreesWithSeen := (fun _ h => List.mem_cons_of_mem _ (List.mem_append_left _ (List.mem_append_left _ (List.mem_append_left _ (List.mem_append_right _ h)))))
  have F219 : FLk s args wsX9_agreesWithSeen RX9 219 RX6 TX6 4 6 3 := ⟨hinX6, rfl, by decide, hts (.fieldLink RX9 219 "SlowPaths$Sightings" "size" "I") (List.mem_of_getElem? (i := 2) rfl)⟩
  have F284 : FLk s args wsX9_agreesWithSeen RX9 284 RX6 TX6 4 6 0 := ⟨hinX6, rfl, by decide, hts (.fieldLink RX9 284 "SlowPaths$Sightings" "pairs" "[I") (List.mem_of_getElem? (i := 8) rfl)⟩
  have F287 : FLk s args wsX9_agreesWithSeen RX9 287 RX6 TX6 4 6 1 := ⟨hinX6, rfl, by decide, hts (.fieldLink RX9 287 "SlowPaths$Sightings" "times" "[I") (List.mem_of_getElem? (i := 9) rfl)⟩
  have F290 : FLk s args wsX9_agreesWithSeen RX9 290 RX6 TX6 4 6 2 := ⟨hinX6, rfl, by decide, hts (.fieldLink RX9 290 "SlowPaths$Sightings" "lates" "[I") (List.mem_of_getElem? (i := 10) rfl)⟩
  have h := hf
  rw [f_X9_agreesWithSeen] at h
  refine lv_iconst (v := (0 : Int32)) hx hb dX9_agreesWithSeen_0 (by decide) ?_
  refine lv_istore_n (lv' := [(1, .int (0 : Int32)), (0, .ref a_this)]) hx hb dX9_agreesWithSeen_1 rfl hl (by decide) rfl (fun ls hl => ?_)
  obtain ⟨j105_1, ej105_1, h⟩ := bnd_ex h
  have hj105_1 : ∀ (k_waves_before_1 : (Nat → Int64)) (k_waves_after_2 : (Nat → Int64)) (k_waves_low_3 : (Nat → Int64)) (k_waves_high_4 : (Nat → Int64)) (H : Heap) (locs : List Loc) (ls : Array Slot), j105_1 k_waves_before_1 k_waves_after_2 k_waves_low_3 k_waves_high_4 = some (rr, o_waves_before, o_waves_after, o_waves_low, o_waves_high) → Wd D (tyA cI cJ cZ cS) A s [(a_this, .inr (9, [.ref a_script, .ref a_acts, .ref a_sightings, .ref a_now, .ref a_trial, .ref a_slots, .ref a_levels, .ref a_table, .ref a_waves, .ref a_spans, .ref a_net, .ref a_draft, .long i_this_lastDraw])), (a_sightings, .inr (6, [.ref a_sightings_pairs, .ref a_sightings_times, .ref a_sightings_lates, .int i_sightings_size])), (a_trial, .inr (5, [.ref a_trial_kinds, .ref a_trial_delays, .int i_trial_held])), (a_net, .inr (2, [.int i_net_inputs, .int i_net_gates, .int i_net_paths, .ref a_net_told, .ref a_net_lefts, .ref a_net_rights, .ref a_net_nexts, .ref a_net_starts, .ref a_net_sizes, .ref a_net_steps, .ref a_net_links])), (a_waves, .inr (8, [.ref a_waves_before, .ref a_waves_after, .ref a_waves_low, .ref a_waves_high])), (a_sightings_pairs, .inl (cI, 6, .inl k_sightings_pairs)), (a_trial_kinds, .inl (cI, 8, .inl k_trial_kinds)), (a_trial_delays, .inl (cI, 8, .inl k_trial_delays)), (a_net_lefts, .inl (cI, 8, .inl k_net_lefts)), (a_net_rights, .inl (cI, 8, .inl k_net_rights)), (a_waves_before, .inl (cJ, 18, .inr (.inl k_waves_before_1))), (a_waves_after, .inl (cJ, 18, .inr (.inl k_waves_after_2))), (a_waves_low, .inl (cJ, 18, .inr (.inl k_waves_low_3))), (a_waves_high, .inl (cJ, 18, .inr (.inl k_waves_high_4))), (a_sightings_times, .inl (cI, 6, .inl k_sightings_times)), (a_sightings_lates, .inl (cI, 6, .inl k_sightings_lates))] H locs → lv_has ls 3 [] → W p l e rmX9_agreesWithSeen s m args below meth c H locs 0 0 Q (F0 m 105 ls []) := by
    intro k_waves_before_1 k_waves_after_2 k_waves_low_3 k_waves_high_4 H locs ls h hw hl
    replace h := ap4 ej105_1 h
    refine lv_iconst (v := (1 : Int32)) hx hb dX9_agreesWithSeen_105 (by decide) ?_
    cases h
    exact z_zret S hQ hr rfl hw [0, 1, 2, 3, 4, 5, 6, 7, 8, 9, 10, 11, 12, 13, 14, 15] rfl rfl dX9_agreesWithSeen_106
  have hL2_1 : ∀ (nf : Nat) (x1_5 : Int32) (k_waves_before_6 : (Nat → Int64)) (k_waves_after_7 : (Nat → Int64)) (k_waves_low_8 : (Nat → Int64)) (k_waves_high_9 : (Nat → Int64)) (H : Heap) (locs : List Loc) (ls : Array Slot), f_X9_agreesWithSeen_L2 N i_sightings_size i_net_inputs i_net_gates k_sightings_pairs k_trial_kinds k_trial_delays k_net_lefts k_net_rights k_sightings_times k_sightings_lates j105_1 nf x1_5 k_waves_before_6 k_waves_after_7 k_waves_low_8 k_waves_high_9 = some (rr, o_waves_before, o_waves_after, o_waves_low, o_waves_high) → Wd D (tyA cI cJ cZ cS) A s [(a_this, .inr (9, [.ref a_script, .ref a_acts, .ref a_sightings, .ref a_now, .ref a_trial, .ref a_slots, .ref a_levels, .ref a_table, .ref a_waves, .ref a_spans, .ref a_net, .ref a_draft, .long i_this_lastDraw])), (a_sightings, .inr (6, [.ref a_sightings_pairs, .ref a_sightings_times, .ref a_sightings_lates, .int i_sightings_size])), (a_trial, .inr (5, [.ref a_trial_kinds, .ref a_trial_delays, .int i_trial_held])), (a_net, .inr (2, [.int i_net_inputs, .int i_net_gates, .int i_net_paths, .ref a_net_told, .ref a_net_lefts, .ref a_net_rights, .ref a_net_nexts, .ref a_net_starts, .ref a_net_sizes, .ref a_net_steps, .ref a_net_links])), (a_waves, .inr (8, [.ref a_waves_before, .ref a_waves_after, .ref a_waves_low, .ref a_waves_high])), (a_sightings_pairs, .inl (cI, 6, .inl k_sightings_pairs)), (a_trial_kinds, .inl (cI, 8, .inl k_trial_kinds)), (a_trial_delays, .inl (cI, 8, .inl k_trial_delays)), (a_net_lefts, .inl (cI, 8, .inl k_net_lefts)), (a_net_rights, .inl (cI, 8, .inl k_net_rights)), (a_waves_before, .inl (cJ, 18, .inr (.inl k_waves_before_6))), (a_waves_after, .inl (cJ, 18, .inr (.inl k_waves_after_7))), (a_waves_low, .inl (cJ, 18, .inr (.inl k_waves_low_8))), (a_waves_high, .inl (cJ, 18, .inr (.inl k_waves_high_9))), (a_sightings_times, .inl (cI, 6, .inl k_sightings_times)), (a_sightings_lates, .inl (cI, 6, .inl k_sightings_lates))] H locs → lv_has ls 3 [(0, .ref a_this), (1, .int x1_5)] → W p l e rmX9_agreesWithSeen s m args below meth c H locs 0 0 Q (F0 m 2 ls []) := by
    intro nf
    induction nf with
    | zero =>
      intro x1_5 k_waves_before_6 k_waves_after_7 k_waves_low_8 k_waves_high_9 H locs ls h
      rw [f_X9_agreesWithSeen_L2] at h
      cases h
    | succ n_2 ih_2 =>
      intro x1_5 k_waves_before_6 k_waves_after_7 k_waves_low_8 k_waves_high_9 H locs ls h hw hl
      rw [f_X9_agreesWithSeen_L2] at h
      refine lv_iload_n hx hb dX9_agreesWithSeen_2 rfl (lv_at hl 1 rfl) ?_
      refine lv_aload_n hx hb dX9_agreesWithSeen_3 rfl (lv_at hl 0 rfl) ?_
      refine z_get S hw F26 0 rfl rfl dX9_agreesWithSeen_4 ?_
      refine z_get S hw F219 1 rfl rfl dX9_agreesWithSeen_7 ?_
      refine lv_icmp_ge (tgt := 105) hx hb dX9_agreesWithSeen_10 (by decide) (fun hc => ?_) (fun hc => ?_)
      · replace h := if_t hc h
        exact hj105_1 k_waves_before_6 k_waves_after_7 k_waves_low_8 k_waves_high_9 H locs ls h hw (lv_sub hl [] rfl)
      · replace h := if_f hc h
        refine lv_aload_n hx hb dX9_agreesWithSeen_13 rfl (lv_at hl 0 rfl) ?_
        refine z_get S hw F61 0 rfl rfl dX9_agreesWithSeen_14 ?_
        refine lv_aload_n hx hb dX9_agreesWithSeen_17 rfl (lv_at hl 0 rfl) ?_
        refine z_get S hw F75 0 rfl rfl dX9_agreesWithSeen_18 ?_
        refine lv_aload_n hx hb dX9_agreesWithSeen_21 rfl (lv_at hl 0 rfl) ?_
        refine z_get S hw F37 0 rfl rfl dX9_agreesWithSeen_22 ?_
        refine z_get S hw F120 2 rfl rfl dX9_agreesWithSeen_25 ?_
        refine lv_aload_n hx hb dX9_agreesWithSeen_28 rfl (lv_at hl 0 rfl) ?_
        refine z_get S hw F37 0 rfl rfl dX9_agreesWithSeen_29 ?_
        refine z_get S hw F129 2 rfl rfl dX9_agreesWithSeen_32 ?_
        refine lv_aload_n hx hb dX9_agreesWithSeen_35 rfl (lv_at hl 0 rfl) ?_
        refine z_get S hw F75 0 rfl rfl dX9_agreesWithSeen_36 ?_
        refine lv_aload_n hx hb dX9_agreesWithSeen_39 rfl (lv_at hl 0 rfl) ?_
        refine z_get S hw F26 0 rfl rfl dX9_agreesWithSeen_40 ?_
        refine z_get S hw F284 1 rfl rfl dX9_agreesWithSeen_43 ?_
        refine lv_iload_n hx hb dX9_agreesWithSeen_46 rfl (lv_at hl 1 rfl) ?_
        obtain ⟨hg, h⟩ := grd_el h
        refine z_iald S hw 5 0 rfl rfl hg dX9_agreesWithSeen_47 ?_
        obtain ⟨r_10, e48_1, h⟩ := obd1_el h
        refine zr_VI (As := [.int (k_sightings_pairs x1_5.toNatClampNeg)]) (rest := [.ref a_trial_delays, .ref a_trial_kinds, .ref a_net, .ref a_waves]) (q0 := 0) S hw (c_X2_pairWithin l D cI cJ cZ cS H.size N a_net a_net_told a_net_lefts a_net_rights a_net_nexts a_net_starts a_net_sizes a_net_steps a_net_links i_net_inputs i_net_gates i_net_paths (k_sightings_pairs x1_5.toNatClampNeg) r_10 e48_1) (cwV 1 hts gX9_agreesWithSeen_X2_pairWithin rfl rfl rfl dv_X2_pairWithin ⟨Nat.le_of_ble_eq_true rfl, Nat.le_of_ble_eq_true rfl⟩) [3] rfl rfl rfl rfl rfl rfl hl.1 rfl (Nat.le_of_ble_eq_true rfl) dX9_agreesWithSeen_48 ⟨Nat.zero_le _, Nat.zero_le _⟩ ?_
        obtain ⟨k_waves_before_11, k_waves_after_12, k_waves_low_13, k_waves_high_14, e51_1, h⟩ := obd4_el h
        refine zc_VV (As := [.ref a_net, .ref a_trial_kinds, .ref a_trial_delays, .int r_10]) (rest := []) (wr := [(a_this, .inr (9, [.ref a_script, .ref a_acts, .ref a_sightings, .ref a_now, .ref a_trial, .ref a_slots, .ref a_levels, .ref a_table, .ref a_waves, .ref a_spans, .ref a_net, .ref a_draft, .long i_this_lastDraw])), (a_sightings, .inr (6, [.ref a_sightings_pairs, .ref a_sightings_times, .ref a_sightings_lates, .int i_sightings_size])), (a_trial, .inr (5, [.ref a_trial_kinds, .ref a_trial_delays, .int i_trial_held])), (a_sightings_pairs, .inl (cI, 6, .inl k_sightings_pairs)), (a_sightings_times, .inl (cI, 6, .inl k_sightings_times)), (a_sightings_lates, .inl (cI, 6, .inl k_sightings_lates))]) (q0 := 3) S hw (c_X8_run l D cI cJ cZ cS H.size N a_net a_trial_kinds a_trial_delays a_waves a_net_lefts a_net_rights a_waves_before a_waves_after a_waves_low a_waves_high a_net_told a_net_nexts a_net_starts a_net_sizes a_net_steps a_net_links i_net_inputs i_net_gates i_net_paths k_trial_kinds k_trial_delays k_net_lefts k_net_rights k_waves_before_6 k_waves_after_7 k_waves_low_8 k_waves_high_9 r_10 k_waves_before_11 k_waves_after_12 k_waves_low_13 k_waves_high_14 e51_1) (cwV 4 hts gX9_agreesWithSeen_X8_run rfl rfl rfl dv_X8_run ⟨Nat.le_of_ble_eq_true rfl, Nat.le_of_ble_eq_true rfl⟩) [3, 6, 7, 4, 8, 9, 10, 11, 12, 13] [0, 1, 2, 5, 14, 15] rfl rfl rfl rfl (by decide) rfl rfl rfl rfl hl.1 rfl (Nat.le_of_ble_eq_true rfl) dX9_agreesWithSeen_51 ⟨Nat.zero_le _, Nat.zero_le _⟩ (fun H locs hw => ?_)
        refine lv_aload_n hx hb dX9_agreesWithSeen_54 rfl (lv_at hl 0 rfl) ?_
        refine z_get S hw F61 0 rfl rfl dX9_agreesWithSeen_55 ?_
        refine lv_aload_n hx hb dX9_agreesWithSeen_58 rfl (lv_at hl 0 rfl) ?_
        refine z_get S hw F75 0 rfl rfl dX9_agreesWithSeen_59 ?_
        refine lv_aload_n hx hb dX9_agreesWithSeen_62 rfl (lv_at hl 0 rfl) ?_
        refine z_get S hw F26 0 rfl rfl dX9_agreesWithSeen_63 ?_
        refine z_get S hw F287 1 rfl rfl dX9_agreesWithSeen_66 ?_
        refine lv_iload_n hx hb dX9_agreesWithSeen_69 rfl (lv_at hl 1 rfl) ?_
        obtain ⟨hg, h⟩ := grd_el h
        refine z_iald S hw 4 0 rfl rfl hg dX9_agreesWithSeen_70 ?_
        obtain ⟨r_15, e71_1, h⟩ := obd1_el h
        refine zr_VI (As := [.ref a_net, .int (k_sightings_times x1_5.toNatClampNeg)]) (rest := []) (q0 := 1) S hw (c_X8_isLate l D cI cJ cZ cS H.size N a_net a_waves a_waves_high a_waves_low a_waves_after a_net_told a_net_lefts a_net_rights a_net_nexts a_net_starts a_net_sizes a_net_steps a_net_links a_waves_before i_net_inputs i_net_gates i_net_paths k_waves_high_14 k_waves_low_13 k_waves_after_12 (k_sightings_times x1_5.toNatClampNeg) r_15 e71_1) (cwV 2 hts gX9_agreesWithSeen_X8_isLate rfl rfl rfl dv_X8_isLate ⟨Nat.le_of_ble_eq_true rfl, Nat.le_of_ble_eq_true rfl⟩) [6, 9, 15, 14, 13] rfl rfl rfl rfl rfl rfl hl.1 rfl (Nat.le_of_ble_eq_true rfl) dX9_agreesWithSeen_71 ⟨Nat.zero_le _, Nat.zero_le _⟩ ?_
        refine lv_istore_n (lv' := [(2, .int r_15), (0, .ref a_this), (1, .int x1_5)]) hx hb dX9_agreesWithSeen_74 rfl hl (by decide) rfl (fun ls hl => ?_)
        refine lv_iload_n hx hb dX9_agreesWithSeen_75 rfl (lv_at hl 0 rfl) ?_
        refine lv_aload_n hx hb dX9_agreesWithSeen_76 rfl (lv_at hl 1 rfl) ?_
        refine z_get S hw F26 0 rfl rfl dX9_agreesWithSeen_77 ?_
        refine z_get S hw F290 1 rfl rfl dX9_agreesWithSeen_80 ?_
        refine lv_iload_n hx hb dX9_agreesWithSeen_83 rfl (lv_at hl 2 rfl) ?_
        obtain ⟨hg, h⟩ := grd_el h
        refine z_iald S hw 5 0 rfl rfl hg dX9_agreesWithSeen_84 ?_
        refine lv_iconst (v := (1 : Int32)) hx hb dX9_agreesWithSeen_85 (by decide) ?_
        obtain ⟨j94_1, ej94_1, h⟩ := bnd_ex h
        have hj94_1 : ∀ (t_16 : Int32) (t_17 : Int32) (H : Heap) (locs : List Loc) (ls : Array Slot), j94_1 t_16 t_17 = some (rr, o_waves_before, o_waves_after, o_waves_low, o_waves_high) → Wd D (tyA cI cJ cZ cS) A s [(a_this, .inr (9, [.ref a_script, .ref a_acts, .ref a_sightings, .ref a_now, .ref a_trial, .ref a_slots, .ref a_levels, .ref a_table, .ref a_waves, .ref a_spans, .ref a_net, .ref a_draft, .long i_this_lastDraw])), (a_sightings, .inr (6, [.ref a_sightings_pairs, .ref a_sightings_times, .ref a_sightings_lates, .int i_sightings_size])), (a_trial, .inr (5, [.ref a_trial_kinds, .ref a_trial_delays, .int i_trial_held])), (a_net, .inr (2, [.int i_net_inputs, .int i_net_gates, .int i_net_paths, .ref a_net_told, .ref a_net_lefts, .ref a_net_rights, .ref a_net_nexts, .ref a_net_starts, .ref a_net_sizes, .ref a_net_steps, .ref a_net_links])), (a_waves, .inr (8, [.ref a_waves_before, .ref a_waves_after, .ref a_waves_low, .ref a_waves_high])), (a_sightings_pairs, .inl (cI, 6, .inl k_sightings_pairs)), (a_trial_kinds, .inl (cI, 8, .inl k_trial_kinds)), (a_trial_delays, .inl (cI, 8, .inl k_trial_delays)), (a_net_lefts, .inl (cI, 8, .inl k_net_lefts)), (a_net_rights, .inl (cI, 8, .inl k_net_rights)), (a_waves_before, .inl (cJ, 18, .inr (.inl k_waves_before_11))), (a_waves_after, .inl (cJ, 18, .inr (.inl k_waves_after_12))), (a_waves_low, .inl (cJ, 18, .inr (.inl k_waves_low_13))), (a_waves_high, .inl (cJ, 18, .inr (.inl k_waves_high_14))), (a_sightings_times, .inl (cI, 6, .inl k_sightings_times)), (a_sightings_lates, .inl (cI, 6, .inl k_sightings_lates))] H locs → lv_has ls 3 [(0, .ref a_this), (1, .int x1_5)] → W p l e rmX9_agreesWithSeen s m args below meth c H locs 0 0 Q (F0 m 94 ls [.int t_16, .int t_17]) := by
          intro t_16 t_17 H locs ls h hw hl
          replace h := ap2 ej94_1 h
          refine lv_icmp_eq (tgt := 99) hx hb dX9_agreesWithSeen_94 (by decide) (fun hc => ?_) (fun hc => ?_)
          · replace h := if_t hc h
            obtain ⟨x1_18, ex1_18, h⟩ := bnd_ex h
            refine lv_iinc (v := x1_18) (lv' := [(1, .int x1_18), (0, .ref a_this)]) hx hb dX9_agreesWithSeen_99 hl (k := 1) rfl (by rw [ex1_18]; rfl) (by decide) rfl (fun ls hl => ?_)
            refine lv_goto (tgt := 2) hx hb dX9_agreesWithSeen_102 (by decide) ?_
            exact ih_2 x1_18 k_waves_before_11 k_waves_after_12 k_waves_low_13 k_waves_high_14 H locs ls h hw (lv_sub hl [1, 0] rfl)
          · replace h := if_f hc h
            refine lv_iconst (v := (0 : Int32)) hx hb dX9_agreesWithSeen_97 (by decide) ?_
            cases h
            exact z_zret S hQ hr rfl hw [0, 1, 2, 3, 4, 5, 6, 7, 8, 9, 10, 11, 12, 13, 14, 15] rfl rfl dX9_agreesWithSeen_98
        refine lv_icmp_ne (tgt := 93) hx hb dX9_agreesWithSeen_86 (by decide) (fun hc => ?_) (fun hc => ?_)
        · replace h := if_f hc h
          refine lv_iconst (v := (0 : Int32)) hx hb dX9_agreesWithSeen_93 (by decide) ?_
          exact hj94_1 ((0 : Int32)) r_15 H locs ls h (hw.sub [0, 1, 2, 6, 9, 3, 7, 8, 10, 11, 12, 13, 14, 15, 4, 5] rfl rfl) (lv_sub hl [1, 2] rfl)
        · replace h := if_t hc h
          refine lv_iconst (v := (1 : Int32)) hx hb dX9_agreesWithSeen_89 (by decide) ?_
          refine lv_goto (tgt := 94) hx hb dX9_agreesWithSeen_90 (by decide) ?_
          exact hj94_1 ((1 : Int32)) r_15 H locs ls h (hw.sub [0, 1, 2, 6, 9, 3, 7, 8, 10, 11, 12, 13, 14, 15, 4, 5] rfl rfl) (lv_sub hl [1, 2] rfl)
  exact hL2_1 N ((0 : Int32)) k_waves_before k_waves_after k_waves_low k_waves_high H locs ls h hw (lv_sub hl [1, 0] rfl)
