abbrev rmX10_tryThing : Room := { frames := 5, cells := 0, slots := 0, locals := 124 }
theorem dv_X10_tryThing : yX10_tryThing.cls = RX10 ∧ yX10_tryThing.cls ≠ "java/lang/invoke/MethodHandle" ∧ yX10_tryThing.cls ≠ "java/lang/invoke/VarHandle" ∧ (parseMethodDescriptor yX10_tryThing.desc).map (fun d => d.parameters.length) = some 3 := by decide +kernel
noncomputable def f_X10_tryThing (N : Nat) (y1 : Int32) (y2 : Int32) (y3 : Int32) (i_this_inputs : Int32) (i_this_gates : Int32) (i_this_paths : Int32) (k_now : (Nat → Int32)) (k_pathGates : (Nat → Int32)) (k_pathInput : (Nat → Int32)) (k_other : (Nat → Int32)) (k_one : (Nat → Int32)) (k_before : (Nat → Int32)) (k_after : (Nat → Int32)) (k_values : (Nat → Int32)) (k_next : (Nat → Int32)) : Option (Int32 × (Nat → Int32) × (Nat → Int32) × (Nat → Int32) × (Nat → Int32)) :=
  (if y1 = (1 : Int32) then (bnd (fun (t_1 : Int32) => ((if t_1 = (0 : Int32) then (grd (isZ t_1) (some (t_1, k_now, k_before, k_after, k_values))) else (grd (inb ((24 : Int32) + (y2 / (10 : Int32))) 32) <| bnd (upd k_now ((24 : Int32) + (y2 / (10 : Int32))).toNatClampNeg y3) fun (k_now_2 : (Nat → Int32)) => grd (isZ t_1) (some (t_1, k_now_2, k_before, k_after, k_values)))))) fun (j67_1 : Int32 → Option (Int32 × (Nat → Int32) × (Nat → Int32) × (Nat → Int32) × (Nat → Int32))) => bnd (α := Option (Int32 × (Nat → Int32) × (Nat → Int32) × (Nat → Int32) × (Nat → Int32))) (j67_1 ((0 : Int32))) fun (j66_1 : Option (Int32 × (Nat → Int32) × (Nat → Int32) × (Nat → Int32) × (Nat → Int32))) => (if (y2 - y2 / (10 : Int32) * (10 : Int32)) = (0 : Int32) then (obd1 (f_X10_isGate N (y2 / (10 : Int32)) i_this_gates) fun (r_3 : Int32) => (if r_3 = (0 : Int32) then (j66_1) else ((if y3 ≤ (0 : Int32) then (j66_1) else (j67_1 ((1 : Int32))))))) else (j66_1))) else (if y1 = (2 : Int32) then (bnd (fun (t_4 : Int32) => ((if t_4 = (0 : Int32) then (grd (isZ t_4) (some (t_4, k_now, k_before, k_after, k_values))) else (grd (inb ((16 : Int32) + (y2 / (10 : Int32))) 32) <| bnd (upd k_now ((16 : Int32) + (y2 / (10 : Int32))).toNatClampNeg y3) fun (k_now_5 : (Nat → Int32)) => grd (isZ t_4) (some (t_4, k_now_5, k_before, k_after, k_values)))))) fun (j137_1 : Int32 → Option (Int32 × (Nat → Int32) × (Nat → Int32) × (Nat → Int32) × (Nat → Int32))) => bnd (α := Option (Int32 × (Nat → Int32) × (Nat → Int32) × (Nat → Int32) × (Nat → Int32))) (j137_1 ((0 : Int32))) fun (j136_1 : Option (Int32 × (Nat → Int32) × (Nat → Int32) × (Nat → Int32) × (Nat → Int32))) => (if (y2 - y2 / (10 : Int32) * (10 : Int32)) = (0 : Int32) then (obd1 (f_X10_isGate N (y2 / (10 : Int32)) i_this_gates) fun (r_6 : Int32) => (if r_6 = (0 : Int32) then (j136_1) else ((if (3 : Int32) < y3 then (j136_1) else (grd (inb ((16 : Int32) + ((y2 / (10 : Int32)) - (y2 / (10 : Int32)) / (8 : Int32) * (8 : Int32))) 32) <| (if (k_now ((16 : Int32) + ((y2 / (10 : Int32)) - (y2 / (10 : Int32)) / (8 : Int32) * (8 : Int32))).toNatClampNeg) = (4 : Int32) then (j136_1) else (j137_1 ((1 : Int32))))))))) else (j136_1))) else (if y1 = (3 : Int32) then (obd1 (f_X10_isPath N y2 i_this_paths) fun (r_7 : Int32) => bnd (α := Option (Int32 × (Nat → Int32) × (Nat → Int32) × (Nat → Int32) × (Nat → Int32))) (some ((0 : Int32), k_now, k_before, k_after, k_values)) fun (j182_1 : Option (Int32 × (Nat → Int32) × (Nat → Int32) × (Nat → Int32) × (Nat → Int32))) => (if r_7 = (0 : Int32) then (j182_1) else (obd1 (f_X10_lengthOf N (1 : Int32) y2 i_this_gates k_pathGates k_now) fun (r_8 : Int32) => (if r_8 < y3 then (j182_1) else (some ((1 : Int32), k_now, k_before, k_after, k_values)))))) else (if y1 = (4 : Int32) then (obd1 (f_X10_longerThan N y2 i_this_gates i_this_paths k_pathGates k_now) fun (r_9 : Int32) => (if r_9 < y3 then (some ((0 : Int32), k_now, k_before, k_after, k_values)) else (some ((1 : Int32), k_now, k_before, k_after, k_values)))) else (if y1 = (5 : Int32) then (obd1 (f_X10_isPath N y2 i_this_paths) fun (r_10 : Int32) => bnd (fun (k_before_11 : (Nat → Int32)) (k_after_12 : (Nat → Int32)) (k_values_13 : (Nat → Int32)) => (some ((0 : Int32), k_now, k_before_11, k_after_12, k_values_13))) fun (j239_1 : (Nat → Int32) → (Nat → Int32) → (Nat → Int32) → Option (Int32 × (Nat → Int32) × (Nat → Int32) × (Nat → Int32) × (Nat → Int32))) => (if r_10 = (0 : Int32) then (j239_1 k_before k_after k_values) else ((if (2 : Int32) ≤ y3 then (j239_1 k_before k_after k_values) else (grd (inb y2 64) <| grd (inb y2 64) <| obd4 (f_X10_bestOn N (1 : Int32) (k_pathInput y2.toNatClampNeg) (k_pathGates y2.toNatClampNeg) y3 (0 : Int32) (1 : Int32) i_this_inputs i_this_gates k_now k_other k_one k_before k_after k_values k_next) fun (r_14 : Int32) (k_before_15 : (Nat → Int32)) (k_after_16 : (Nat → Int32)) (k_values_17 : (Nat → Int32)) => (if r_14 ≤ (0 : Int32) then (j239_1 k_before_15 k_after_16 k_values_17) else (some ((1 : Int32), k_now, k_before_15, k_after_16, k_values_17)))))))) else (if y1 = (6 : Int32) then (bnd (fun (k_before_18 : (Nat → Int32)) (k_after_19 : (Nat → Int32)) (k_values_20 : (Nat → Int32)) => (some ((0 : Int32), k_now, k_before_18, k_after_19, k_values_20))) fun (j265_1 : (Nat → Int32) → (Nat → Int32) → (Nat → Int32) → Option (Int32 × (Nat → Int32) × (Nat → Int32) × (Nat → Int32) × (Nat → Int32))) => (if (10 : Int32) ≤ y2 then (j265_1 k_before k_after k_values) else (obd4 (f_X10_prunedOn N (1 : Int32) i_this_inputs i_this_gates i_this_paths k_pathInput k_pathGates k_now k_other k_one k_before k_after k_values k_next) fun (r_21 : Int32) (k_before_22 : (Nat → Int32)) (k_after_23 : (Nat → Int32)) (k_values_24 : (Nat → Int32)) => (if r_21 < (((10 : Int32) * y2) + y3) then (j265_1 k_before_22 k_after_23 k_values_24) else (some ((1 : Int32), k_now, k_before_22, k_after_23, k_values_24)))))) else some ((0 : Int32), k_now, k_before, k_after, k_values)))))))
set_option maxHeartbeats 4000000 in
set_option maxRecDepth 100000 in
theorem c_X10_tryThing (l : Launch) (D : va_G) (cI cJ cZ cS : ClassId) (sz N : Nat) (a_this a_now a_pathGates a_pathInput a_other a_one a_before a_after a_values a_next a_readOne a_readOther a_readNext a_text a_taken a_waves a_row a_seenPair a_seenTime a_seenLate a_isKept a_kept : Nat) (i_this_inputs : Int32) (i_this_gates : Int32) (i_this_readInputs : Int32) (i_this_readGates : Int32) (i_this_length : Int32) (i_this_paths : Int32) (i_this_acts : Int32) (i_this_turn : Int32) (i_this_seen : Int32) (i_this_seed : Int64) (k_now : (Nat → Int32)) (k_pathGates : (Nat → Int32)) (k_pathInput : (Nat → Int32)) (k_other : (Nat → Int32)) (k_one : (Nat → Int32)) (k_before : (Nat → Int32)) (k_after : (Nat → Int32)) (k_values : (Nat → Int32)) (k_next : (Nat → Int32)) (y1 : Int32) (y2 : Int32) (y3 : Int32) (rr : Int32) (o_now : (Nat → Int32)) (o_before : (Nat → Int32)) (o_after : (Nat → Int32)) (o_values : (Nat → Int32)) (hf : f_X10_tryThing N y1 y2 y3 i_this_inputs i_this_gates i_this_paths k_now k_pathGates k_pathInput k_other k_one k_before k_after k_values k_next = some (rr, o_now, o_before, o_after, o_values)) : MetI l yX10_tryThing wsX10_tryThing rmX10_tryThing D (tyA cI cJ cZ cS) [(a_this, .inr (10, [.int i_this_inputs, .int i_this_gates, .ref a_now, .ref a_one, .ref a_other, .ref a_next, .int i_this_readInputs, .int i_this_readGates, .ref a_readOne, .ref a_readOther, .ref a_readNext, .ref a_text, .int i_this_length, .int i_this_paths, .ref a_pathInput, .ref a_pathGates, .ref a_before, .ref a_after, .ref a_values, .ref a_taken, .ref a_waves, .int i_this_acts, .int i_this_turn, .ref a_row, .int i_this_seen, .ref a_seenPair, .ref a_seenTime, .ref a_seenLate, .long i_this_seed, .ref a_isKept, .ref a_kept])), (a_now, .inl (cI, 32, .inl k_now)), (a_pathGates, .inl (cI, 64, .inl k_pathGates)), (a_pathInput, .inl (cI, 64, .inl k_pathInput)), (a_other, .inl (cI, 8, .inl k_other)), (a_one, .inl (cI, 8, .inl k_one)), (a_before, .inl (cI, 12, .inl k_before)), (a_after, .inl (cI, 12, .inl k_after)), (a_values, .inl (cI, 12, .inl k_values)), (a_next, .inl (cI, 4, .inl k_next))] sz [.ref a_this, .int y1, .int y2, .int y3] rr [(a_this, .inr (10, [.int i_this_inputs, .int i_this_gates, .ref a_now, .ref a_one, .ref a_other, .ref a_next, .int i_this_readInputs, .int i_this_readGates, .ref a_readOne, .ref a_readOther, .ref a_readNext, .ref a_text, .int i_this_length, .int i_this_paths, .ref a_pathInput, .ref a_pathGates, .ref a_before, .ref a_after, .ref a_values, .ref a_taken, .ref a_waves, .int i_this_acts, .int i_this_turn, .ref a_row, .int i_this_seen, .ref a_seenPair, .ref a_seenTime, .ref a_seenLate, .long i_this_seed, .ref a_isKept, .ref a_kept])), (a_now, .inl (cI, 32, .inl o_now)), (a_pathGates, .inl (cI, 64, .inl k_pathGates)), (a_pathInput, .inl (cI, 64, .inl k_pathInput)), (a_other, .inl (cI, 8, .inl k_other)), (a_one, .inl (cI, 8, .inl k_one)), (a_before, .inl (cI, 12, .inl o_before)), (a_after, .inl (cI, 12, .inl o_after)), (a_values, .inl (cI, 12, .inl o_values)), (a_next, .inl (cI, 4, .inl k_next))] := by
  refine entZ (cc := cX10_tryThing) (maxL := 6) (own := RX10) (by decide) rfl rfl (Nat.le_of_ble_eq_true rfl) ?_
  intro p e s m args below meth c A ls Q H locs S hr hw hl hQ
  have hx := S.1.1
  have hb := S.1.2.1
  have hts := S.1.2.2.2.2
  have hl : lv_has ls 6 [(0, .ref a_this), (1, .int y1), (2, .int y2), (3, .int y3)] := hl
  have hinX10 : ∀ w ∈ u_ws RX10 TX10 31, w ∈ wsX10_tryThing := (fun _ h => List.mem_cons_of_mem _ (List.mem_append_right _ h))
  have F7 : FLk s args wsX10_tryThing RX10 7 RX10 TX10 31 10 2 := ⟨hinX10, rfl, by decide, hts (.fieldLink RX10 7 "SlowPathsModel" "now" "[I") (List.mem_of_getElem? (i := 1) rfl)⟩
  have F34 : FLk s args wsX10_tryThing RX10 34 RX10 TX10 31 10 14 := ⟨hinX10, rfl, by decide, hts (.fieldLink RX10 34 "SlowPathsModel" "pathInput" "[I") (List.mem_of_getElem? (i := 2) rfl)⟩
  have F37 : FLk s args wsX10_tryThing RX10 37 RX10 TX10 31 10 15 := ⟨hinX10, rfl, by decide, hts (.fieldLink RX10 37 "SlowPathsModel" "pathGates" "[I") (List.mem_of_getElem? (i := 3) rfl)⟩
  have h := hf
  rw [f_X10_tryThing] at h
  refine lv_iload_n hx hb dX10_tryThing_0 rfl (lv_at hl 1 rfl) ?_
  by_cases hs1 : y1 = (1 : Int32)
  · replace h := if_t hs1 h
    refine lv_tableIn (off := 39) (tgt := 40) hx hb dX10_tryThing_1 (by rw [hs1]; decide) (by rw [hs1]; decide) (by rw [hs1]; rfl) (by decide) ?_
    refine lv_iload_n hx hb dX10_tryThing_40 rfl (lv_at hl 2 rfl) ?_
    refine lv_bipush (v := (10 : Int32)) hx hb dX10_tryThing_41 (by decide) ?_
    refine lv_irem hx hb dX10_tryThing_43 (by decide) ?_
    obtain ⟨j67_1, ej67_1, h⟩ := bnd_ex h
    have hj67_1 : ∀ (t_1 : Int32) (H : Heap) (locs : List Loc) (ls : Array Slot), j67_1 t_1 = some (rr, o_now, o_before, o_after, o_values) → Wd D (tyA cI cJ cZ cS) A s [(a_this, .inr (10, [.int i_this_inputs, .int i_this_gates, .ref a_now, .ref a_one, .ref a_other, .ref a_next, .int i_this_readInputs, .int i_this_readGates, .ref a_readOne, .ref a_readOther, .ref a_readNext, .ref a_text, .int i_this_length, .int i_this_paths, .ref a_pathInput, .ref a_pathGates, .ref a_before, .ref a_after, .ref a_values, .ref a_taken, .ref a_waves, .int i_this_acts, .int i_this_turn, .ref a_row, .int i_this_seen, .ref a_seenPair, .ref a_seenTime, .ref a_seenLate, .long i_this_seed, .ref a_isKept, .ref a_kept])), (a_now, .inl (cI, 32, .inl k_now)), (a_pathGates, .inl (cI, 64, .inl k_pathGates)), (a_pathInput, .inl (cI, 64, .inl k_pathInput)), (a_other, .inl (cI, 8, .inl k_other)), (a_one, .inl (cI, 8, .inl k_one)), (a_before, .inl (cI, 12, .inl k_before)), (a_after, .inl (cI, 12, .inl k_after)), (a_values, .inl (cI, 12, .inl k_values)), (a_next, .inl (cI, 4, .inl k_next))] H locs → lv_has ls 6 [(0, .ref a_this), (2, .int y2), (3, .int y3)] → W p l e rmX10_tryThing s m args below meth c H locs 0 0 Q (F0 m 67 ls [.int t_1]) := by
      intro t_1 H locs ls h hw hl
      replace h := ap1 ej67_1 h
      refine lv_istore (lv' := [(4, .int t_1), (0, .ref a_this), (2, .int y2), (3, .int y3)]) hx hb dX10_tryThing_67 hl (by decide) rfl (fun ls hl => ?_)
      refine lv_iload hx hb dX10_tryThing_69 (lv_at hl 0 rfl) ?_
      refine lv_if_eq (tgt := 87) hx hb dX10_tryThing_71 (by decide) (fun hc => ?_) (fun hc => ?_)
      · replace h := if_t hc h
        refine lv_iload hx hb dX10_tryThing_87 (lv_at hl 0 rfl) ?_
        obtain ⟨hz, h⟩ := grd_el h
        cases h
        exact z_zret S hQ hr (isZ_narrow hz) hw [0, 1, 2, 3, 4, 5, 6, 7, 8, 9] rfl rfl dX10_tryThing_89
      · replace h := if_f hc h
        refine lv_aload_n hx hb dX10_tryThing_74 rfl (lv_at hl 1 rfl) ?_
        refine z_get S hw F7 0 rfl rfl dX10_tryThing_75 ?_
        refine lv_bipush (v := (24 : Int32)) hx hb dX10_tryThing_78 (by decide) ?_
        refine lv_iload_n hx hb dX10_tryThing_80 rfl (lv_at hl 2 rfl) ?_
        refine lv_bipush (v := (10 : Int32)) hx hb dX10_tryThing_81 (by decide) ?_
        refine lv_idiv hx hb dX10_tryThing_83 (by decide) ?_
        refine lv_iadd hx hb dX10_tryThing_84 ?_
        refine lv_iload_n hx hb dX10_tryThing_85 rfl (lv_at hl 3 rfl) ?_
        obtain ⟨hg, h⟩ := grd_el h
        obtain ⟨k_now_2, ek_now_2, h⟩ := bnd_ex h
        refine z_iast S hw ek_now_2 1 0 rfl rfl hg dX10_tryThing_86 (fun H locs hw => ?_)
        refine lv_iload hx hb dX10_tryThing_87 (lv_at hl 0 rfl) ?_
        obtain ⟨hz, h⟩ := grd_el h
        cases h
        exact z_zret S hQ hr (isZ_narrow hz) hw [0, 1, 2, 3, 4, 5, 6, 7, 8, 9] rfl rfl dX10_tryThing_89
    obtain ⟨j66_1, ej66_1, h⟩ := bnd_ex h
    have hj66_1 : ∀ (H : Heap) (locs : List Loc) (ls : Array Slot), j66_1 = some (rr, o_now, o_before, o_after, o_values) → Wd D (tyA cI cJ cZ cS) A s [(a_this, .inr (10, [.int i_this_inputs, .int i_this_gates, .ref a_now, .ref a_one, .ref a_other, .ref a_next, .int i_this_readInputs, .int i_this_readGates, .ref a_readOne, .ref a_readOther, .ref a_readNext, .ref a_text, .int i_this_length, .int i_this_paths, .ref a_pathInput, .ref a_pathGates, .ref a_before, .ref a_after, .ref a_values, .ref a_taken, .ref a_waves, .int i_this_acts, .int i_this_turn, .ref a_row, .int i_this_seen, .ref a_seenPair, .ref a_seenTime, .ref a_seenLate, .long i_this_seed, .ref a_isKept, .ref a_kept])), (a_now, .inl (cI, 32, .inl k_now)), (a_pathGates, .inl (cI, 64, .inl k_pathGates)), (a_pathInput, .inl (cI, 64, .inl k_pathInput)), (a_other, .inl (cI, 8, .inl k_other)), (a_one, .inl (cI, 8, .inl k_one)), (a_before, .inl (cI, 12, .inl k_before)), (a_after, .inl (cI, 12, .inl k_after)), (a_values, .inl (cI, 12, .inl k_values)), (a_next, .inl (cI, 4, .inl k_next))] H locs → lv_has ls 6 [(0, .ref a_this), (2, .int y2), (3, .int y3)] → W p l e rmX10_tryThing s m args below meth c H locs 0 0 Q (F0 m 66 ls []) := by
      intro H locs ls h hw hl
      replace h := ap0 ej66_1 h
      refine lv_iconst (v := (0 : Int32)) hx hb dX10_tryThing_66 (by decide) ?_
      exact hj67_1 ((0 : Int32)) H locs ls h hw hl
    refine lv_if_ne (tgt := 66) hx hb dX10_tryThing_44 (by decide) (fun hc => ?_) (fun hc => ?_)
    · replace h := if_f hc h
      exact hj66_1  H locs ls h hw (lv_sub hl [0, 2, 3] rfl)
    · replace h := if_t hc h
      refine lv_aload_n hx hb dX10_tryThing_47 rfl (lv_at hl 0 rfl) ?_
      refine lv_iload_n hx hb dX10_tryThing_48 rfl (lv_at hl 2 rfl) ?_
      refine lv_bipush (v := (10 : Int32)) hx hb dX10_tryThing_49 (by decide) ?_
      refine lv_idiv hx hb dX10_tryThing_51 (by decide) ?_
      obtain ⟨r_3, e52_1, h⟩ := obd1_el h
      refine zr_VI (As := [.int (y2 / (10 : Int32))]) (rest := []) (q0 := 0) S hw (c_X10_isGate l D cI cJ cZ cS H.size N a_this a_now a_one a_other a_next a_readOne a_readOther a_readNext a_text a_pathInput a_pathGates a_before a_after a_values a_taken a_waves a_row a_seenPair a_seenTime a_seenLate a_isKept a_kept i_this_inputs i_this_gates i_this_readInputs i_this_readGates i_this_length i_this_paths i_this_acts i_this_turn i_this_seen i_this_seed (y2 / (10 : Int32)) r_3 e52_1) (cwV 1 hts gX10_tryThing_X10_isGate rfl rfl rfl dv_X10_isGate ⟨Nat.le_of_ble_eq_true rfl, Nat.le_of_ble_eq_true rfl⟩) [0] rfl rfl rfl rfl rfl rfl hl.1 rfl (Nat.le_of_ble_eq_true rfl) dX10_tryThing_52 ⟨Nat.zero_le _, Nat.zero_le _⟩ ?_
      refine lv_if_eq (tgt := 66) hx hb dX10_tryThing_55 (by decide) (fun hc => ?_) (fun hc => ?_)
      · replace h := if_t hc h
        exact hj66_1  H locs ls h hw (lv_sub hl [0, 2, 3] rfl)
      · replace h := if_f hc h
        refine lv_iload_n hx hb dX10_tryThing_58 rfl (lv_at hl 3 rfl) ?_
        refine lv_if_le (tgt := 66) hx hb dX10_tryThing_59 (by decide) (fun hc => ?_) (fun hc => ?_)
        · replace h := if_t hc h
          exact hj66_1  H locs ls h hw (lv_sub hl [0, 2, 3] rfl)
        · replace h := if_f hc h
          refine lv_iconst (v := (1 : Int32)) hx hb dX10_tryThing_62 (by decide) ?_
          refine lv_goto (tgt := 67) hx hb dX10_tryThing_63 (by decide) ?_
          exact hj67_1 ((1 : Int32)) H locs ls h hw (lv_sub hl [0, 2, 3] rfl)
  replace h := if_f hs1 h
  by_cases hs2 : y1 = (2 : Int32)
  · replace h := if_t hs2 h
    refine lv_tableIn (off := 89) (tgt := 90) hx hb dX10_tryThing_1 (by rw [hs2]; decide) (by rw [hs2]; decide) (by rw [hs2]; rfl) (by decide) ?_
    refine lv_iload_n hx hb dX10_tryThing_90 rfl (lv_at hl 2 rfl) ?_
    refine lv_bipush (v := (10 : Int32)) hx hb dX10_tryThing_91 (by decide) ?_
    refine lv_irem hx hb dX10_tryThing_93 (by decide) ?_
    obtain ⟨j137_1, ej137_1, h⟩ := bnd_ex h
    have hj137_1 : ∀ (t_4 : Int32) (H : Heap) (locs : List Loc) (ls : Array Slot), j137_1 t_4 = some (rr, o_now, o_before, o_after, o_values) → Wd D (tyA cI cJ cZ cS) A s [(a_this, .inr (10, [.int i_this_inputs, .int i_this_gates, .ref a_now, .ref a_one, .ref a_other, .ref a_next, .int i_this_readInputs, .int i_this_readGates, .ref a_readOne, .ref a_readOther, .ref a_readNext, .ref a_text, .int i_this_length, .int i_this_paths, .ref a_pathInput, .ref a_pathGates, .ref a_before, .ref a_after, .ref a_values, .ref a_taken, .ref a_waves, .int i_this_acts, .int i_this_turn, .ref a_row, .int i_this_seen, .ref a_seenPair, .ref a_seenTime, .ref a_seenLate, .long i_this_seed, .ref a_isKept, .ref a_kept])), (a_now, .inl (cI, 32, .inl k_now)), (a_pathGates, .inl (cI, 64, .inl k_pathGates)), (a_pathInput, .inl (cI, 64, .inl k_pathInput)), (a_other, .inl (cI, 8, .inl k_other)), (a_one, .inl (cI, 8, .inl k_one)), (a_before, .inl (cI, 12, .inl k_before)), (a_after, .inl (cI, 12, .inl k_after)), (a_values, .inl (cI, 12, .inl k_values)), (a_next, .inl (cI, 4, .inl k_next))] H locs → lv_has ls 6 [(0, .ref a_this), (2, .int y2), (3, .int y3)] → W p l e rmX10_tryThing s m args below meth c H locs 0 0 Q (F0 m 137 ls [.int t_4]) := by
      intro t_4 H locs ls h hw hl
      replace h := ap1 ej137_1 h
      refine lv_istore (lv' := [(5, .int t_4), (0, .ref a_this), (2, .int y2), (3, .int y3)]) hx hb dX10_tryThing_137 hl (by decide) rfl (fun ls hl => ?_)
      refine lv_iload hx hb dX10_tryThing_139 (lv_at hl 0 rfl) ?_
      refine lv_if_eq (tgt := 157) hx hb dX10_tryThing_141 (by decide) (fun hc => ?_) (fun hc => ?_)
      · replace h := if_t hc h
        refine lv_iload hx hb dX10_tryThing_157 (lv_at hl 0 rfl) ?_
        obtain ⟨hz, h⟩ := grd_el h
        cases h
        exact z_zret S hQ hr (isZ_narrow hz) hw [0, 1, 2, 3, 4, 5, 6, 7, 8, 9] rfl rfl dX10_tryThing_159
      · replace h := if_f hc h
        refine lv_aload_n hx hb dX10_tryThing_144 rfl (lv_at hl 1 rfl) ?_
        refine z_get S hw F7 0 rfl rfl dX10_tryThing_145 ?_
        refine lv_bipush (v := (16 : Int32)) hx hb dX10_tryThing_148 (by decide) ?_
        refine lv_iload_n hx hb dX10_tryThing_150 rfl (lv_at hl 2 rfl) ?_
        refine lv_bipush (v := (10 : Int32)) hx hb dX10_tryThing_151 (by decide) ?_
        refine lv_idiv hx hb dX10_tryThing_153 (by decide) ?_
        refine lv_iadd hx hb dX10_tryThing_154 ?_
        refine lv_iload_n hx hb dX10_tryThing_155 rfl (lv_at hl 3 rfl) ?_
        obtain ⟨hg, h⟩ := grd_el h
        obtain ⟨k_now_5, ek_now_5, h⟩ := bnd_ex h
        refine z_iast S hw ek_now_5 1 0 rfl rfl hg dX10_tryThing_156 (fun H locs hw => ?_)
        refine lv_iload hx hb dX10_tryThing_157 (lv_at hl 0 rfl) ?_
        obtain ⟨hz, h⟩ := grd_el h
        cases h
        exact z_zret S hQ hr (isZ_narrow hz) hw [0, 1, 2, 3, 4, 5, 6, 7, 8, 9] rfl rfl dX10_tryThing_159
    obtain ⟨j136_1, ej136_1, h⟩ := bnd_ex h
    have hj136_1 : ∀ (H : Heap) (locs : List Loc) (ls : Array Slot), j136_1 = some (rr, o_now, o_before, o_after, o_values) → Wd D (tyA cI cJ cZ cS) A s [(a_this, .inr (10, [.int i_this_inputs, .int i_this_gates, .ref a_now, .ref a_one, .ref a_other, .ref a_next, .int i_this_readInputs, .int i_this_readGates, .ref a_readOne, .ref a_readOther, .ref a_readNext, .ref a_text, .int i_this_length, .int i_this_paths, .ref a_pathInput, .ref a_pathGates, .ref a_before, .ref a_after, .ref a_values, .ref a_taken, .ref a_waves, .int i_this_acts, .int i_this_turn, .ref a_row, .int i_this_seen, .ref a_seenPair, .ref a_seenTime, .ref a_seenLate, .long i_this_seed, .ref a_isKept, .ref a_kept])), (a_now, .inl (cI, 32, .inl k_now)), (a_pathGates, .inl (cI, 64, .inl k_pathGates)), (a_pathInput, .inl (cI, 64, .inl k_pathInput)), (a_other, .inl (cI, 8, .inl k_other)), (a_one, .inl (cI, 8, .inl k_one)), (a_before, .inl (cI, 12, .inl k_before)), (a_after, .inl (cI, 12, .inl k_after)), (a_values, .inl (cI, 12, .inl k_values)), (a_next, .inl (cI, 4, .inl k_next))] H locs → lv_has ls 6 [(0, .ref a_this), (2, .int y2), (3, .int y3)] → W p l e rmX10_tryThing s m args below meth c H locs 0 0 Q (F0 m 136 ls []) := by
      intro H locs ls h hw hl
      replace h := ap0 ej136_1 h
      refine lv_iconst (v := (0 : Int32)) hx hb dX10_tryThing_136 (by decide) ?_
      exact hj137_1 ((0 : Int32)) H locs ls h hw hl
    refine lv_if_ne (tgt := 136) hx hb dX10_tryThing_94 (by decide) (fun hc => ?_) (fun hc => ?_)
    · replace h := if_f hc h
      exact hj136_1  H locs ls h hw (lv_sub hl [0, 2, 3] rfl)
    · replace h := if_t hc h
      refine lv_aload_n hx hb dX10_tryThing_97 rfl (lv_at hl 0 rfl) ?_
      refine lv_iload_n hx hb dX10_tryThing_98 rfl (lv_at hl 2 rfl) ?_
      refine lv_bipush (v := (10 : Int32)) hx hb dX10_tryThing_99 (by decide) ?_
      refine lv_idiv hx hb dX10_tryThing_101 (by decide) ?_
      obtain ⟨r_6, e102_1, h⟩ := obd1_el h
      refine zr_VI (As := [.int (y2 / (10 : Int32))]) (rest := []) (q0 := 0) S hw (c_X10_isGate l D cI cJ cZ cS H.size N a_this a_now a_one a_other a_next a_readOne a_readOther a_readNext a_text a_pathInput a_pathGates a_before a_after a_values a_taken a_waves a_row a_seenPair a_seenTime a_seenLate a_isKept a_kept i_this_inputs i_this_gates i_this_readInputs i_this_readGates i_this_length i_this_paths i_this_acts i_this_turn i_this_seen i_this_seed (y2 / (10 : Int32)) r_6 e102_1) (cwV 1 hts gX10_tryThing_X10_isGate rfl rfl rfl dv_X10_isGate ⟨Nat.le_of_ble_eq_true rfl, Nat.le_of_ble_eq_true rfl⟩) [0] rfl rfl rfl rfl rfl rfl hl.1 rfl (Nat.le_of_ble_eq_true rfl) dX10_tryThing_102 ⟨Nat.zero_le _, Nat.zero_le _⟩ ?_
      refine lv_if_eq (tgt := 136) hx hb dX10_tryThing_105 (by decide) (fun hc => ?_) (fun hc => ?_)
      · replace h := if_t hc h
        exact hj136_1  H locs ls h hw (lv_sub hl [0, 2, 3] rfl)
      · replace h := if_f hc h
        refine lv_iload_n hx hb dX10_tryThing_108 rfl (lv_at hl 3 rfl) ?_
        refine lv_iconst (v := (3 : Int32)) hx hb dX10_tryThing_109 (by decide) ?_
        refine lv_icmp_gt (tgt := 136) hx hb dX10_tryThing_110 (by decide) (fun hc => ?_) (fun hc => ?_)
        · replace h := if_t hc h
          exact hj136_1  H locs ls h hw (lv_sub hl [0, 2, 3] rfl)
        · replace h := if_f hc h
          refine lv_aload_n hx hb dX10_tryThing_113 rfl (lv_at hl 0 rfl) ?_
          refine z_get S hw F7 0 rfl rfl dX10_tryThing_114 ?_
          refine lv_bipush (v := (16 : Int32)) hx hb dX10_tryThing_117 (by decide) ?_
          refine lv_iload_n hx hb dX10_tryThing_119 rfl (lv_at hl 2 rfl) ?_
          refine lv_bipush (v := (10 : Int32)) hx hb dX10_tryThing_120 (by decide) ?_
          refine lv_idiv hx hb dX10_tryThing_122 (by decide) ?_
          refine lv_bipush (v := (8 : Int32)) hx hb dX10_tryThing_123 (by decide) ?_
          refine lv_irem hx hb dX10_tryThing_125 (by decide) ?_
          refine lv_iadd hx hb dX10_tryThing_126 ?_
          obtain ⟨hg, h⟩ := grd_el h
          refine z_iald S hw 1 0 rfl rfl hg dX10_tryThing_127 ?_
          refine lv_iconst (v := (4 : Int32)) hx hb dX10_tryThing_128 (by decide) ?_
          refine lv_icmp_eq (tgt := 136) hx hb dX10_tryThing_129 (by decide) (fun hc => ?_) (fun hc => ?_)
          · replace h := if_t hc h
            exact hj136_1  H locs ls h hw (lv_sub hl [0, 2, 3] rfl)
          · replace h := if_f hc h
            refine lv_iconst (v := (1 : Int32)) hx hb dX10_tryThing_132 (by decide) ?_
            refine lv_goto (tgt := 137) hx hb dX10_tryThing_133 (by decide) ?_
            exact hj137_1 ((1 : Int32)) H locs ls h hw (lv_sub hl [0, 2, 3] rfl)
  replace h := if_f hs2 h
  by_cases hs3 : y1 = (3 : Int32)
  · replace h := if_t hs3 h
    refine lv_tableIn (off := 159) (tgt := 160) hx hb dX10_tryThing_1 (by rw [hs3]; decide) (by rw [hs3]; decide) (by rw [hs3]; rfl) (by decide) ?_
    refine lv_aload_n hx hb dX10_tryThing_160 rfl (lv_at hl 0 rfl) ?_
    refine lv_iload_n hx hb dX10_tryThing_161 rfl (lv_at hl 2 rfl) ?_
    obtain ⟨r_7, e162_1, h⟩ := obd1_el h
    refine zr_VI (As := [.int y2]) (rest := []) (q0 := 0) S hw (c_X10_isPath l D cI cJ cZ cS H.size N a_this a_now a_one a_other a_next a_readOne a_readOther a_readNext a_text a_pathInput a_pathGates a_before a_after a_values a_taken a_waves a_row a_seenPair a_seenTime a_seenLate a_isKept a_kept i_this_inputs i_this_gates i_this_readInputs i_this_readGates i_this_length i_this_paths i_this_acts i_this_turn i_this_seen i_this_seed y2 r_7 e162_1) (cwV 1 hts gX10_tryThing_X10_isPath rfl rfl rfl dv_X10_isPath ⟨Nat.le_of_ble_eq_true rfl, Nat.le_of_ble_eq_true rfl⟩) [0] rfl rfl rfl rfl rfl rfl hl.1 rfl (Nat.le_of_ble_eq_true rfl) dX10_tryThing_162 ⟨Nat.zero_le _, Nat.zero_le _⟩ ?_
    obtain ⟨j182_1, ej182_1, h⟩ := bnd_ex h
    have hj182_1 : ∀ (H : Heap) (locs : List Loc) (ls : Array Slot), j182_1 = some (rr, o_now, o_before, o_after, o_values) → Wd D (tyA cI cJ cZ cS) A s [(a_this, .inr (10, [.int i_this_inputs, .int i_this_gates, .ref a_now, .ref a_one, .ref a_other, .ref a_next, .int i_this_readInputs, .int i_this_readGates, .ref a_readOne, .ref a_readOther, .ref a_readNext, .ref a_text, .int i_this_length, .int i_this_paths, .ref a_pathInput, .ref a_pathGates, .ref a_before, .ref a_after, .ref a_values, .ref a_taken, .ref a_waves, .int i_this_acts, .int i_this_turn, .ref a_row, .int i_this_seen, .ref a_seenPair, .ref a_seenTime, .ref a_seenLate, .long i_this_seed, .ref a_isKept, .ref a_kept])), (a_now, .inl (cI, 32, .inl k_now)), (a_pathGates, .inl (cI, 64, .inl k_pathGates)), (a_pathInput, .inl (cI, 64, .inl k_pathInput)), (a_other, .inl (cI, 8, .inl k_other)), (a_one, .inl (cI, 8, .inl k_one)), (a_before, .inl (cI, 12, .inl k_before)), (a_after, .inl (cI, 12, .inl k_after)), (a_values, .inl (cI, 12, .inl k_values)), (a_next, .inl (cI, 4, .inl k_next))] H locs → lv_has ls 6 [] → W p l e rmX10_tryThing s m args below meth c H locs 0 0 Q (F0 m 182 ls []) := by
      intro H locs ls h hw hl
      replace h := ap0 ej182_1 h
      refine lv_iconst (v := (0 : Int32)) hx hb dX10_tryThing_182 (by decide) ?_
      cases h
      exact z_zret S hQ hr rfl hw [0, 1, 2, 3, 4, 5, 6, 7, 8, 9] rfl rfl dX10_tryThing_183
    refine lv_if_eq (tgt := 182) hx hb dX10_tryThing_165 (by decide) (fun hc => ?_) (fun hc => ?_)
    · replace h := if_t hc h
      exact hj182_1  H locs ls h hw (lv_sub hl [] rfl)
    · replace h := if_f hc h
      refine lv_aload_n hx hb dX10_tryThing_168 rfl (lv_at hl 0 rfl) ?_
      refine lv_iconst (v := (1 : Int32)) hx hb dX10_tryThing_169 (by decide) ?_
      refine lv_iload_n hx hb dX10_tryThing_170 rfl (lv_at hl 2 rfl) ?_
      obtain ⟨r_8, e171_1, h⟩ := obd1_el h
      refine zr_VI (As := [.int (1 : Int32), .int y2]) (rest := []) (q0 := 0) S hw (c_X10_lengthOf l D cI cJ cZ cS H.size N a_this a_pathGates a_now a_one a_other a_next a_readOne a_readOther a_readNext a_text a_pathInput a_before a_after a_values a_taken a_waves a_row a_seenPair a_seenTime a_seenLate a_isKept a_kept i_this_inputs i_this_gates i_this_readInputs i_this_readGates i_this_length i_this_paths i_this_acts i_this_turn i_this_seen i_this_seed k_pathGates k_now (1 : Int32) y2 r_8 e171_1) (cwV 2 hts gX10_tryThing_X10_lengthOf rfl rfl rfl dv_X10_lengthOf ⟨Nat.le_of_ble_eq_true rfl, Nat.le_of_ble_eq_true rfl⟩) [0, 2, 1] rfl rfl rfl rfl rfl rfl hl.1 rfl (Nat.le_of_ble_eq_true rfl) dX10_tryThing_171 ⟨Nat.zero_le _, Nat.zero_le _⟩ ?_
      refine lv_iload_n hx hb dX10_tryThing_174 rfl (lv_at hl 3 rfl) ?_
      refine lv_icmp_lt (tgt := 182) hx hb dX10_tryThing_175 (by decide) (fun hc => ?_) (fun hc => ?_)
      · replace h := if_t hc h
        exact hj182_1  H locs ls h hw (lv_sub hl [] rfl)
      · replace h := if_f hc h
        refine lv_iconst (v := (1 : Int32)) hx hb dX10_tryThing_178 (by decide) ?_
        refine lv_goto (tgt := 183) hx hb dX10_tryThing_179 (by decide) ?_
        cases h
        exact z_zret S hQ hr rfl hw [0, 1, 2, 3, 4, 5, 6, 7, 8, 9] rfl rfl dX10_tryThing_183
  replace h := if_f hs3 h
  by_cases hs4 : y1 = (4 : Int32)
  · replace h := if_t hs4 h
    refine lv_tableIn (off := 183) (tgt := 184) hx hb dX10_tryThing_1 (by rw [hs4]; decide) (by rw [hs4]; decide) (by rw [hs4]; rfl) (by decide) ?_
    refine lv_aload_n hx hb dX10_tryThing_184 rfl (lv_at hl 0 rfl) ?_
    refine lv_iload_n hx hb dX10_tryThing_185 rfl (lv_at hl 2 rfl) ?_
    obtain ⟨r_9, e186_1, h⟩ := obd1_el h
    refine zr_VI (As := [.int y2]) (rest := []) (q0 := 0) S hw (c_X10_longerThan l D cI cJ cZ cS H.size N a_this a_pathGates a_now a_one a_other a_next a_readOne a_readOther a_readNext a_text a_pathInput a_before a_after a_values a_taken a_waves a_row a_seenPair a_seenTime a_seenLate a_isKept a_kept i_this_inputs i_this_gates i_this_readInputs i_this_readGates i_this_length i_this_paths i_this_acts i_this_turn i_this_seen i_this_seed k_pathGates k_now y2 r_9 e186_1) (cwV 1 hts gX10_tryThing_X10_longerThan rfl rfl rfl dv_X10_longerThan ⟨Nat.le_of_ble_eq_true rfl, Nat.le_of_ble_eq_true rfl⟩) [0, 2, 1] rfl rfl rfl rfl rfl rfl hl.1 rfl (Nat.le_of_ble_eq_true rfl) dX10_tryThing_186 ⟨Nat.zero_le _, Nat.zero_le _⟩ ?_
    refine lv_iload_n hx hb dX10_tryThing_189 rfl (lv_at hl 3 rfl) ?_
    refine lv_icmp_lt (tgt := 197) hx hb dX10_tryThing_190 (by decide) (fun hc => ?_) (fun hc => ?_)
    · replace h := if_t hc h
      refine lv_iconst (v := (0 : Int32)) hx hb dX10_tryThing_197 (by decide) ?_
      cases h
      exact z_zret S hQ hr rfl hw [0, 1, 2, 3, 4, 5, 6, 7, 8, 9] rfl rfl dX10_tryThing_198
    · replace h := if_f hc h
      refine lv_iconst (v := (1 : Int32)) hx hb dX10_tryThing_193 (by decide) ?_
      refine lv_goto (tgt := 198) hx hb dX10_tryThing_194 (by decide) ?_
      cases h
      exact z_zret S hQ hr rfl hw [0, 1, 2, 3, 4, 5, 6, 7, 8, 9] rfl rfl dX10_tryThing_198
  replace h := if_f hs4 h
  by_cases hs5 : y1 = (5 : Int32)
  · replace h := if_t hs5 h
    refine lv_tableIn (off := 198) (tgt := 199) hx hb dX10_tryThing_1 (by rw [hs5]; decide) (by rw [hs5]; decide) (by rw [hs5]; rfl) (by decide) ?_
    refine lv_aload_n hx hb dX10_tryThing_199 rfl (lv_at hl 0 rfl) ?_
    refine lv_iload_n hx hb dX10_tryThing_200 rfl (lv_at hl 2 rfl) ?_
    obtain ⟨r_10, e201_1, h⟩ := obd1_el h
    refine zr_VI (As := [.int y2]) (rest := []) (q0 := 0) S hw (c_X10_isPath l D cI cJ cZ cS H.size N a_this a_now a_one a_other a_next a_readOne a_readOther a_readNext a_text a_pathInput a_pathGates a_before a_after a_values a_taken a_waves a_row a_seenPair a_seenTime a_seenLate a_isKept a_kept i_this_inputs i_this_gates i_this_readInputs i_this_readGates i_this_length i_this_paths i_this_acts i_this_turn i_this_seen i_this_seed y2 r_10 e201_1) (cwV 1 hts gX10_tryThing_X10_isPath rfl rfl rfl dv_X10_isPath ⟨Nat.le_of_ble_eq_true rfl, Nat.le_of_ble_eq_true rfl⟩) [0] rfl rfl rfl rfl rfl rfl hl.1 rfl (Nat.le_of_ble_eq_true rfl) dX10_tryThing_201 ⟨Nat.zero_le _, Nat.zero_le _⟩ ?_
    obtain ⟨j239_1, ej239_1, h⟩ := bnd_ex h
    have hj239_1 : ∀ (k_before_11 : (Nat → Int32)) (k_after_12 : (Nat → Int32)) (k_values_13 : (Nat → Int32)) (H : Heap) (locs : List Loc) (ls : Array Slot), j239_1 k_before_11 k_after_12 k_values_13 = some (rr, o_now, o_before, o_after, o_values) → Wd D (tyA cI cJ cZ cS) A s [(a_this, .inr (10, [.int i_this_inputs, .int i_this_gates, .ref a_now, .ref a_one, .ref a_other, .ref a_next, .int i_this_readInputs, .int i_this_readGates, .ref a_readOne, .ref a_readOther, .ref a_readNext, .ref a_text, .int i_this_length, .int i_this_paths, .ref a_pathInput, .ref a_pathGates, .ref a_before, .ref a_after, .ref a_values, .ref a_taken, .ref a_waves, .int i_this_acts, .int i_this_turn, .ref a_row, .int i_this_seen, .ref a_seenPair, .ref a_seenTime, .ref a_seenLate, .long i_this_seed, .ref a_isKept, .ref a_kept])), (a_now, .inl (cI, 32, .inl k_now)), (a_pathGates, .inl (cI, 64, .inl k_pathGates)), (a_pathInput, .inl (cI, 64, .inl k_pathInput)), (a_other, .inl (cI, 8, .inl k_other)), (a_one, .inl (cI, 8, .inl k_one)), (a_before, .inl (cI, 12, .inl k_before_11)), (a_after, .inl (cI, 12, .inl k_after_12)), (a_values, .inl (cI, 12, .inl k_values_13)), (a_next, .inl (cI, 4, .inl k_next))] H locs → lv_has ls 6 [] → W p l e rmX10_tryThing s m args below meth c H locs 0 0 Q (F0 m 239 ls []) := by
      intro k_before_11 k_after_12 k_values_13 H locs ls h hw hl
      replace h := ap3 ej239_1 h
      refine lv_iconst (v := (0 : Int32)) hx hb dX10_tryThing_239 (by decide) ?_
      cases h
      exact z_zret S hQ hr rfl hw [0, 1, 2, 3, 4, 5, 6, 7, 8, 9] rfl rfl dX10_tryThing_240
    refine lv_if_eq (tgt := 239) hx hb dX10_tryThing_204 (by decide) (fun hc => ?_) (fun hc => ?_)
    · replace h := if_t hc h
      exact hj239_1 k_before k_after k_values H locs ls h hw (lv_sub hl [] rfl)
    · replace h := if_f hc h
      refine lv_iload_n hx hb dX10_tryThing_207 rfl (lv_at hl 3 rfl) ?_
      refine lv_iconst (v := (2 : Int32)) hx hb dX10_tryThing_208 (by decide) ?_
      refine lv_icmp_ge (tgt := 239) hx hb dX10_tryThing_209 (by decide) (fun hc => ?_) (fun hc => ?_)
      · replace h := if_t hc h
        exact hj239_1 k_before k_after k_values H locs ls h hw (lv_sub hl [] rfl)
      · replace h := if_f hc h
        refine lv_aload_n hx hb dX10_tryThing_212 rfl (lv_at hl 0 rfl) ?_
        refine lv_iconst (v := (1 : Int32)) hx hb dX10_tryThing_213 (by decide) ?_
        refine lv_aload_n hx hb dX10_tryThing_214 rfl (lv_at hl 0 rfl) ?_
        refine z_get S hw F34 0 rfl rfl dX10_tryThing_215 ?_
        refine lv_iload_n hx hb dX10_tryThing_218 rfl (lv_at hl 2 rfl) ?_
        obtain ⟨hg, h⟩ := grd_el h
        refine z_iald S hw 3 0 rfl rfl hg dX10_tryThing_219 ?_
        refine lv_aload_n hx hb dX10_tryThing_220 rfl (lv_at hl 0 rfl) ?_
        refine z_get S hw F37 0 rfl rfl dX10_tryThing_221 ?_
        refine lv_iload_n hx hb dX10_tryThing_224 rfl (lv_at hl 2 rfl) ?_
        obtain ⟨hg, h⟩ := grd_el h
        refine z_iald S hw 2 0 rfl rfl hg dX10_tryThing_225 ?_
        refine lv_iload_n hx hb dX10_tryThing_226 rfl (lv_at hl 3 rfl) ?_
        refine lv_iconst (v := (0 : Int32)) hx hb dX10_tryThing_227 (by decide) ?_
        refine lv_iconst (v := (1 : Int32)) hx hb dX10_tryThing_228 (by decide) ?_
        obtain ⟨r_14, k_before_15, k_after_16, k_values_17, e229_1, h⟩ := obd4_el h
        refine zc_VI (As := [.int (1 : Int32), .int (k_pathInput y2.toNatClampNeg), .int (k_pathGates y2.toNatClampNeg), .int y3, .int (0 : Int32), .int (1 : Int32)]) (rest := []) (wr := [(a_pathGates, .inl (cI, 64, .inl k_pathGates)), (a_pathInput, .inl (cI, 64, .inl k_pathInput))]) (q0 := 0) S hw (c_X10_bestOn l D cI cJ cZ cS H.size N a_this a_now a_other a_one a_before a_after a_values a_next a_readOne a_readOther a_readNext a_text a_pathInput a_pathGates a_taken a_waves a_row a_seenPair a_seenTime a_seenLate a_isKept a_kept i_this_inputs i_this_gates i_this_readInputs i_this_readGates i_this_length i_this_paths i_this_acts i_this_turn i_this_seen i_this_seed k_now k_other k_one k_before k_after k_values k_next (1 : Int32) (k_pathInput y2.toNatClampNeg) (k_pathGates y2.toNatClampNeg) y3 (0 : Int32) (1 : Int32) r_14 k_before_15 k_after_16 k_values_17 e229_1) (cwV 6 hts gX10_tryThing_X10_bestOn rfl rfl rfl dv_X10_bestOn ⟨Nat.le_of_ble_eq_true rfl, Nat.le_of_ble_eq_true rfl⟩) [0, 1, 4, 5, 6, 7, 8, 9] [2, 3] rfl rfl rfl rfl (by decide) rfl rfl rfl rfl hl.1 rfl (Nat.le_of_ble_eq_true rfl) dX10_tryThing_229 ⟨Nat.zero_le _, Nat.zero_le _⟩ (fun H locs hw => ?_)
        refine lv_if_le (tgt := 239) hx hb dX10_tryThing_232 (by decide) (fun hc => ?_) (fun hc => ?_)
        · replace h := if_t hc h
          exact hj239_1 k_before_15 k_after_16 k_values_17 H locs ls h (hw.sub [2, 3, 0, 1, 4, 5, 6, 7, 8, 9] rfl rfl) (lv_sub hl [] rfl)
        · replace h := if_f hc h
          refine lv_iconst (v := (1 : Int32)) hx hb dX10_tryThing_235 (by decide) ?_
          refine lv_goto (tgt := 240) hx hb dX10_tryThing_236 (by decide) ?_
          cases h
          exact z_zret S hQ hr rfl hw [2, 3, 0, 1, 4, 5, 6, 7, 8, 9] rfl rfl dX10_tryThing_240
  replace h := if_f hs5 h
  by_cases hs6 : y1 = (6 : Int32)
  · replace h := if_t hs6 h
    refine lv_tableIn (off := 240) (tgt := 241) hx hb dX10_tryThing_1 (by rw [hs6]; decide) (by rw [hs6]; decide) (by rw [hs6]; rfl) (by decide) ?_
    refine lv_iload_n hx hb dX10_tryThing_241 rfl (lv_at hl 2 rfl) ?_
    refine lv_bipush (v := (10 : Int32)) hx hb dX10_tryThing_242 (by decide) ?_
    obtain ⟨j265_1, ej265_1, h⟩ := bnd_ex h
    have hj265_1 : ∀ (k_before_18 : (Nat → Int32)) (k_after_19 : (Nat → Int32)) (k_values_20 : (Nat → Int32)) (H : Heap) (locs : List Loc) (ls : Array Slot), j265_1 k_before_18 k_after_19 k_values_20 = some (rr, o_now, o_before, o_after, o_values) → Wd D (tyA cI cJ cZ cS) A s [(a_this, .inr (10, [.int i_this_inputs, .int i_this_gates, .ref a_now, .ref a_one, .ref a_other, .ref a_next, .int i_this_readInputs, .int i_this_readGates, .ref a_readOne, .ref a_readOther, .ref a_readNext, .ref a_text, .int i_this_length, .int i_this_paths, .ref a_pathInput, .ref a_pathGates, .ref a_before, .ref a_after, .ref a_values, .ref a_taken, .ref a_waves, .int i_this_acts, .int i_this_turn, .ref a_row, .int i_this_seen, .ref a_seenPair, .ref a_seenTime, .ref a_seenLate, .long i_this_seed, .ref a_isKept, .ref a_kept])), (a_now, .inl (cI, 32, .inl k_now)), (a_pathGates, .inl (cI, 64, .inl k_pathGates)), (a_pathInput, .inl (cI, 64, .inl k_pathInput)), (a_other, .inl (cI, 8, .inl k_other)), (a_one, .inl (cI, 8, .inl k_one)), (a_before, .inl (cI, 12, .inl k_before_18)), (a_after, .inl (cI, 12, .inl k_after_19)), (a_values, .inl (cI, 12, .inl k_values_20)), (a_next, .inl (cI, 4, .inl k_next))] H locs → lv_has ls 6 [] → W p l e rmX10_tryThing s m args below meth c H locs 0 0 Q (F0 m 265 ls []) := by
      intro k_before_18 k_after_19 k_values_20 H locs ls h hw hl
      replace h := ap3 ej265_1 h
      refine lv_iconst (v := (0 : Int32)) hx hb dX10_tryThing_265 (by decide) ?_
      cases h
      exact z_zret S hQ hr rfl hw [0, 1, 2, 3, 4, 5, 6, 7, 8, 9] rfl rfl dX10_tryThing_266
    refine lv_icmp_ge (tgt := 265) hx hb dX10_tryThing_244 (by decide) (fun hc => ?_) (fun hc => ?_)
    · replace h := if_t hc h
      exact hj265_1 k_before k_after k_values H locs ls h hw (lv_sub hl [] rfl)
    · replace h := if_f hc h
      refine lv_aload_n hx hb dX10_tryThing_247 rfl (lv_at hl 0 rfl) ?_
      refine lv_iconst (v := (1 : Int32)) hx hb dX10_tryThing_248 (by decide) ?_
      obtain ⟨r_21, k_before_22, k_after_23, k_values_24, e249_1, h⟩ := obd4_el h
      refine zc_VI (As := [.int (1 : Int32)]) (rest := []) (wr := []) (q0 := 0) S hw (c_X10_prunedOn l D cI cJ cZ cS H.size N a_this a_pathInput a_pathGates a_now a_other a_one a_before a_after a_values a_next a_readOne a_readOther a_readNext a_text a_taken a_waves a_row a_seenPair a_seenTime a_seenLate a_isKept a_kept i_this_inputs i_this_gates i_this_readInputs i_this_readGates i_this_length i_this_paths i_this_acts i_this_turn i_this_seen i_this_seed k_pathInput k_pathGates k_now k_other k_one k_before k_after k_values k_next (1 : Int32) r_21 k_before_22 k_after_23 k_values_24 e249_1) (cwV 1 hts gX10_tryThing_X10_prunedOn rfl rfl rfl dv_X10_prunedOn ⟨Nat.le_of_ble_eq_true rfl, Nat.le_of_ble_eq_true rfl⟩) [0, 3, 2, 1, 4, 5, 6, 7, 8, 9] [] rfl rfl rfl rfl (by decide) rfl rfl rfl rfl hl.1 rfl (Nat.le_of_ble_eq_true rfl) dX10_tryThing_249 ⟨Nat.zero_le _, Nat.zero_le _⟩ (fun H locs hw => ?_)
      refine lv_bipush (v := (10 : Int32)) hx hb dX10_tryThing_252 (by decide) ?_
      refine lv_iload_n hx hb dX10_tryThing_254 rfl (lv_at hl 2 rfl) ?_
      refine lv_imul hx hb dX10_tryThing_255 ?_
      refine lv_iload_n hx hb dX10_tryThing_256 rfl (lv_at hl 3 rfl) ?_
      refine lv_iadd hx hb dX10_tryThing_257 ?_
      refine lv_icmp_lt (tgt := 265) hx hb dX10_tryThing_258 (by decide) (fun hc => ?_) (fun hc => ?_)
      · replace h := if_t hc h
        exact hj265_1 k_before_22 k_after_23 k_values_24 H locs ls h (hw.sub [0, 3, 2, 1, 4, 5, 6, 7, 8, 9] rfl rfl) (lv_sub hl [] rfl)
      · replace h := if_f hc h
        refine lv_iconst (v := (1 : Int32)) hx hb dX10_tryThing_261 (by decide) ?_
        refine lv_goto (tgt := 266) hx hb dX10_tryThing_262 (by decide) ?_
        cases h
        exact z_zret S hQ hr rfl hw [0, 3, 2, 1, 4, 5, 6, 7, 8, 9] rfl rfl dX10_tryThing_266
  replace h := if_f hs6 h
  refine lv_tableOut (tgt := 267) hx hb dX10_tryThing_1 (tb_out (fun j h1 h2 => ?_)) (by decide) ?_
  · rcases (show j = 1 ∨ j = 2 ∨ j = 3 ∨ j = 4 ∨ j = 5 ∨ j = 6 by omega) with rfl | rfl | rfl | rfl | rfl | rfl
    · exact fun he => hs1 (he.trans (by decide))
    · exact fun he => hs2 (he.trans (by decide))
    · exact fun he => hs3 (he.trans (by decide))
    · exact fun he => hs4 (he.trans (by decide))
    · exact fun he => hs5 (he.trans (by decide))
    · exact fun he => hs6 (he.trans (by decide))
  refine lv_iconst (v := (0 : Int32)) hx hb dX10_tryThing_267 (by decide) ?_
  cases h
  exact z_zret S hQ hr rfl hw [0, 1, 2, 3, 4, 5, 6, 7, 8, 9] rfl rfl dX10_tryThing_268
abbrev rmX10_tenThousandTo : Room := { frames := 0, cells := 0, slots := 0, locals := 0 }
theorem ds_X10_tenThousandTo : yX10_tenThousandTo.cls ≠ "java/lang/invoke/MethodHandle" ∧ yX10_tenThousandTo.cls ≠ "java/lang/invoke/VarHandle" ∧ (parseMethodDescriptor yX10_tenThousandTo.desc).map (fun d => d.parameters.length) = some 1 := by decide +kernel
noncomputable def f_X10_tenThousandTo_L4 (N : Nat) (y0 : Int32) (j21_1 : Int64 → Option (Int64)) : Nat → Int64 → Int32 → Option (Int64)
  | 0, _, _ => none
  | n_4 + 1, x1_2, x3_3 =>
    (if y0 ≤ x3_3 then (j21_1 x1_2) else (bnd ((x1_2 * (10000 : Int64))) fun (x1_4 : Int64) => bnd (x3_3 + (1 : Int32)) fun (x3_5 : Int32) => f_X10_tenThousandTo_L4 N y0 j21_1 n_4 x1_4 x3_5))
noncomputable def f_X10_tenThousandTo (N : Nat) (y0 : Int32)  : Option (Int64) :=
  bnd (fun (x1_1 : Int64) => (some (x1_1))) fun (j21_1 : Int64 → Option (Int64)) => f_X10_tenThousandTo_L4 N y0 j21_1 N ((1 : Int64)) ((0 : Int32))
set_option maxHeartbeats 4000000 in
set_option maxRecDepth 100000 in
theorem c_X10_tenThousandTo (l : Launch) (D : va_G) (cI cJ cZ cS : ClassId) (sz N : Nat)   (y0 : Int32) (rr : Int64) (hf : f_X10_tenThousandTo N y0 = some (rr)) : MetLr l yX10_tenThousandTo wsX10_tenThousandTo rmX10_tenThousandTo D (tyA cI cJ cZ cS) [] sz [.int y0] rr := by
  refine entLr (cc := cX10_tenThousandTo) (maxL := 4) (own := RX10) (by decide) rfl rfl (Nat.le_of_ble_eq_true rfl) ?_
  intro p e s m args below meth c A ls Q S hr hw hl hQ
  have hx := S.1.1
  have hb := S.1.2.1
  have hts := S.1.2.2.2.2
  have hl : lv_has ls 4 [(0, .int y0)] := hl
  have h := hf
  rw [f_X10_tenThousandTo] at h
  refine lv_lconst (v := (1 : Int64)) hx hb dX10_tenThousandTo_0 (by decide) ?_
  refine lv_lstore_n (lv' := [(1, .long (1 : Int64)), (0, .int y0)]) hx hb dX10_tenThousandTo_1 rfl hl (by decide) rfl (fun ls hl => ?_)
  refine lv_iconst (v := (0 : Int32)) hx hb dX10_tenThousandTo_2 (by decide) ?_
  refine lv_istore_n (lv' := [(3, .int (0 : Int32)), (1, .long (1 : Int64)), (0, .int y0)]) hx hb dX10_tenThousandTo_3 rfl hl (by decide) rfl (fun ls hl => ?_)
  obtain ⟨j21_1, ej21_1, h⟩ := bnd_ex h
  have hj21_1 : ∀ (x1_1 : Int64) (ls : Array Slot), j21_1 x1_1 = some (rr) → lv_has ls 4 [(1, .long x1_1)] → W p l e rmX10_tenThousandTo s m args below meth c s.heap [] 0 0 Q (F0 m 21 ls []) := by
    intro x1_1 ls h hl
    replace h := ap1 ej21_1 h
    refine lv_lload_n hx hb dX10_tenThousandTo_21 rfl (lv_at hl 0 rfl) ?_
    cases h
    exact z_lretr S hQ hr dX10_tenThousandTo_22
  have hL4_1 : ∀ (nf : Nat) (x1_2 : Int64) (x3_3 : Int32) (ls : Array Slot), f_X10_tenThousandTo_L4 N y0 j21_1 nf x1_2 x3_3 = some (rr) → lv_has ls 4 [(0, .int y0), (1, .long x1_2), (3, .int x3_3)] → W p l e rmX10_tenThousandTo s m args below meth c s.heap [] 0 0 Q (F0 m 4 ls []) := by
    intro nf
    induction nf with
    | zero =>
      intro x1_2 x3_3 ls h
      rw [f_X10_tenThousandTo_L4] at h
      cases h
    | succ n_4 ih_4 =>
      intro x1_2 x3_3 ls h hl
      rw [f_X10_tenThousandTo_L4] at h
      refine lv_iload_n hx hb dX10_tenThousandTo_4 rfl (lv_at hl 2 rfl) ?_
      refine lv_iload_n hx hb dX10_tenThousandTo_5 rfl (lv_at hl 0 rfl) ?_
      refine lv_icmp_ge (tgt := 21) hx hb dX10_tenThousandTo_6 (by decide) (fun hc => ?_) (fun hc => ?_)
      · replace h := if_t hc h
        exact hj21_1 x1_2 ls h (lv_sub hl [1] rfl)
      · replace h := if_f hc h
        refine lv_lload_n hx hb dX10_tenThousandTo_9 rfl (lv_at hl 1 rfl) ?_
        refine lv_ldc2 (v := (10000 : Int64)) hx hb S.1.2.2.2.1 (hts (.constantLong RX10 230 (10000)) (List.mem_of_getElem? (i := 1) rfl)) dX10_tenThousandTo_10 ?_
        refine lv_lmul hx hb dX10_tenThousandTo_13 ?_
        refine lv_topl (fun x1_4 ex1_4 => ?_)
        replace h := bnd_at ex1_4 h
        refine lv_lstore_n (lv' := [(1, .long x1_4), (0, .int y0), (3, .int x3_3)]) hx hb dX10_tenThousandTo_14 rfl hl (by decide) rfl (fun ls hl => ?_)
        obtain ⟨x3_5, ex3_5, h⟩ := bnd_ex h
        refine lv_iinc (v := x3_5) (lv' := [(3, .int x3_5), (1, .long x1_4), (0, .int y0)]) hx hb dX10_tenThousandTo_15 hl (k := 2) rfl (by rw [ex3_5]; rfl) (by decide) rfl (fun ls hl => ?_)
        refine lv_goto (tgt := 4) hx hb dX10_tenThousandTo_18 (by decide) ?_
        exact ih_4 x1_4 x3_5 ls h (lv_sub hl [2, 1, 0] rfl)
  exact hL4_1 N ((1 : Int64)) ((0 : Int32)) ls h (lv_sub hl [2, 1, 0] rfl)
abbrev rmX10_judge : Room := { frames := 6, cells := 0, slots := 0, locals := 149 }
theorem dv_X10_judge : yX10_judge.cls = RX10 ∧ yX10_judge.cls ≠ "java/lang/invoke/MethodHandle" ∧ yX10_judge.cls ≠ "java/lang/invoke/VarHandle" ∧ (parseMethodDescriptor yX10_judge.desc).map (fun d => d.parameters.length) = some 2 := by decide +kernel
noncomputable def f_X10_judge_L36 (N : Nat) (y1 : Int32) (y2 : Int64) (i_this_inputs : Int32) (i_this_gates : Int32) (i_this_paths : Int32) (k_pathGates : (Nat → Int32)) (k_pathInput : (Nat → Int32)) (k_other : (Nat → Int32)) (k_one : (Nat → Int32)) (k_next : (Nat → Int32)) (j95_1 : (Nat → Int32) → (Nat → Int32) → (Nat → Int32) → (Nat → Int32) → Option (Int32 × (Nat → Int32) × (Nat → Int32) × (Nat → Int32) × (Nat → Int32))) : Nat → Int32 → (Nat → Int32) → (Nat → Int32) → (Nat → Int32) → (Nat → Int32) → Option (Int32 × (Nat → Int32) × (Nat → Int32) × (Nat → Int32) × (Nat → Int32))
  | 0, _, _, _, _, _ => none
  | n_36 + 1, x4_9, k_now_10, k_before_11, k_after_12, k_values_13 =>
    (if y1 ≤ x4_9 then (j95_1 k_now_10 k_before_11 k_after_12 k_values_13) else (obd1 (f_X10_tenThousandTo N ((y1 - (1 : Int32)) - x4_9)) fun (r_14 : Int64) => grd (nzL r_14) <| bnd ((((y2 / r_14) - (y2 / r_14) / (10000 : Int64) * (10000 : Int64)).toInt32)) fun (x5_15 : Int32) => obd5 (f_X10_tryThing N (x5_15 / (1000 : Int32)) ((x5_15 / (10 : Int32)) - (x5_15 / (10 : Int32)) / (100 : Int32) * (100 : Int32)) (x5_15 - x5_15 / (10 : Int32) * (10 : Int32)) i_this_inputs i_this_gates i_this_paths k_now_10 k_pathGates k_pathInput k_other k_one k_before_11 k_after_12 k_values_13 k_next) fun (r_16 : Int32) (k_now_17 : (Nat → Int32)) (k_before_18 : (Nat → Int32)) (k_after_19 : (Nat → Int32)) (k_values_20 : (Nat → Int32)) => (if r_16 = (0 : Int32) then (some (x4_9, k_now_17, k_before_18, k_after_19, k_values_20)) else (bnd (x4_9 + (1 : Int32)) fun (x4_21 : Int32) => f_X10_judge_L36 N y1 y2 i_this_inputs i_this_gates i_this_paths k_pathGates k_pathInput k_other k_one k_next j95_1 n_36 x4_21 k_now_17 k_before_18 k_after_19 k_values_20))))
noncomputable def f_X10_judge (N : Nat) (y1 : Int32) (y2 : Int64) (i_this_inputs : Int32) (i_this_gates : Int32) (i_this_paths : Int32) (k_now : (Nat → Int32)) (k_pathGates : (Nat → Int32)) (k_pathInput : (Nat → Int32)) (k_other : (Nat → Int32)) (k_one : (Nat → Int32)) (k_before : (Nat → Int32)) (k_after : (Nat → Int32)) (k_values : (Nat → Int32)) (k_next : (Nat → Int32)) : Option (Int32 × (Nat → Int32) × (Nat → Int32) × (Nat → Int32) × (Nat → Int32)) :=
  obd1 (f_X10_in N (y1.toInt64) (1 : Int64) (4 : Int64)) fun (r_1 : Int32) => (if r_1 = (0 : Int32) then (some ((-2 : Int32), k_now, k_before, k_after, k_values)) else (obd1 (f_X10_tenThousandTo N y1) fun (r_2 : Int64) => obd1 (f_X10_in N y2 (0 : Int64) (r_2 - (1 : Int64))) fun (r_3 : Int32) => (if r_3 = (0 : Int32) then (some ((-2 : Int32), k_now, k_before, k_after, k_values)) else (obd1 (f_X10_layTrial N k_now) fun (k_now_4 : (Nat → Int32)) => bnd (fun (k_now_5 : (Nat → Int32)) (k_before_6 : (Nat → Int32)) (k_after_7 : (Nat → Int32)) (k_values_8 : (Nat → Int32)) => (some ((-9 : Int32), k_now_5, k_before_6, k_after_7, k_values_8))) fun (j95_1 : (Nat → Int32) → (Nat → Int32) → (Nat → Int32) → (Nat → Int32) → Option (Int32 × (Nat → Int32) × (Nat → Int32) × (Nat → Int32) × (Nat → Int32))) => f_X10_judge_L36 N y1 y2 i_this_inputs i_this_gates i_this_paths k_pathGates k_pathInput k_other k_one k_next j95_1 N ((0 : Int32)) k_now_4 k_before k_after k_values))))
set_option maxHeartbeats 4000000 in
set_option maxRecDepth 100000 in
theorem c_X10_judge (l : Launch) (D : va_G) (cI cJ cZ cS : ClassId) (sz N : Nat) (a_this a_now a_pathGates a_pathInput a_other a_one a_before a_after a_values a_next a_readOne a_readOther a_readNext a_text a_taken a_waves a_row a_seenPair a_seenTime a_seenLate a_isKept a_kept : Nat) (i_this_inputs : Int32) (i_this_gates : Int32) (i_this_readInputs : Int32) (i_this_readGates : Int32) (i_this_length : Int32) (i_this_paths : Int32) (i_this_acts : Int32) (i_this_turn : Int32) (i_this_seen : Int32) (i_this_seed : Int64) (k_now : (Nat → Int32)) (k_pathGates : (Nat → Int32)) (k_pathInput : (Nat → Int32)) (k_other : (Nat → Int32)) (k_one : (Nat → Int32)) (k_before : (Nat → Int32)) (k_after : (Nat → Int32)) (k_values : (Nat → Int32)) (k_next : (Nat → Int32)) (y1 : Int32) (y2 : Int64) (rr : Int32) (o_now : (Nat → Int32)) (o_before : (Nat → Int32)) (o_after : (Nat → Int32)) (o_values : (Nat → Int32)) (hf : f_X10_judge N y1 y2 i_this_inputs i_this_gates i_this_paths k_now k_pathGates k_pathInput k_other k_one k_before k_after k_values k_next = some (rr, o_now, o_before, o_after, o_values)) : MetI l yX10_judge wsX10_judge rmX10_judge D (tyA cI cJ cZ cS) [(a_this, .inr (10, [.int i_this_inputs, .int i_this_gates, .ref a_now, .ref a_one, .ref a_other, .ref a_next, .int i_this_readInputs, .int i_this_readGates, .ref a_readOne, .ref a_readOther, .ref a_readNext, .ref a_text, .int i_this_length, .int i_this_paths, .ref a_pathInput, .ref a_pathGates, .ref a_before, .ref a_after, .ref a_values, .ref a_taken, .ref a_waves, .int i_this_acts, .int i_this_turn, .ref a_row, .int i_this_seen, .ref a_seenPair, .ref a_seenTime, .ref a_seenLate, .long i_this_seed, .ref a_isKept, .ref a_kept])), (a_now, .inl (cI, 32, .inl k_now)), (a_pathGates, .inl (cI, 64, .inl k_pathGates)), (a_pathInput, .inl (cI, 64, .inl k_pathInput)), (a_other, .inl (cI, 8, .inl k_other)), (a_one, .inl (cI, 8, .inl k_one)), (a_before, .inl (cI, 12, .inl k_before)), (a_after, .inl (cI, 12, .inl k_after)), (a_values, .inl (cI, 12, .inl k_values)), (a_next, .inl (cI, 4, .inl k_next))] sz [.ref a_this, .int y1, .long y2] rr [(a_this, .inr (10, [.int i_this_inputs, .int i_this_gates, .ref a_now, .ref a_one, .ref a_other, .ref a_next, .int i_this_readInputs, .int i_this_readGates, .ref a_readOne, .ref a_readOther, .ref a_readNext, .ref a_text, .int i_this_length, .int i_this_paths, .ref a_pathInput, .ref a_pathGates, .ref a_before, .ref a_after, .ref a_values, .ref a_taken, .ref a_waves, .int i_this_acts, .int i_this_turn, .ref a_row, .int i_this_seen, .ref a_seenPair, .ref a_seenTime, .ref a_seenLate, .long i_this_seed, .ref a_isKept, .ref a_kept])), (a_now, .inl (cI, 32, .inl o_now)), (a_pathGates, .inl (cI, 64, .inl k_pathGates)), (a_pathInput, .inl (cI, 64, .inl k_pathInput)), (a_other, .inl (cI, 8, .inl k_other)), (a_one, .inl (cI, 8, .inl k_one)), (a_before, .inl (cI, 12, .inl o_before)), (a_after, .inl (cI, 12, .inl o_after)), (a_values, .inl (cI, 12, .inl o_values)), (a_next, .inl (cI, 4, .inl k_next))] := by
  refine entI (cc := cX10_judge) (maxL := 6) (own := RX10) (by decide) rfl rfl (Nat.le_of_ble_eq_true rfl) ?_
  intro p e s m args below meth c A ls Q H locs S hr hw hl hQ
  have hx := S.1.1
  have hb := S.1.2.1
  have hts := S.1.2.2.2.2
  have hl : lv_has ls 6 [(0, .ref a_this), (1, .int y1), (2, .long y2)] := hl
  have h := hf
  rw [f_X10_judge] at h
  refine lv_iload_n hx hb dX10_judge_0 rfl (lv_at hl 1 rfl) ?_
  refine lv_i2l hx hb dX10_judge_1 rfl ?_
  refine lv_lconst (v := (1 : Int64)) hx hb dX10_judge_2 (by decide) ?_
  refine lv_ldc2 (v := (4 : Int64)) hx hb S.1.2.2.2.1 (hts (.constantLong RX10 232 (4)) (List.mem_of_getElem? (i := 1) rfl)) dX10_judge_3 ?_
  obtain ⟨r_1, e6_1, h⟩ := obd1_el h
  refine zr_SI (As := [.long (y1.toInt64), .long (1 : Int64), .long (4 : Int64)]) (rest := []) (q0 := 0) (ci := 0) (fs := []) (qc := (RX0, TX0, 4)) S hw (c_X10_in l D cI cJ cZ cS H.size N (y1.toInt64) (1 : Int64) (4 : Int64) r_1 e6_1) (va_cwS 3 hts gX10_judge_X10_in rfl rfl rfl ds_X10_in ⟨Nat.le_of_ble_eq_true rfl, Nat.le_of_ble_eq_true rfl⟩) [] rfl rfl rfl hl.1 rfl (Nat.le_of_ble_eq_true rfl) dX10_judge_6 ⟨Nat.zero_le _, Nat.zero_le _⟩ ?_
  refine lv_if_eq (tgt := 26) hx hb dX10_judge_9 (by decide) (fun hc => ?_) (fun hc => ?_)
  · replace h := if_t hc h
    refine lv_bipush (v := (-2 : Int32)) hx hb dX10_judge_26 (by decide) ?_
    cases h
    exact z_iret S hQ hr hw [0, 1, 2, 3, 4, 5, 6, 7, 8, 9] rfl rfl dX10_judge_28
  · replace h := if_f hc h
    refine lv_lload_n hx hb dX10_judge_12 rfl (lv_at hl 2 rfl) ?_
    refine lv_lconst (v := (0 : Int64)) hx hb dX10_judge_13 (by decide) ?_
    refine lv_iload_n hx hb dX10_judge_14 rfl (lv_at hl 1 rfl) ?_
    obtain ⟨r_2, e15_1, h⟩ := obd1_el h
    refine zr_SL (As := [.int y1]) (rest := [.long (0 : Int64), .long y2]) (q0 := 0) (ci := 0) (fs := []) (qc := (RX0, TX0, 4)) S hw (c_X10_tenThousandTo l D cI cJ cZ cS H.size N y1 r_2 e15_1) (va_cwS 1 hts gX10_judge_X10_tenThousandTo rfl rfl rfl ds_X10_tenThousandTo ⟨Nat.le_of_ble_eq_true rfl, Nat.le_of_ble_eq_true rfl⟩) [] rfl rfl rfl hl.1 rfl (Nat.le_of_ble_eq_true rfl) dX10_judge_15 ⟨Nat.zero_le _, Nat.zero_le _⟩ ?_
    refine lv_lconst (v := (1 : Int64)) hx hb dX10_judge_18 (by decide) ?_
    refine lv_lsub hx hb dX10_judge_19 ?_
    obtain ⟨r_3, e20_1, h⟩ := obd1_el h
    refine zr_SI (As := [.long y2, .long (0 : Int64), .long (r_2 - (1 : Int64))]) (rest := []) (q0 := 0) (ci := 0) (fs := []) (qc := (RX0, TX0, 4)) S hw (c_X10_in l D cI cJ cZ cS H.size N y2 (0 : Int64) (r_2 - (1 : Int64)) r_3 e20_1) (va_cwS 3 hts gX10_judge_X10_in rfl rfl rfl ds_X10_in ⟨Nat.le_of_ble_eq_true rfl, Nat.le_of_ble_eq_true rfl⟩) [] rfl rfl rfl hl.1 rfl (Nat.le_of_ble_eq_true rfl) dX10_judge_20 ⟨Nat.zero_le _, Nat.zero_le _⟩ ?_
    refine lv_if_ne (tgt := 29) hx hb dX10_judge_23 (by decide) (fun hc => ?_) (fun hc => ?_)
    · replace h := if_f hc h
      refine lv_aload_n hx hb dX10_judge_29 rfl (lv_at hl 0 rfl) ?_
      obtain ⟨k_now_4, e30_1, h⟩ := obd1_el h
      refine zc_VV (As := []) (rest := []) (wr := [(a_pathGates, .inl (cI, 64, .inl k_pathGates)), (a_pathInput, .inl (cI, 64, .inl k_pathInput)), (a_other, .inl (cI, 8, .inl k_other)), (a_one, .inl (cI, 8, .inl k_one)), (a_before, .inl (cI, 12, .inl k_before)), (a_after, .inl (cI, 12, .inl k_after)), (a_values, .inl (cI, 12, .inl k_values)), (a_next, .inl (cI, 4, .inl k_next))]) (q0 := 0) S hw (c_X10_layTrial l D cI cJ cZ cS H.size N a_this a_now a_one a_other a_next a_readOne a_readOther a_readNext a_text a_pathInput a_pathGates a_before a_after a_values a_taken a_waves a_row a_seenPair a_seenTime a_seenLate a_isKept a_kept i_this_inputs i_this_gates i_this_readInputs i_this_readGates i_this_length i_this_paths i_this_acts i_this_turn i_this_seen i_this_seed k_now k_now_4 e30_1) (cwV 0 hts gX10_judge_X10_layTrial rfl rfl rfl dv_X10_layTrial ⟨Nat.le_of_ble_eq_true rfl, Nat.le_of_ble_eq_true rfl⟩) [0, 1] [2, 3, 4, 5, 6, 7, 8, 9] rfl rfl rfl rfl (by decide) rfl rfl rfl rfl hl.1 rfl (Nat.le_of_ble_eq_true rfl) dX10_judge_30 ⟨Nat.zero_le _, Nat.zero_le _⟩ (fun H locs hw => ?_)
      refine lv_iconst (v := (0 : Int32)) hx hb dX10_judge_33 (by decide) ?_
      refine lv_istore (lv' := [(4, .int (0 : Int32)), (0, .ref a_this), (1, .int y1), (2, .long y2)]) hx hb dX10_judge_34 hl (by decide) rfl (fun ls hl => ?_)
      obtain ⟨j95_1, ej95_1, h⟩ := bnd_ex h
      have hj95_1 : ∀ (k_now_5 : (Nat → Int32)) (k_before_6 : (Nat → Int32)) (k_after_7 : (Nat → Int32)) (k_values_8 : (Nat → Int32)) (H : Heap) (locs : List Loc) (ls : Array Slot), j95_1 k_now_5 k_before_6 k_after_7 k_values_8 = some (rr, o_now, o_before, o_after, o_values) → Wd D (tyA cI cJ cZ cS) A s [(a_this, .inr (10, [.int i_this_inputs, .int i_this_gates, .ref a_now, .ref a_one, .ref a_other, .ref a_next, .int i_this_readInputs, .int i_this_readGates, .ref a_readOne, .ref a_readOther, .ref a_readNext, .ref a_text, .int i_this_length, .int i_this_paths, .ref a_pathInput, .ref a_pathGates, .ref a_before, .ref a_after, .ref a_values, .ref a_taken, .ref a_waves, .int i_this_acts, .int i_this_turn, .ref a_row, .int i_this_seen, .ref a_seenPair, .ref a_seenTime, .ref a_seenLate, .long i_this_seed, .ref a_isKept, .ref a_kept])), (a_now, .inl (cI, 32, .inl k_now_5)), (a_pathGates, .inl (cI, 64, .inl k_pathGates)), (a_pathInput, .inl (cI, 64, .inl k_pathInput)), (a_other, .inl (cI, 8, .inl k_other)), (a_one, .inl (cI, 8, .inl k_one)), (a_before, .inl (cI, 12, .inl k_before_6)), (a_after, .inl (cI, 12, .inl k_after_7)), (a_values, .inl (cI, 12, .inl k_values_8)), (a_next, .inl (cI, 4, .inl k_next))] H locs → lv_has ls 6 [] → W p l e rmX10_judge s m args below meth c H locs 0 0 Q (F0 m 95 ls []) := by
        intro k_now_5 k_before_6 k_after_7 k_values_8 H locs ls h hw hl
        replace h := ap4 ej95_1 h
        refine lv_bipush (v := (-9 : Int32)) hx hb dX10_judge_95 (by decide) ?_
        cases h
        exact z_iret S hQ hr hw [0, 1, 2, 3, 4, 5, 6, 7, 8, 9] rfl rfl dX10_judge_97
      have hL36_1 : ∀ (nf : Nat) (x4_9 : Int32) (k_now_10 : (Nat → Int32)) (k_before_11 : (Nat → Int32)) (k_after_12 : (Nat → Int32)) (k_values_13 : (Nat → Int32)) (H : Heap) (locs : List Loc) (ls : Array Slot), f_X10_judge_L36 N y1 y2 i_this_inputs i_this_gates i_this_paths k_pathGates k_pathInput k_other k_one k_next j95_1 nf x4_9 k_now_10 k_before_11 k_after_12 k_values_13 = some (rr, o_now, o_before, o_after, o_values) → Wd D (tyA cI cJ cZ cS) A s [(a_this, .inr (10, [.int i_this_inputs, .int i_this_gates, .ref a_now, .ref a_one, .ref a_other, .ref a_next, .int i_this_readInputs, .int i_this_readGates, .ref a_readOne, .ref a_readOther, .ref a_readNext, .ref a_text, .int i_this_length, .int i_this_paths, .ref a_pathInput, .ref a_pathGates, .ref a_before, .ref a_after, .ref a_values, .ref a_taken, .ref a_waves, .int i_this_acts, .int i_this_turn, .ref a_row, .int i_this_seen, .ref a_seenPair, .ref a_seenTime, .ref a_seenLate, .long i_this_seed, .ref a_isKept, .ref a_kept])), (a_now, .inl (cI, 32, .inl k_now_10)), (a_pathGates, .inl (cI, 64, .inl k_pathGates)), (a_pathInput, .inl (cI, 64, .inl k_pathInput)), (a_other, .inl (cI, 8, .inl k_other)), (a_one, .inl (cI, 8, .inl k_one)), (a_before, .inl (cI, 12, .inl k_before_11)), (a_after, .inl (cI, 12, .inl k_after_12)), (a_values, .inl (cI, 12, .inl k_values_13)), (a_next, .inl (cI, 4, .inl k_next))] H locs → lv_has ls 6 [(0, .ref a_this), (1, .int y1), (2, .long y2), (4, .int x4_9)] → W p l e rmX10_judge s m args below meth c H locs 0 0 Q (F0 m 36 ls []) := by
        intro nf
        induction nf with
        | zero =>
          intro x4_9 k_now_10 k_before_11 k_after_12 k_values_13 H locs ls h
          rw [f_X10_judge_L36] at h
          cases h
        | succ n_36 ih_36 =>
          intro x4_9 k_now_10 k_before_11 k_after_12 k_values_13 H locs ls h hw hl
          rw [f_X10_judge_L36] at h
          refine lv_iload hx hb dX10_judge_36 (lv_at hl 3 rfl) ?_
          refine lv_iload_n hx hb dX10_judge_38 rfl (lv_at hl 1 rfl) ?_
          refine lv_icmp_ge (tgt := 95) hx hb dX10_judge_39 (by decide) (fun hc => ?_) (fun hc => ?_)
          · replace h := if_t hc h
            exact hj95_1 k_now_10 k_before_11 k_after_12 k_values_13 H locs ls h hw (lv_sub hl [] rfl)
          · replace h := if_f hc h
            refine lv_lload_n hx hb dX10_judge_42 rfl (lv_at hl 2 rfl) ?_
            refine lv_iload_n hx hb dX10_judge_43 rfl (lv_at hl 1 rfl) ?_
            refine lv_iconst (v := (1 : Int32)) hx hb dX10_judge_44 (by decide) ?_
            refine lv_isub hx hb dX10_judge_45 ?_
            refine lv_iload hx hb dX10_judge_46 (lv_at hl 3 rfl) ?_
            refine lv_isub hx hb dX10_judge_48 ?_
            obtain ⟨r_14, e49_1, h⟩ := obd1_el h
            refine zr_SL (As := [.int ((y1 - (1 : Int32)) - x4_9)]) (rest := [.long y2]) (q0 := 0) (ci := 0) (fs := []) (qc := (RX0, TX0, 4)) S hw (c_X10_tenThousandTo l D cI cJ cZ cS H.size N ((y1 - (1 : Int32)) - x4_9) r_14 e49_1) (va_cwS 1 hts gX10_judge_X10_tenThousandTo rfl rfl rfl ds_X10_tenThousandTo ⟨Nat.le_of_ble_eq_true rfl, Nat.le_of_ble_eq_true rfl⟩) [] rfl rfl rfl hl.1 rfl (Nat.le_of_ble_eq_true rfl) dX10_judge_49 ⟨Nat.zero_le _, Nat.zero_le _⟩ ?_
            obtain ⟨hg, h⟩ := grd_el h
            refine lv_ldiv hx hb dX10_judge_52 (nzL_ne hg) ?_
            refine lv_ldc2 (v := (10000 : Int64)) hx hb S.1.2.2.2.1 (hts (.constantLong RX10 230 (10000)) (List.mem_of_getElem? (i := 2) rfl)) dX10_judge_53 ?_
            refine lv_lrem hx hb dX10_judge_56 (by decide) ?_
            refine lv_l2i hx hb dX10_judge_57 rfl ?_
            refine lv_topi (fun x5_15 ex5_15 => ?_)
            replace h := bnd_at ex5_15 h
            refine lv_istore (lv' := [(5, .int x5_15), (0, .ref a_this), (1, .int y1), (2, .long y2), (4, .int x4_9)]) hx hb dX10_judge_58 hl (by decide) rfl (fun ls hl => ?_)
            refine lv_aload_n hx hb dX10_judge_60 rfl (lv_at hl 1 rfl) ?_
            refine lv_iload hx hb dX10_judge_61 (lv_at hl 0 rfl) ?_
            refine lv_sipush (v := (1000 : Int32)) hx hb dX10_judge_63 (by decide) ?_
            refine lv_idiv hx hb dX10_judge_66 (by decide) ?_
            refine lv_iload hx hb dX10_judge_67 (lv_at hl 0 rfl) ?_
            refine lv_bipush (v := (10 : Int32)) hx hb dX10_judge_69 (by decide) ?_
            refine lv_idiv hx hb dX10_judge_71 (by decide) ?_
            refine lv_bipush (v := (100 : Int32)) hx hb dX10_judge_72 (by decide) ?_
            refine lv_irem hx hb dX10_judge_74 (by decide) ?_
            refine lv_iload hx hb dX10_judge_75 (lv_at hl 0 rfl) ?_
            refine lv_bipush (v := (10 : Int32)) hx hb dX10_judge_77 (by decide) ?_
            refine lv_irem hx hb dX10_judge_79 (by decide) ?_
            obtain ⟨r_16, k_now_17, k_before_18, k_after_19, k_values_20, e80_1, h⟩ := obd5_el h
            refine zc_VI (As := [.int (x5_15 / (1000 : Int32)), .int ((x5_15 / (10 : Int32)) - (x5_15 / (10 : Int32)) / (100 : Int32) * (100 : Int32)), .int (x5_15 - x5_15 / (10 : Int32) * (10 : Int32))]) (rest := []) (wr := []) (q0 := 0) S hw (c_X10_tryThing l D cI cJ cZ cS H.size N a_this a_now a_pathGates a_pathInput a_other a_one a_before a_after a_values a_next a_readOne a_readOther a_readNext a_text a_taken a_waves a_row a_seenPair a_seenTime a_seenLate a_isKept a_kept i_this_inputs i_this_gates i_this_readInputs i_this_readGates i_this_length i_this_paths i_this_acts i_this_turn i_this_seen i_this_seed k_now_10 k_pathGates k_pathInput k_other k_one k_before_11 k_after_12 k_values_13 k_next (x5_15 / (1000 : Int32)) ((x5_15 / (10 : Int32)) - (x5_15 / (10 : Int32)) / (100 : Int32) * (100 : Int32)) (x5_15 - x5_15 / (10 : Int32) * (10 : Int32)) r_16 k_now_17 k_before_18 k_after_19 k_values_20 e80_1) (cwV 3 hts gX10_judge_X10_tryThing rfl rfl rfl dv_X10_tryThing ⟨Nat.le_of_ble_eq_true rfl, Nat.le_of_ble_eq_true rfl⟩) [0, 1, 2, 3, 4, 5, 6, 7, 8, 9] [] rfl rfl rfl rfl (by decide) rfl rfl rfl rfl hl.1 rfl (Nat.le_of_ble_eq_true rfl) dX10_judge_80 ⟨Nat.zero_le _, Nat.zero_le _⟩ (fun H locs hw => ?_)
            refine lv_if_ne (tgt := 89) hx hb dX10_judge_83 (by decide) (fun hc => ?_) (fun hc => ?_)
            · replace h := if_f hc h
              obtain ⟨x4_21, ex4_21, h⟩ := bnd_ex h
              refine lv_iinc (v := x4_21) (lv' := [(4, .int x4_21), (5, .int x5_15), (0, .ref a_this), (1, .int y1), (2, .long y2)]) hx hb dX10_judge_89 hl (k := 4) rfl (by rw [ex4_21]; rfl) (by decide) rfl (fun ls hl => ?_)
              refine lv_goto (tgt := 36) hx hb dX10_judge_92 (by decide) ?_
              exact ih_36 x4_21 k_now_17 k_before_18 k_after_19 k_values_20 H locs ls h hw (lv_sub hl [2, 3, 4, 0] rfl)
            · replace h := if_t hc h
              refine lv_iload hx hb dX10_judge_86 (lv_at hl 4 rfl) ?_
              cases h
              exact z_iret S hQ hr hw [0, 1, 2, 3, 4, 5, 6, 7, 8, 9] rfl rfl dX10_judge_88
      exact hL36_1 N ((0 : Int32)) k_now_4 k_before k_after k_values H locs ls h (hw.sub [8, 9, 0, 1, 2, 3, 4, 5, 6, 7] rfl rfl) (lv_sub hl [1, 2, 3, 0] rfl)
    · replace h := if_t hc h
      refine lv_bipush (v := (-2 : Int32)) hx hb dX10_judge_26 (by decide) ?_
      cases h
      exact z_iret S hQ hr hw [0, 1, 2, 3, 4, 5, 6, 7, 8, 9] rfl rfl dX10_judge_28
abbrev rmX10_see : Room := { frames := 1, cells := 0, slots := 0, locals := 25 }
theorem dv_X10_see : yX10_see.cls = RX10 ∧ yX10_see.cls ≠ "java/lang/invoke/MethodHandle" ∧ yX10_see.cls ≠ "java/lang/invoke/VarHandle" ∧ (parseMethodDescriptor yX10_see.desc).map (fun d => d.parameters.length) = some 3 := by decide +kernel
noncomputable def f_X10_see (N : Nat) (y1 : Int32) (y2 : Int32) (y3 : Int32) (i_this_seen : Int32) (k_seenPair : (Nat → Int32)) (k_seenTime : (Nat → Int32)) (k_seenLate : (Nat → Int32)) : Option (Int32 × Int32 × (Nat → Int32) × (Nat → Int32) × (Nat → Int32)) :=
  obd1 (f_X10_in N (y1.toInt64) (0 : Int64) (255 : Int64)) fun (r_1 : Int32) => (if r_1 = (0 : Int32) then (some ((-2 : Int32), i_this_seen, k_seenPair, k_seenTime, k_seenLate)) else (obd1 (f_X10_in N (y2.toInt64) (0 : Int64) (99 : Int64)) fun (r_2 : Int32) => (if r_2 = (0 : Int32) then (some ((-2 : Int32), i_this_seen, k_seenPair, k_seenTime, k_seenLate)) else (obd1 (f_X10_in N (y3.toInt64) (0 : Int64) (1 : Int64)) fun (r_3 : Int32) => (if r_3 = (0 : Int32) then (some ((-2 : Int32), i_this_seen, k_seenPair, k_seenTime, k_seenLate)) else ((if i_this_seen = (6 : Int32) then (some ((-4 : Int32), i_this_seen, k_seenPair, k_seenTime, k_seenLate)) else (grd (inb i_this_seen 6) <| bnd (upd k_seenPair i_this_seen.toNatClampNeg y1) fun (k_seenPair_4 : (Nat → Int32)) => grd (inb i_this_seen 6) <| bnd (upd k_seenTime i_this_seen.toNatClampNeg y2) fun (k_seenTime_5 : (Nat → Int32)) => grd (inb i_this_seen 6) <| bnd (upd k_seenLate i_this_seen.toNatClampNeg y3) fun (k_seenLate_6 : (Nat → Int32)) => bnd ((i_this_seen + (1 : Int32))) fun (i_seen_7 : Int32) => some (i_seen_7, i_seen_7, k_seenPair_4, k_seenTime_5, k_seenLate_6)))))))))
set_option maxHeartbeats 4000000 in
set_option maxRecDepth 100000 in
theorem c_X10_see (l : Launch) (D : va_G) (cI cJ cZ cS : ClassId) (sz N : Nat) (a_this a_seenPair a_seenTime a_seenLate a_now a_one a_other a_next a_readOne a_readOther a_readNext a_text a_pathInput a_pathGates a_before a_after a_values a_taken a_waves a_row a_isKept a_kept : Nat) (i_this_inputs : Int32) (i_this_gates : Int32) (i_this_readInputs : Int32) (i_this_readGates : Int32) (i_this_length : Int32) (i_this_paths : Int32) (i_this_acts : Int32) (i_this_turn : Int32) (i_this_seen : Int32) (i_this_seed : Int64) (k_seenPair : (Nat → Int32)) (k_seenTime : (Nat → Int32)) (k_seenLate : (Nat → Int32)) (y1 : Int32) (y2 : Int32) (y3 : Int32) (rr : Int32) (o_this_seen : Int32) (o_seenPair : (Nat → Int32)) (o_seenTime : (Nat → Int32)) (o_seenLate : (Nat → Int32)) (hf : f_X10_see N y1 y2 y3 i_this_seen k_seenPair k_seenTime k_seenLate = some (rr, o_this_seen, o_seenPair, o_seenTime, o_seenLate)) : MetI l yX10_see wsX10_see rmX10_see D (tyA cI cJ cZ cS) [(a_this, .inr (10, [.int i_this_inputs, .int i_this_gates, .ref a_now, .ref a_one, .ref a_other, .ref a_next, .int i_this_readInputs, .int i_this_readGates, .ref a_readOne, .ref a_readOther, .ref a_readNext, .ref a_text, .int i_this_length, .int i_this_paths, .ref a_pathInput, .ref a_pathGates, .ref a_before, .ref a_after, .ref a_values, .ref a_taken, .ref a_waves, .int i_this_acts, .int i_this_turn, .ref a_row, .int i_this_seen, .ref a_seenPair, .ref a_seenTime, .ref a_seenLate, .long i_this_seed, .ref a_isKept, .ref a_kept])), (a_seenPair, .inl (cI, 6, .inl k_seenPair)), (a_seenTime, .inl (cI, 6, .inl k_seenTime)), (a_seenLate, .inl (cI, 6, .inl k_seenLate))] sz [.ref a_this, .int y1, .int y2, .int y3] rr [(a_this, .inr (10, [.int i_this_inputs, .int i_this_gates, .ref a_now, .ref a_one, .ref a_other, .ref a_next, .int i_this_readInputs, .int i_this_readGates, .ref a_readOne, .ref a_readOther, .ref a_readNext, .ref a_text, .int i_this_length, .int i_this_paths, .ref a_pathInput, .ref a_pathGates, .ref a_before, .ref a_after, .ref a_values, .ref a_taken, .ref a_waves, .int i_this_acts, .int i_this_turn, .ref a_row, .int o_this_seen, .ref a_seenPair, .ref a_seenTime, .ref a_seenLate, .long i_this_seed, .ref a_isKept, .ref a_kept])), (a_seenPair, .inl (cI, 6, .inl o_seenPair)), (a_seenTime, .inl (cI, 6, .inl o_seenTime)), (a_seenLate, .inl (cI, 6, .inl o_seenLate))] := by
  refine entI (cc := cX10_see) (maxL := 4) (own := RX10) (by decide) rfl rfl (Nat.le_of_ble_eq_true rfl) ?_
  intro p e s m args below meth c A ls Q H locs S hr hw hl hQ
  have hx := S.1.1
  have hb := S.1.2.1
  have hts := S.1.2.2.2.2
  have hl : lv_has ls 4 [(0, .ref a_this), (1, .int y1), (2, .int y2), (3, .int y3)] := hl
  have hinX10 : ∀ w ∈ u_ws RX10 TX10 31, w ∈ wsX10_see := (fun _ h => List.mem_cons_of_mem _ (List.mem_append_right _ h))
  have F58 : FLk s args wsX10_see RX10 58 RX10 TX10 31 10 25 := ⟨hinX10, rfl, by decide, hts (.fieldLink RX10 58 "SlowPathsModel" "seenPair" "[I") (List.mem_of_getElem? (i := 4) rfl)⟩
  have F61 : FLk s args wsX10_see RX10 61 RX10 TX10 31 10 26 := ⟨hinX10, rfl, by decide, hts (.fieldLink RX10 61 "SlowPathsModel" "seenTime" "[I") (List.mem_of_getElem? (i := 5) rfl)⟩
  have F64 : FLk s args wsX10_see RX10 64 RX10 TX10 31 10 27 := ⟨hinX10, rfl, by decide, hts (.fieldLink RX10 64 "SlowPathsModel" "seenLate" "[I") (List.mem_of_getElem? (i := 6) rfl)⟩
  have F244 : FLk s args wsX10_see RX10 244 RX10 TX10 31 10 24 := ⟨hinX10, rfl, by decide, hts (.fieldLink RX10 244 "SlowPathsModel" "seen" "I") (List.mem_of_getElem? (i := 3) rfl)⟩
  have P244 : PLk TX10 31 24 tyX10 false .int := ⟨tyX10_ok, nmX10, rfl, rfl⟩
  have h := hf
  rw [f_X10_see] at h
  refine lv_iload_n hx hb dX10_see_0 rfl (lv_at hl 1 rfl) ?_
  refine lv_i2l hx hb dX10_see_1 rfl ?_
  refine lv_lconst (v := (0 : Int64)) hx hb dX10_see_2 (by decide) ?_
  refine lv_ldc2 (v := (255 : Int64)) hx hb S.1.2.2.2.1 (hts (.constantLong RX10 74 (255)) (List.mem_of_getElem? (i := 1) rfl)) dX10_see_3 ?_
  obtain ⟨r_1, e6_1, h⟩ := obd1_el h
  refine zr_SI (As := [.long (y1.toInt64), .long (0 : Int64), .long (255 : Int64)]) (rest := []) (q0 := 0) (ci := 0) (fs := []) (qc := (RX0, TX0, 4)) S hw (c_X10_in l D cI cJ cZ cS H.size N (y1.toInt64) (0 : Int64) (255 : Int64) r_1 e6_1) (va_cwS 3 hts gX10_see_X10_in rfl rfl rfl ds_X10_in ⟨Nat.le_of_ble_eq_true rfl, Nat.le_of_ble_eq_true rfl⟩) [] rfl rfl rfl hl.1 rfl (Nat.le_of_ble_eq_true rfl) dX10_see_6 ⟨Nat.zero_le _, Nat.zero_le _⟩ ?_
  refine lv_if_eq (tgt := 34) hx hb dX10_see_9 (by decide) (fun hc => ?_) (fun hc => ?_)
  · replace h := if_t hc h
    refine lv_bipush (v := (-2 : Int32)) hx hb dX10_see_34 (by decide) ?_
    cases h
    exact z_iret S hQ hr hw [0, 1, 2, 3] rfl rfl dX10_see_36
  · replace h := if_f hc h
    refine lv_iload_n hx hb dX10_see_12 rfl (lv_at hl 2 rfl) ?_
    refine lv_i2l hx hb dX10_see_13 rfl ?_
    refine lv_lconst (v := (0 : Int64)) hx hb dX10_see_14 (by decide) ?_
    refine lv_ldc2 (v := (99 : Int64)) hx hb S.1.2.2.2.1 (hts (.constantLong RX10 208 (99)) (List.mem_of_getElem? (i := 2) rfl)) dX10_see_15 ?_
    obtain ⟨r_2, e18_1, h⟩ := obd1_el h
    refine zr_SI (As := [.long (y2.toInt64), .long (0 : Int64), .long (99 : Int64)]) (rest := []) (q0 := 0) (ci := 0) (fs := []) (qc := (RX0, TX0, 4)) S hw (c_X10_in l D cI cJ cZ cS H.size N (y2.toInt64) (0 : Int64) (99 : Int64) r_2 e18_1) (va_cwS 3 hts gX10_see_X10_in rfl rfl rfl ds_X10_in ⟨Nat.le_of_ble_eq_true rfl, Nat.le_of_ble_eq_true rfl⟩) [] rfl rfl rfl hl.1 rfl (Nat.le_of_ble_eq_true rfl) dX10_see_18 ⟨Nat.zero_le _, Nat.zero_le _⟩ ?_
    refine lv_if_eq (tgt := 34) hx hb dX10_see_21 (by decide) (fun hc => ?_) (fun hc => ?_)
    · replace h := if_t hc h
      refine lv_bipush (v := (-2 : Int32)) hx hb dX10_see_34 (by decide) ?_
      cases h
      exact z_iret S hQ hr hw [0, 1, 2, 3] rfl rfl dX10_see_36
    · replace h := if_f hc h
      refine lv_iload_n hx hb dX10_see_24 rfl (lv_at hl 3 rfl) ?_
      refine lv_i2l hx hb dX10_see_25 rfl ?_
      refine lv_lconst (v := (0 : Int64)) hx hb dX10_see_26 (by decide) ?_
      refine lv_lconst (v := (1 : Int64)) hx hb dX10_see_27 (by decide) ?_
      obtain ⟨r_3, e28_1, h⟩ := obd1_el h
      refine zr_SI (As := [.long (y3.toInt64), .long (0 : Int64), .long (1 : Int64)]) (rest := []) (q0 := 0) (ci := 0) (fs := []) (qc := (RX0, TX0, 4)) S hw (c_X10_in l D cI cJ cZ cS H.size N (y3.toInt64) (0 : Int64) (1 : Int64) r_3 e28_1) (va_cwS 3 hts gX10_see_X10_in rfl rfl rfl ds_X10_in ⟨Nat.le_of_ble_eq_true rfl, Nat.le_of_ble_eq_true rfl⟩) [] rfl rfl rfl hl.1 rfl (Nat.le_of_ble_eq_true rfl) dX10_see_28 ⟨Nat.zero_le _, Nat.zero_le _⟩ ?_
      refine lv_if_ne (tgt := 37) hx hb dX10_see_31 (by decide) (fun hc => ?_) (fun hc => ?_)
      · replace h := if_f hc h
        refine lv_aload_n hx hb dX10_see_37 rfl (lv_at hl 0 rfl) ?_
        refine z_get S hw F244 0 rfl rfl dX10_see_38 ?_
        refine lv_bipush (v := (6 : Int32)) hx hb dX10_see_41 (by decide) ?_
        refine lv_icmp_ne (tgt := 49) hx hb dX10_see_43 (by decide) (fun hc => ?_) (fun hc => ?_)
        · replace h := if_f hc h
          refine lv_aload_n hx hb dX10_see_49 rfl (lv_at hl 0 rfl) ?_
          refine z_get S hw F58 0 rfl rfl dX10_see_50 ?_
          refine lv_aload_n hx hb dX10_see_53 rfl (lv_at hl 0 rfl) ?_
          refine z_get S hw F244 0 rfl rfl dX10_see_54 ?_
          refine lv_iload_n hx hb dX10_see_57 rfl (lv_at hl 1 rfl) ?_
          obtain ⟨hg, h⟩ := grd_el h
          obtain ⟨k_seenPair_4, ek_seenPair_4, h⟩ := bnd_ex h
          refine z_iast S hw ek_seenPair_4 1 0 rfl rfl hg dX10_see_58 (fun H locs hw => ?_)
          refine lv_aload_n hx hb dX10_see_59 rfl (lv_at hl 0 rfl) ?_
          refine z_get S hw F61 0 rfl rfl dX10_see_60 ?_
          refine lv_aload_n hx hb dX10_see_63 rfl (lv_at hl 0 rfl) ?_
          refine z_get S hw F244 0 rfl rfl dX10_see_64 ?_
          refine lv_iload_n hx hb dX10_see_67 rfl (lv_at hl 2 rfl) ?_
          obtain ⟨hg, h⟩ := grd_el h
          obtain ⟨k_seenTime_5, ek_seenTime_5, h⟩ := bnd_ex h
          refine z_iast S hw ek_seenTime_5 2 0 rfl rfl hg dX10_see_68 (fun H locs hw => ?_)
          refine lv_aload_n hx hb dX10_see_69 rfl (lv_at hl 0 rfl) ?_
          refine z_get S hw F64 0 rfl rfl dX10_see_70 ?_
          refine lv_aload_n hx hb dX10_see_73 rfl (lv_at hl 0 rfl) ?_
          refine z_get S hw F244 0 rfl rfl dX10_see_74 ?_
          refine lv_iload_n hx hb dX10_see_77 rfl (lv_at hl 3 rfl) ?_
          obtain ⟨hg, h⟩ := grd_el h
          obtain ⟨k_seenLate_6, ek_seenLate_6, h⟩ := bnd_ex h
          refine z_iast S hw ek_seenLate_6 3 0 rfl rfl hg dX10_see_78 (fun H locs hw => ?_)
          refine lv_aload_n hx hb dX10_see_79 rfl (lv_at hl 0 rfl) ?_
          refine lv_dup hx hb dX10_see_80 rfl ?_
          refine z_get S hw F244 0 rfl rfl dX10_see_81 ?_
          refine lv_iconst (v := (1 : Int32)) hx hb dX10_see_84 (by decide) ?_
          refine lv_iadd hx hb dX10_see_85 ?_
          refine lv_topi (fun i_seen_7 ei_seen_7 => ?_)
          replace h := bnd_at ei_seen_7 h
          refine z_put S hw F244 P244 rfl rfl 0 rfl (Nat.le_of_ble_eq_true rfl) dX10_see_86 (fun H locs hw => ?_)
          refine lv_aload_n hx hb dX10_see_89 rfl (lv_at hl 0 rfl) ?_
          refine z_get S hw F244 0 rfl rfl dX10_see_90 ?_
          cases h
          exact z_iret S hQ hr hw [0, 1, 2, 3] rfl rfl dX10_see_93
        · replace h := if_t hc h
          refine lv_bipush (v := (-4 : Int32)) hx hb dX10_see_46 (by decide) ?_
          cases h
          exact z_iret S hQ hr hw [0, 1, 2, 3] rfl rfl dX10_see_48
      · replace h := if_t hc h
        refine lv_bipush (v := (-2 : Int32)) hx hb dX10_see_34 (by decide) ?_
        cases h
        exact z_iret S hQ hr hw [0, 1, 2, 3] rfl rfl dX10_see_36
abbrev rmX10_unsee : Room := { frames := 0, cells := 0, slots := 0, locals := 0 }
theorem dv_X10_unsee : yX10_unsee.cls = RX10 ∧ yX10_unsee.cls ≠ "java/lang/invoke/MethodHandle" ∧ yX10_unsee.cls ≠ "java/lang/invoke/VarHandle" ∧ (parseMethodDescriptor yX10_unsee.desc).map (fun d => d.parameters.length) = some 0 := by decide +kernel
noncomputable def f_X10_unsee (N : Nat)  (i_this_seen : Int32) : Option (Int32 × Int32) :=
  some (i_this_seen, (0 : Int32))
set_option maxHeartbeats 4000000 in
set_option maxRecDepth 100000 in
theorem c_X10_unsee (l : Launch) (D : va_G) (cI cJ cZ cS : ClassId) (sz N : Nat) (a_this a_now a_one a_other a_next a_readOne a_readOther a_readNext a_text a_pathInput a_pathGates a_before a_after a_values a_taken a_waves a_row a_seenPair a_seenTime a_seenLate a_isKept a_kept : Nat) (i_this_inputs : Int32) (i_this_gates : Int32) (i_this_readInputs : Int32) (i_this_readGates : Int32) (i_this_length : Int32) (i_this_paths : Int32) (i_this_acts : Int32) (i_this_turn : Int32) (i_this_seen : Int32) (i_this_seed : Int64)  (rr : Int32) (o_this_seen : Int32) (hf : f_X10_unsee N i_this_seen = some (rr, o_this_seen)) : MetI l yX10_unsee wsX10_unsee rmX10_unsee D (tyA cI cJ cZ cS) [(a_this, .inr (10, [.int i_this_inputs, .int i_this_gates, .ref a_now, .ref a_one, .ref a_other, .ref a_next, .int i_this_readInputs, .int i_this_readGates, .ref a_readOne, .ref a_readOther, .ref a_readNext, .ref a_text, .int i_this_length, .int i_this_paths, .ref a_pathInput, .ref a_pathGates, .ref a_before, .ref a_after, .ref a_values, .ref a_taken, .ref a_waves, .int i_this_acts, .int i_this_turn, .ref a_row, .int i_this_seen, .ref a_seenPair, .ref a_seenTime, .ref a_seenLate, .long i_this_seed, .ref a_isKept, .ref a_kept]))] sz [.ref a_this] rr [(a_this, .inr (10, [.int i_this_inputs, .int i_this_gates, .ref a_now, .ref a_one, .ref a_other, .ref a_next, .int i_this_readInputs, .int i_this_readGates, .ref a_readOne, .ref a_readOther, .ref a_readNext, .ref a_text, .int i_this_length, .int i_this_paths, .ref a_pathInput, .ref a_pathGates, .ref a_before, .ref a_after, .ref a_values, .ref a_taken, .ref a_waves, .int i_this_acts, .int i_this_turn, .ref a_row, .int o_this_seen, .ref a_seenPair, .ref a_seenTime, .ref a_seenLate, .long i_this_seed, .ref a_isKept, .ref a_kept]))] := by
  refine entI (cc := cX10_unsee) (maxL := 2) (own := RX10) (by decide) rfl rfl (Nat.le_of_ble_eq_true rfl) ?_
  intro p e s m args below meth c A ls Q H locs S hr hw hl hQ
  have hx := S.1.1
  have hb := S.1.2.1
  have hts := S.1.2.2.2.2
  have hl : lv_has ls 2 [(0, .ref a_this)] := hl
  have hinX10 : ∀ w ∈ u_ws RX10 TX10 31, w ∈ wsX10_unsee := (fun _ h => List.mem_cons_of_mem _ (List.mem_append_right _ h))
  have F244 : FLk s args wsX10_unsee RX10 244 RX10 TX10 31 10 24 := ⟨hinX10, rfl, by decide, hts (.fieldLink RX10 244 "SlowPathsModel" "seen" "I") (List.mem_of_getElem? (i := 1) rfl)⟩
  have P244 : PLk TX10 31 24 tyX10 false .int := ⟨tyX10_ok, nmX10, rfl, rfl⟩
  have h := hf
  rw [f_X10_unsee] at h
  refine lv_aload_n hx hb dX10_unsee_0 rfl (lv_at hl 0 rfl) ?_
  refine z_get S hw F244 0 rfl rfl dX10_unsee_1 ?_
  refine lv_istore_n (lv' := [(1, .int i_this_seen), (0, .ref a_this)]) hx hb dX10_unsee_4 rfl hl (by decide) rfl (fun ls hl => ?_)
  refine lv_aload_n hx hb dX10_unsee_5 rfl (lv_at hl 1 rfl) ?_
  refine lv_iconst (v := (0 : Int32)) hx hb dX10_unsee_6 (by decide) ?_
  refine z_put S hw F244 P244 rfl rfl 0 rfl (Nat.le_of_ble_eq_true rfl) dX10_unsee_7 (fun H locs hw => ?_)
  refine lv_iload_n hx hb dX10_unsee_10 rfl (lv_at hl 0 rfl) ?_
  cases h
  exact z_iret S hQ hr hw [0] rfl rfl dX10_unsee_11
