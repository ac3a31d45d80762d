abbrev rmX10_addsOn : Room := { frames := 2, cells := 0, slots := 0, locals := 50 }
theorem dv_X10_addsOn : yX10_addsOn.cls = RX10 ∧ yX10_addsOn.cls ≠ "java/lang/invoke/MethodHandle" ∧ yX10_addsOn.cls ≠ "java/lang/invoke/VarHandle" ∧ (parseMethodDescriptor yX10_addsOn.desc).map (fun d => d.parameters.length) = some 1 := by decide +kernel
noncomputable def f_X10_addsOn_L4 (N : Nat) (y1 : Int32) (i_this_gates : Int32) (i_this_paths : Int32) (k_pathInput : (Nat → Int32)) (k_after : (Nat → Int32)) (k_pathGates : (Nat → Int32)) (k_before : (Nat → Int32)) (k_now : (Nat → Int32)) (k_one : (Nat → Int32)) (k_values : (Nat → Int32)) (k_other : (Nat → Int32)) (j113_1 : Int32 → (Nat → Int32) → Option (Int32 × (Nat → Int32))) : Nat → Int32 → Int32 → (Nat → Int32) → Option (Int32 × (Nat → Int32))
  | 0, _, _, _ => none
  | n_4 + 1, x2_3, x3_4, k_taken_5 =>
    (if i_this_paths ≤ x3_4 then (j113_1 x2_3 k_taken_5) else (grd (inb x3_4 64) <| grd (inb (k_pathInput x3_4.toNatClampNeg) 12) <| bnd ((((2 : Int32) * x3_4) + (k_after (k_pathInput x3_4.toNatClampNeg).toNatClampNeg))) fun (x4_6 : Int32) => grd (inb x4_6 128) <| bnd (fun (t_7 : Int32) => (bnd (fun (t_8 : Int32) (t_9 : Int32) => (bnd ((t_9 + t_8)) fun (x2_10 : Int32) => bnd (fun (t_11 : Int32) (t_12 : Int32) => (grd (inb t_12 128) <| bnd (upd k_taken_5 t_12.toNatClampNeg t_11) fun (k_taken_13 : (Nat → Int32)) => bnd (x3_4 + (1 : Int32)) fun (x3_14 : Int32) => f_X10_addsOn_L4 N y1 i_this_gates i_this_paths k_pathInput k_after k_pathGates k_before k_now k_one k_values k_other j113_1 n_4 x2_10 x3_14 k_taken_13)) fun (j106_1 : Int32 → Int32 → Option (Int32 × (Nat → Int32))) => bnd (fun (t_15 : Int32) => (grd (inb x4_6 128) <| j106_1 ((k_taken_5 x4_6.toNatClampNeg)) t_15)) fun (j99_1 : Int32 → Option (Int32 × (Nat → Int32))) => (if y1 = (0 : Int32) then (j99_1 x4_6) else ((if t_7 = (0 : Int32) then (j99_1 x4_6) else (j106_1 ((1 : Int32)) x4_6)))))) fun (j78_1 : Int32 → Int32 → Option (Int32 × (Nat → Int32))) => (if t_7 = (0 : Int32) then (j78_1 ((0 : Int32)) x2_3) else (j78_1 ((1 : Int32)) x2_3)))) fun (j65_1 : Int32 → Option (Int32 × (Nat → Int32))) => bnd (α := Option (Int32 × (Nat → Int32))) (j65_1 ((0 : Int32))) fun (j64_1 : Option (Int32 × (Nat → Int32))) => (if (k_taken_5 x4_6.toNatClampNeg) = (0 : Int32) then (grd (inb x3_4 64) <| grd (inb x3_4 64) <| obd1 (f_X10_testsOf N (0 : Int32) (k_pathInput x3_4.toNatClampNeg) (k_pathGates x3_4.toNatClampNeg) i_this_gates k_before k_after k_now k_one k_values k_other) fun (r_16 : Int32) => (if r_16 = (2 : Int32) then (j65_1 ((1 : Int32))) else (j64_1))) else (j64_1))))
noncomputable def f_X10_addsOn (N : Nat) (y1 : Int32) (i_this_gates : Int32) (i_this_paths : Int32) (k_pathInput : (Nat → Int32)) (k_after : (Nat → Int32)) (k_taken : (Nat → Int32)) (k_pathGates : (Nat → Int32)) (k_before : (Nat → Int32)) (k_now : (Nat → Int32)) (k_one : (Nat → Int32)) (k_values : (Nat → Int32)) (k_other : (Nat → Int32)) : Option (Int32 × (Nat → Int32)) :=
  bnd (fun (x2_1 : Int32) (k_taken_2 : (Nat → Int32)) => (some (x2_1, k_taken_2))) fun (j113_1 : Int32 → (Nat → Int32) → Option (Int32 × (Nat → Int32))) => f_X10_addsOn_L4 N y1 i_this_gates i_this_paths k_pathInput k_after k_pathGates k_before k_now k_one k_values k_other j113_1 N ((0 : Int32)) ((0 : Int32)) k_taken
set_option maxHeartbeats 4000000 in
set_option maxRecDepth 100000 in
theorem c_X10_addsOn (l : Launch) (D : va_G) (cI cJ cZ cS : ClassId) (sz N : Nat) (a_this a_pathInput a_after a_taken a_pathGates a_before a_now a_one a_values a_other a_next a_readOne a_readOther a_readNext a_text a_waves a_row a_seenPair a_seenTime a_seenLate a_isKept a_kept : Nat) (i_this_inputs : Int32) (i_this_gates : Int32) (i_this_readInputs : Int32) (i_this_readGates : Int32) (i_this_length : Int32) (i_this_paths : Int32) (i_this_acts : Int32) (i_this_turn : Int32) (i_this_seen : Int32) (i_this_seed : Int64) (k_pathInput : (Nat → Int32)) (k_after : (Nat → Int32)) (k_taken : (Nat → Int32)) (k_pathGates : (Nat → Int32)) (k_before : (Nat → Int32)) (k_now : (Nat → Int32)) (k_one : (Nat → Int32)) (k_values : (Nat → Int32)) (k_other : (Nat → Int32)) (y1 : Int32) (rr : Int32) (o_taken : (Nat → Int32)) (hf : f_X10_addsOn N y1 i_this_gates i_this_paths k_pathInput k_after k_taken k_pathGates k_before k_now k_one k_values k_other = some (rr, o_taken)) : MetI l yX10_addsOn wsX10_addsOn rmX10_addsOn D (tyA cI cJ cZ cS) [(a_this, .inr (10, [.int i_this_inputs, .int i_this_gates, .ref a_now, .ref a_one, .ref a_other, .ref a_next, .int i_this_readInputs, .int i_this_readGates, .ref a_readOne, .ref a_readOther, .ref a_readNext, .ref a_text, .int i_this_length, .int i_this_paths, .ref a_pathInput, .ref a_pathGates, .ref a_before, .ref a_after, .ref a_values, .ref a_taken, .ref a_waves, .int i_this_acts, .int i_this_turn, .ref a_row, .int i_this_seen, .ref a_seenPair, .ref a_seenTime, .ref a_seenLate, .long i_this_seed, .ref a_isKept, .ref a_kept])), (a_pathInput, .inl (cI, 64, .inl k_pathInput)), (a_after, .inl (cI, 12, .inl k_after)), (a_taken, .inl (cI, 128, .inl k_taken)), (a_pathGates, .inl (cI, 64, .inl k_pathGates)), (a_before, .inl (cI, 12, .inl k_before)), (a_now, .inl (cI, 32, .inl k_now)), (a_one, .inl (cI, 8, .inl k_one)), (a_values, .inl (cI, 12, .inl k_values)), (a_other, .inl (cI, 8, .inl k_other))] sz [.ref a_this, .int y1] rr [(a_this, .inr (10, [.int i_this_inputs, .int i_this_gates, .ref a_now, .ref a_one, .ref a_other, .ref a_next, .int i_this_readInputs, .int i_this_readGates, .ref a_readOne, .ref a_readOther, .ref a_readNext, .ref a_text, .int i_this_length, .int i_this_paths, .ref a_pathInput, .ref a_pathGates, .ref a_before, .ref a_after, .ref a_values, .ref a_taken, .ref a_waves, .int i_this_acts, .int i_this_turn, .ref a_row, .int i_this_seen, .ref a_seenPair, .ref a_seenTime, .ref a_seenLate, .long i_this_seed, .ref a_isKept, .ref a_kept])), (a_pathInput, .inl (cI, 64, .inl k_pathInput)), (a_after, .inl (cI, 12, .inl k_after)), (a_taken, .inl (cI, 128, .inl o_taken)), (a_pathGates, .inl (cI, 64, .inl k_pathGates)), (a_before, .inl (cI, 12, .inl k_before)), (a_now, .inl (cI, 32, .inl k_now)), (a_one, .inl (cI, 8, .inl k_one)), (a_values, .inl (cI, 12, .inl k_values)), (a_other, .inl (cI, 8, .inl k_other))] := by
  refine entI (cc := cX10_addsOn) (maxL := 6) (own := RX10) (by decide) rfl rfl (Nat.le_of_ble_eq_true rfl) ?_
  intro p e s m args below meth c A ls Q H locs S hr hw hl hQ
  have hx := S.1.1
  have hb := S.1.2.1
  have hts := S.1.2.2.2.2
  have hl : lv_has ls 6 [(0, .ref a_this), (1, .int y1)] := hl
  have hinX10 : ∀ w ∈ u_ws RX10 TX10 31, w ∈ wsX10_addsOn := (fun _ h => List.mem_cons_of_mem _ (List.mem_append_right _ h))
  have F34 : FLk s args wsX10_addsOn RX10 34 RX10 TX10 31 10 14 := ⟨hinX10, rfl, by decide, hts (.fieldLink RX10 34 "SlowPathsModel" "pathInput" "[I") (List.mem_of_getElem? (i := 3) rfl)⟩
  have F37 : FLk s args wsX10_addsOn RX10 37 RX10 TX10 31 10 15 := ⟨hinX10, rfl, by decide, hts (.fieldLink RX10 37 "SlowPathsModel" "pathGates" "[I") (List.mem_of_getElem? (i := 5) rfl)⟩
  have F43 : FLk s args wsX10_addsOn RX10 43 RX10 TX10 31 10 17 := ⟨hinX10, rfl, by decide, hts (.fieldLink RX10 43 "SlowPathsModel" "after" "[I") (List.mem_of_getElem? (i := 2) rfl)⟩
  have F49 : FLk s args wsX10_addsOn RX10 49 RX10 TX10 31 10 19 := ⟨hinX10, rfl, by decide, hts (.fieldLink RX10 49 "SlowPathsModel" "taken" "[I") (List.mem_of_getElem? (i := 4) rfl)⟩
  have F124 : FLk s args wsX10_addsOn RX10 124 RX10 TX10 31 10 13 := ⟨hinX10, rfl, by decide, hts (.fieldLink RX10 124 "SlowPathsModel" "paths" "I") (List.mem_of_getElem? (i := 1) rfl)⟩
  have h := hf
  rw [f_X10_addsOn] at h
  refine lv_iconst (v := (0 : Int32)) hx hb dX10_addsOn_0 (by decide) ?_
  refine lv_istore_n (lv' := [(2, .int (0 : Int32)), (0, .ref a_this), (1, .int y1)]) hx hb dX10_addsOn_1 rfl hl (by decide) rfl (fun ls hl => ?_)
  refine lv_iconst (v := (0 : Int32)) hx hb dX10_addsOn_2 (by decide) ?_
  refine lv_istore_n (lv' := [(3, .int (0 : Int32)), (2, .int (0 : Int32)), (0, .ref a_this), (1, .int y1)]) hx hb dX10_addsOn_3 rfl hl (by decide) rfl (fun ls hl => ?_)
  obtain ⟨j113_1, ej113_1, h⟩ := bnd_ex h
  have hj113_1 : ∀ (x2_1 : Int32) (k_taken_2 : (Nat → Int32)) (H : Heap) (locs : List Loc) (ls : Array Slot), j113_1 x2_1 k_taken_2 = some (rr, o_taken) → Wd D (tyA cI cJ cZ cS) A s [(a_this, .inr (10, [.int i_this_inputs, .int i_this_gates, .ref a_now, .ref a_one, .ref a_other, .ref a_next, .int i_this_readInputs, .int i_this_readGates, .ref a_readOne, .ref a_readOther, .ref a_readNext, .ref a_text, .int i_this_length, .int i_this_paths, .ref a_pathInput, .ref a_pathGates, .ref a_before, .ref a_after, .ref a_values, .ref a_taken, .ref a_waves, .int i_this_acts, .int i_this_turn, .ref a_row, .int i_this_seen, .ref a_seenPair, .ref a_seenTime, .ref a_seenLate, .long i_this_seed, .ref a_isKept, .ref a_kept])), (a_pathInput, .inl (cI, 64, .inl k_pathInput)), (a_after, .inl (cI, 12, .inl k_after)), (a_taken, .inl (cI, 128, .inl k_taken_2)), (a_pathGates, .inl (cI, 64, .inl k_pathGates)), (a_before, .inl (cI, 12, .inl k_before)), (a_now, .inl (cI, 32, .inl k_now)), (a_one, .inl (cI, 8, .inl k_one)), (a_values, .inl (cI, 12, .inl k_values)), (a_other, .inl (cI, 8, .inl k_other))] H locs → lv_has ls 6 [(2, .int x2_1)] → W p l e rmX10_addsOn s m args below meth c H locs 0 0 Q (F0 m 113 ls []) := by
    intro x2_1 k_taken_2 H locs ls h hw hl
    replace h := ap2 ej113_1 h
    refine lv_iload_n hx hb dX10_addsOn_113 rfl (lv_at hl 0 rfl) ?_
    cases h
    exact z_iret S hQ hr hw [0, 1, 2, 3, 4, 5, 6, 7, 8, 9] rfl rfl dX10_addsOn_114
  have hL4_1 : ∀ (nf : Nat) (x2_3 : Int32) (x3_4 : Int32) (k_taken_5 : (Nat → Int32)) (H : Heap) (locs : List Loc) (ls : Array Slot), f_X10_addsOn_L4 N y1 i_this_gates i_this_paths k_pathInput k_after k_pathGates k_before k_now k_one k_values k_other j113_1 nf x2_3 x3_4 k_taken_5 = some (rr, o_taken) → Wd D (tyA cI cJ cZ cS) A s [(a_this, .inr (10, [.int i_this_inputs, .int i_this_gates, .ref a_now, .ref a_one, .ref a_other, .ref a_next, .int i_this_readInputs, .int i_this_readGates, .ref a_readOne, .ref a_readOther, .ref a_readNext, .ref a_text, .int i_this_length, .int i_this_paths, .ref a_pathInput, .ref a_pathGates, .ref a_before, .ref a_after, .ref a_values, .ref a_taken, .ref a_waves, .int i_this_acts, .int i_this_turn, .ref a_row, .int i_this_seen, .ref a_seenPair, .ref a_seenTime, .ref a_seenLate, .long i_this_seed, .ref a_isKept, .ref a_kept])), (a_pathInput, .inl (cI, 64, .inl k_pathInput)), (a_after, .inl (cI, 12, .inl k_after)), (a_taken, .inl (cI, 128, .inl k_taken_5)), (a_pathGates, .inl (cI, 64, .inl k_pathGates)), (a_before, .inl (cI, 12, .inl k_before)), (a_now, .inl (cI, 32, .inl k_now)), (a_one, .inl (cI, 8, .inl k_one)), (a_values, .inl (cI, 12, .inl k_values)), (a_other, .inl (cI, 8, .inl k_other))] H locs → lv_has ls 6 [(0, .ref a_this), (1, .int y1), (2, .int x2_3), (3, .int x3_4)] → W p l e rmX10_addsOn s m args below meth c H locs 0 0 Q (F0 m 4 ls []) := by
    intro nf
    induction nf with
    | zero =>
      intro x2_3 x3_4 k_taken_5 H locs ls h
      rw [f_X10_addsOn_L4] at h
      cases h
    | succ n_4 ih_4 =>
      intro x2_3 x3_4 k_taken_5 H locs ls h hw hl
      rw [f_X10_addsOn_L4] at h
      refine lv_iload_n hx hb dX10_addsOn_4 rfl (lv_at hl 3 rfl) ?_
      refine lv_aload_n hx hb dX10_addsOn_5 rfl (lv_at hl 0 rfl) ?_
      refine z_get S hw F124 0 rfl rfl dX10_addsOn_6 ?_
      refine lv_icmp_ge (tgt := 113) hx hb dX10_addsOn_9 (by decide) (fun hc => ?_) (fun hc => ?_)
      · replace h := if_t hc h
        exact hj113_1 x2_3 k_taken_5 H locs ls h hw (lv_sub hl [2] rfl)
      · replace h := if_f hc h
        refine lv_iconst (v := (2 : Int32)) hx hb dX10_addsOn_12 (by decide) ?_
        refine lv_iload_n hx hb dX10_addsOn_13 rfl (lv_at hl 3 rfl) ?_
        refine lv_imul hx hb dX10_addsOn_14 ?_
        refine lv_aload_n hx hb dX10_addsOn_15 rfl (lv_at hl 0 rfl) ?_
        refine z_get S hw F43 0 rfl rfl dX10_addsOn_16 ?_
        refine lv_aload_n hx hb dX10_addsOn_19 rfl (lv_at hl 0 rfl) ?_
        refine z_get S hw F34 0 rfl rfl dX10_addsOn_20 ?_
        refine lv_iload_n hx hb dX10_addsOn_23 rfl (lv_at hl 3 rfl) ?_
        obtain ⟨hg, h⟩ := grd_el h
        refine z_iald S hw 1 0 rfl rfl hg dX10_addsOn_24 ?_
        obtain ⟨hg, h⟩ := grd_el h
        refine z_iald S hw 2 0 rfl rfl hg dX10_addsOn_25 ?_
        refine lv_iadd hx hb dX10_addsOn_26 ?_
        refine lv_topi (fun x4_6 ex4_6 => ?_)
        replace h := bnd_at ex4_6 h
        refine lv_istore (lv' := [(4, .int x4_6), (0, .ref a_this), (1, .int y1), (2, .int x2_3), (3, .int x3_4)]) hx hb dX10_addsOn_27 hl (by decide) rfl (fun ls hl => ?_)
        refine lv_aload_n hx hb dX10_addsOn_29 rfl (lv_at hl 1 rfl) ?_
        refine z_get S hw F49 0 rfl rfl dX10_addsOn_30 ?_
        refine lv_iload hx hb dX10_addsOn_33 (lv_at hl 0 rfl) ?_
        obtain ⟨hg, h⟩ := grd_el h
        refine z_iald S hw 3 0 rfl rfl hg dX10_addsOn_35 ?_
        obtain ⟨j65_1, ej65_1, h⟩ := bnd_ex h
        have hj65_1 : ∀ (t_7 : Int32) (H : Heap) (locs : List Loc) (ls : Array Slot), j65_1 t_7 = some (rr, o_taken) → Wd D (tyA cI cJ cZ cS) A s [(a_this, .inr (10, [.int i_this_inputs, .int i_this_gates, .ref a_now, .ref a_one, .ref a_other, .ref a_next, .int i_this_readInputs, .int i_this_readGates, .ref a_readOne, .ref a_readOther, .ref a_readNext, .ref a_text, .int i_this_length, .int i_this_paths, .ref a_pathInput, .ref a_pathGates, .ref a_before, .ref a_after, .ref a_values, .ref a_taken, .ref a_waves, .int i_this_acts, .int i_this_turn, .ref a_row, .int i_this_seen, .ref a_seenPair, .ref a_seenTime, .ref a_seenLate, .long i_this_seed, .ref a_isKept, .ref a_kept])), (a_pathInput, .inl (cI, 64, .inl k_pathInput)), (a_after, .inl (cI, 12, .inl k_after)), (a_taken, .inl (cI, 128, .inl k_taken_5)), (a_pathGates, .inl (cI, 64, .inl k_pathGates)), (a_before, .inl (cI, 12, .inl k_before)), (a_now, .inl (cI, 32, .inl k_now)), (a_one, .inl (cI, 8, .inl k_one)), (a_values, .inl (cI, 12, .inl k_values)), (a_other, .inl (cI, 8, .inl k_other))] H locs → lv_has ls 6 [(0, .ref a_this), (1, .int y1), (2, .int x2_3), (3, .int x3_4), (4, .int x4_6)] → W p l e rmX10_addsOn s m args below meth c H locs 0 0 Q (F0 m 65 ls [.int t_7]) := by
          intro t_7 H locs ls h hw hl
          replace h := ap1 ej65_1 h
          refine lv_istore (lv' := [(5, .int t_7), (0, .ref a_this), (1, .int y1), (2, .int x2_3), (3, .int x3_4), (4, .int x4_6)]) hx hb dX10_addsOn_65 hl (by decide) rfl (fun ls hl => ?_)
          refine lv_iload_n hx hb dX10_addsOn_67 rfl (lv_at hl 3 rfl) ?_
          refine lv_iload hx hb dX10_addsOn_68 (lv_at hl 0 rfl) ?_
          obtain ⟨j78_1, ej78_1, h⟩ := bnd_ex h
          have hj78_1 : ∀ (t_8 : Int32) (t_9 : Int32) (H : Heap) (locs : List Loc) (ls : Array Slot), j78_1 t_8 t_9 = some (rr, o_taken) → Wd D (tyA cI cJ cZ cS) A s [(a_this, .inr (10, [.int i_this_inputs, .int i_this_gates, .ref a_now, .ref a_one, .ref a_other, .ref a_next, .int i_this_readInputs, .int i_this_readGates, .ref a_readOne, .ref a_readOther, .ref a_readNext, .ref a_text, .int i_this_length, .int i_this_paths, .ref a_pathInput, .ref a_pathGates, .ref a_before, .ref a_after, .ref a_values, .ref a_taken, .ref a_waves, .int i_this_acts, .int i_this_turn, .ref a_row, .int i_this_seen, .ref a_seenPair, .ref a_seenTime, .ref a_seenLate, .long i_this_seed, .ref a_isKept, .ref a_kept])), (a_pathInput, .inl (cI, 64, .inl k_pathInput)), (a_after, .inl (cI, 12, .inl k_after)), (a_taken, .inl (cI, 128, .inl k_taken_5)), (a_pathGates, .inl (cI, 64, .inl k_pathGates)), (a_before, .inl (cI, 12, .inl k_before)), (a_now, .inl (cI, 32, .inl k_now)), (a_one, .inl (cI, 8, .inl k_one)), (a_values, .inl (cI, 12, .inl k_values)), (a_other, .inl (cI, 8, .inl k_other))] H locs → lv_has ls 6 [(0, .ref a_this), (1, .int y1), (3, .int x3_4), (4, .int x4_6), (5, .int t_7)] → W p l e rmX10_addsOn s m args below meth c H locs 0 0 Q (F0 m 78 ls [.int t_8, .int t_9]) := by
            intro t_8 t_9 H locs ls h hw hl
            replace h := ap2 ej78_1 h
            refine lv_iadd hx hb dX10_addsOn_78 ?_
            refine lv_topi (fun x2_10 ex2_10 => ?_)
            replace h := bnd_at ex2_10 h
            refine lv_istore_n (lv' := [(2, .int x2_10), (0, .ref a_this), (1, .int y1), (3, .int x3_4), (4, .int x4_6), (5, .int t_7)]) hx hb dX10_addsOn_79 rfl hl (by decide) rfl (fun ls hl => ?_)
            refine lv_aload_n hx hb dX10_addsOn_80 rfl (lv_at hl 1 rfl) ?_
            refine z_get S hw F49 0 rfl rfl dX10_addsOn_81 ?_
            refine lv_iload hx hb dX10_addsOn_84 (lv_at hl 4 rfl) ?_
            refine lv_iload_n hx hb dX10_addsOn_86 rfl (lv_at hl 2 rfl) ?_
            obtain ⟨j106_1, ej106_1, h⟩ := bnd_ex h
            have hj106_1 : ∀ (t_11 : Int32) (t_12 : Int32) (H : Heap) (locs : List Loc) (ls : Array Slot), j106_1 t_11 t_12 = some (rr, o_taken) → Wd D (tyA cI cJ cZ cS) A s [(a_this, .inr (10, [.int i_this_inputs, .int i_this_gates, .ref a_now, .ref a_one, .ref a_other, .ref a_next, .int i_this_readInputs, .int i_this_readGates, .ref a_readOne, .ref a_readOther, .ref a_readNext, .ref a_text, .int i_this_length, .int i_this_paths, .ref a_pathInput, .ref a_pathGates, .ref a_before, .ref a_after, .ref a_values, .ref a_taken, .ref a_waves, .int i_this_acts, .int i_this_turn, .ref a_row, .int i_this_seen, .ref a_seenPair, .ref a_seenTime, .ref a_seenLate, .long i_this_seed, .ref a_isKept, .ref a_kept])), (a_pathInput, .inl (cI, 64, .inl k_pathInput)), (a_after, .inl (cI, 12, .inl k_after)), (a_taken, .inl (cI, 128, .inl k_taken_5)), (a_pathGates, .inl (cI, 64, .inl k_pathGates)), (a_before, .inl (cI, 12, .inl k_before)), (a_now, .inl (cI, 32, .inl k_now)), (a_one, .inl (cI, 8, .inl k_one)), (a_values, .inl (cI, 12, .inl k_values)), (a_other, .inl (cI, 8, .inl k_other))] H locs → lv_has ls 6 [(0, .ref a_this), (1, .int y1), (2, .int x2_10), (3, .int x3_4)] → W p l e rmX10_addsOn s m args below meth c H locs 0 0 Q (F0 m 106 ls [.int t_11, .int t_12, .ref a_taken]) := by
              intro t_11 t_12 H locs ls h hw hl
              replace h := ap2 ej106_1 h
              obtain ⟨hg, h⟩ := grd_el h
              obtain ⟨k_taken_13, ek_taken_13, h⟩ := bnd_ex h
              refine z_iast S hw ek_taken_13 3 0 rfl rfl hg dX10_addsOn_106 (fun H locs hw => ?_)
              obtain ⟨x3_14, ex3_14, h⟩ := bnd_ex h
              refine lv_iinc (v := x3_14) (lv' := [(3, .int x3_14), (0, .ref a_this), (1, .int y1), (2, .int x2_10)]) hx hb dX10_addsOn_107 hl (k := 3) rfl (by rw [ex3_14]; rfl) (by decide) rfl (fun ls hl => ?_)
              refine lv_goto (tgt := 4) hx hb dX10_addsOn_110 (by decide) ?_
              exact ih_4 x2_10 x3_14 k_taken_13 H locs ls h hw (lv_sub hl [1, 2, 3, 0] rfl)
            obtain ⟨j99_1, ej99_1, h⟩ := bnd_ex h
            have hj99_1 : ∀ (t_15 : Int32) (H : Heap) (locs : List Loc) (ls : Array Slot), j99_1 t_15 = some (rr, o_taken) → Wd D (tyA cI cJ cZ cS) A s [(a_this, .inr (10, [.int i_this_inputs, .int i_this_gates, .ref a_now, .ref a_one, .ref a_other, .ref a_next, .int i_this_readInputs, .int i_this_readGates, .ref a_readOne, .ref a_readOther, .ref a_readNext, .ref a_text, .int i_this_length, .int i_this_paths, .ref a_pathInput, .ref a_pathGates, .ref a_before, .ref a_after, .ref a_values, .ref a_taken, .ref a_waves, .int i_this_acts, .int i_this_turn, .ref a_row, .int i_this_seen, .ref a_seenPair, .ref a_seenTime, .ref a_seenLate, .long i_this_seed, .ref a_isKept, .ref a_kept])), (a_pathInput, .inl (cI, 64, .inl k_pathInput)), (a_after, .inl (cI, 12, .inl k_after)), (a_taken, .inl (cI, 128, .inl k_taken_5)), (a_pathGates, .inl (cI, 64, .inl k_pathGates)), (a_before, .inl (cI, 12, .inl k_before)), (a_now, .inl (cI, 32, .inl k_now)), (a_one, .inl (cI, 8, .inl k_one)), (a_values, .inl (cI, 12, .inl k_values)), (a_other, .inl (cI, 8, .inl k_other))] H locs → lv_has ls 6 [(0, .ref a_this), (1, .int y1), (2, .int x2_10), (3, .int x3_4), (4, .int x4_6)] → W p l e rmX10_addsOn s m args below meth c H locs 0 0 Q (F0 m 99 ls [.int t_15, .ref a_taken]) := by
              intro t_15 H locs ls h hw hl
              replace h := ap1 ej99_1 h
              refine lv_aload_n hx hb dX10_addsOn_99 rfl (lv_at hl 0 rfl) ?_
              refine z_get S hw F49 0 rfl rfl dX10_addsOn_100 ?_
              refine lv_iload hx hb dX10_addsOn_103 (lv_at hl 4 rfl) ?_
              obtain ⟨hg, h⟩ := grd_el h
              refine z_iald S hw 3 0 rfl rfl hg dX10_addsOn_105 ?_
              exact hj106_1 ((k_taken_5 x4_6.toNatClampNeg)) t_15 H locs ls h hw (lv_sub hl [0, 1, 2, 3] rfl)
            refine lv_if_eq (tgt := 99) hx hb dX10_addsOn_87 (by decide) (fun hc => ?_) (fun hc => ?_)
            · replace h := if_t hc h
              exact hj99_1 x4_6 H locs ls h hw (lv_sub hl [1, 2, 0, 3, 4] rfl)
            · replace h := if_f hc h
              refine lv_iload hx hb dX10_addsOn_90 (lv_at hl 5 rfl) ?_
              refine lv_if_eq (tgt := 99) hx hb dX10_addsOn_92 (by decide) (fun hc => ?_) (fun hc => ?_)
              · replace h := if_t hc h
                exact hj99_1 x4_6 H locs ls h hw (lv_sub hl [1, 2, 0, 3, 4] rfl)
              · replace h := if_f hc h
                refine lv_iconst (v := (1 : Int32)) hx hb dX10_addsOn_95 (by decide) ?_
                refine lv_goto (tgt := 106) hx hb dX10_addsOn_96 (by decide) ?_
                exact hj106_1 ((1 : Int32)) x4_6 H locs ls h hw (lv_sub hl [1, 2, 0, 3] rfl)
          refine lv_if_eq (tgt := 77) hx hb dX10_addsOn_70 (by decide) (fun hc => ?_) (fun hc => ?_)
          · replace h := if_t hc h
            refine lv_iconst (v := (0 : Int32)) hx hb dX10_addsOn_77 (by decide) ?_
            exact hj78_1 ((0 : Int32)) x2_3 H locs ls h hw (lv_sub hl [1, 2, 4, 5, 0] rfl)
          · replace h := if_f hc h
            refine lv_iconst (v := (1 : Int32)) hx hb dX10_addsOn_73 (by decide) ?_
            refine lv_goto (tgt := 78) hx hb dX10_addsOn_74 (by decide) ?_
            exact hj78_1 ((1 : Int32)) x2_3 H locs ls h hw (lv_sub hl [1, 2, 4, 5, 0] rfl)
        obtain ⟨j64_1, ej64_1, h⟩ := bnd_ex h
        have hj64_1 : ∀ (H : Heap) (locs : List Loc) (ls : Array Slot), j64_1 = some (rr, o_taken) → Wd D (tyA cI cJ cZ cS) A s [(a_this, .inr (10, [.int i_this_inputs, .int i_this_gates, .ref a_now, .ref a_one, .ref a_other, .ref a_next, .int i_this_readInputs, .int i_this_readGates, .ref a_readOne, .ref a_readOther, .ref a_readNext, .ref a_text, .int i_this_length, .int i_this_paths, .ref a_pathInput, .ref a_pathGates, .ref a_before, .ref a_after, .ref a_values, .ref a_taken, .ref a_waves, .int i_this_acts, .int i_this_turn, .ref a_row, .int i_this_seen, .ref a_seenPair, .ref a_seenTime, .ref a_seenLate, .long i_this_seed, .ref a_isKept, .ref a_kept])), (a_pathInput, .inl (cI, 64, .inl k_pathInput)), (a_after, .inl (cI, 12, .inl k_after)), (a_taken, .inl (cI, 128, .inl k_taken_5)), (a_pathGates, .inl (cI, 64, .inl k_pathGates)), (a_before, .inl (cI, 12, .inl k_before)), (a_now, .inl (cI, 32, .inl k_now)), (a_one, .inl (cI, 8, .inl k_one)), (a_values, .inl (cI, 12, .inl k_values)), (a_other, .inl (cI, 8, .inl k_other))] H locs → lv_has ls 6 [(0, .ref a_this), (1, .int y1), (2, .int x2_3), (3, .int x3_4), (4, .int x4_6)] → W p l e rmX10_addsOn s m args below meth c H locs 0 0 Q (F0 m 64 ls []) := by
          intro H locs ls h hw hl
          replace h := ap0 ej64_1 h
          refine lv_iconst (v := (0 : Int32)) hx hb dX10_addsOn_64 (by decide) ?_
          exact hj65_1 ((0 : Int32)) H locs ls h hw hl
        refine lv_if_ne (tgt := 64) hx hb dX10_addsOn_36 (by decide) (fun hc => ?_) (fun hc => ?_)
        · replace h := if_f hc h
          exact hj64_1  H locs ls h hw (lv_sub hl [1, 2, 3, 4, 0] rfl)
        · replace h := if_t hc h
          refine lv_aload_n hx hb dX10_addsOn_39 rfl (lv_at hl 1 rfl) ?_
          refine lv_iconst (v := (0 : Int32)) hx hb dX10_addsOn_40 (by decide) ?_
          refine lv_aload_n hx hb dX10_addsOn_41 rfl (lv_at hl 1 rfl) ?_
          refine z_get S hw F34 0 rfl rfl dX10_addsOn_42 ?_
          refine lv_iload_n hx hb dX10_addsOn_45 rfl (lv_at hl 4 rfl) ?_
          obtain ⟨hg, h⟩ := grd_el h
          refine z_iald S hw 1 0 rfl rfl hg dX10_addsOn_46 ?_
          refine lv_aload_n hx hb dX10_addsOn_47 rfl (lv_at hl 1 rfl) ?_
          refine z_get S hw F37 0 rfl rfl dX10_addsOn_48 ?_
          refine lv_iload_n hx hb dX10_addsOn_51 rfl (lv_at hl 4 rfl) ?_
          obtain ⟨hg, h⟩ := grd_el h
          refine z_iald S hw 4 0 rfl rfl hg dX10_addsOn_52 ?_
          obtain ⟨r_16, e53_1, h⟩ := obd1_el h
          refine zr_VI (As := [.int (0 : Int32), .int (k_pathInput x3_4.toNatClampNeg), .int (k_pathGates x3_4.toNatClampNeg)]) (rest := []) (q0 := 0) S hw (c_X10_testsOf l D cI cJ cZ cS H.size N a_this a_before a_after a_now a_one a_values a_other a_next a_readOne a_readOther a_readNext a_text a_pathInput a_pathGates a_taken a_waves a_row a_seenPair a_seenTime a_seenLate a_isKept a_kept i_this_inputs i_this_gates i_this_readInputs i_this_readGates i_this_length i_this_paths i_this_acts i_this_turn i_this_seen i_this_seed k_before k_after k_now k_one k_values k_other (0 : Int32) (k_pathInput x3_4.toNatClampNeg) (k_pathGates x3_4.toNatClampNeg) r_16 e53_1) (cwV 3 hts gX10_addsOn_X10_testsOf rfl rfl rfl dv_X10_testsOf ⟨Nat.le_of_ble_eq_true rfl, Nat.le_of_ble_eq_true rfl⟩) [0, 5, 2, 6, 7, 8, 9] rfl rfl rfl rfl rfl rfl hl.1 rfl (Nat.le_of_ble_eq_true rfl) dX10_addsOn_53 ⟨Nat.zero_le _, Nat.zero_le _⟩ ?_
          refine lv_iconst (v := (2 : Int32)) hx hb dX10_addsOn_56 (by decide) ?_
          refine lv_icmp_ne (tgt := 64) hx hb dX10_addsOn_57 (by decide) (fun hc => ?_) (fun hc => ?_)
          · replace h := if_f hc h
            exact hj64_1  H locs ls h hw (lv_sub hl [1, 2, 3, 4, 0] rfl)
          · replace h := if_t hc h
            refine lv_iconst (v := (1 : Int32)) hx hb dX10_addsOn_60 (by decide) ?_
            refine lv_goto (tgt := 65) hx hb dX10_addsOn_61 (by decide) ?_
            exact hj65_1 ((1 : Int32)) H locs ls h hw (lv_sub hl [1, 2, 3, 4, 0] rfl)
  exact hL4_1 N ((0 : Int32)) ((0 : Int32)) k_taken H locs ls h hw (lv_sub hl [2, 3, 1, 0] rfl)
abbrev rmX10_bestPair : Room := { frames := 3, cells := 0, slots := 0, locals := 75 }
theorem dv_X10_bestPair : yX10_bestPair.cls = RX10 ∧ yX10_bestPair.cls ≠ "java/lang/invoke/MethodHandle" ∧ yX10_bestPair.cls ≠ "java/lang/invoke/VarHandle" ∧ (parseMethodDescriptor yX10_bestPair.desc).map (fun d => d.parameters.length) = some 1 := by decide +kernel
noncomputable def f_X10_bestPair_L8 (N : Nat) (y1 : Int32) (i_this_inputs : Int32) (i_this_gates : Int32) (i_this_paths : Int32) (k_now : (Nat → Int32)) (k_other : (Nat → Int32)) (k_one : (Nat → Int32)) (k_next : (Nat → Int32)) (k_pathInput : (Nat → Int32)) (k_pathGates : (Nat → Int32)) (j83_1 : Int32 → (Nat → Int32) → (Nat → Int32) → (Nat → Int32) → (Nat → Int32) → Option (Int32 × (Nat → Int32) × (Nat → Int32) × (Nat → Int32) × (Nat → Int32))) : Nat → Int32 → Int32 → Int32 → (Nat → Int32) → (Nat → Int32) → (Nat → Int32) → (Nat → Int32) → Option (Int32 × (Nat → Int32) × (Nat → Int32) × (Nat → Int32) × (Nat → Int32))
  | 0, _, _, _, _, _, _, _ => none
  | n_8 + 1, x2_6, x3_7, x4_8, k_before_9, k_after_10, k_values_11, k_taken_12 =>
    (if (256 : Int32) ≤ x4_8 then (j83_1 x2_6 k_before_9 k_after_10 k_values_11 k_taken_12) else (obd1 (f_X10_isPair N x4_8 i_this_inputs) fun (r_13 : Int32) => bnd (fun (x2_14 : Int32) (x3_15 : Int32) (k_before_16 : (Nat → Int32)) (k_after_17 : (Nat → Int32)) (k_values_18 : (Nat → Int32)) (k_taken_19 : (Nat → Int32)) => (bnd (x4_8 + (1 : Int32)) fun (x4_20 : Int32) => f_X10_bestPair_L8 N y1 i_this_inputs i_this_gates i_this_paths k_now k_other k_one k_next k_pathInput k_pathGates j83_1 n_8 x2_14 x3_15 x4_20 k_before_16 k_after_17 k_values_18 k_taken_19)) fun (j77_1 : Int32 → Int32 → (Nat → Int32) → (Nat → Int32) → (Nat → Int32) → (Nat → Int32) → Option (Int32 × (Nat → Int32) × (Nat → Int32) × (Nat → Int32) × (Nat → Int32))) => (if r_13 = (0 : Int32) then (j77_1 x2_6 x3_7 k_before_9 k_after_10 k_values_11 k_taken_12) else (obd3 (f_X10_findPair N (0 : Int32) x4_8 i_this_inputs i_this_gates k_now k_other k_one k_before_9 k_after_10 k_values_11) fun (k_before_21 : (Nat → Int32)) (k_after_22 : (Nat → Int32)) (k_values_23 : (Nat → Int32)) => obd1 (f_X10_isLaunched N y1 i_this_inputs k_after_22 k_next k_before_21) fun (r_24 : Int32) => bnd (fun (t_25 : Int32) (k_taken_26 : (Nat → Int32)) => (bnd (fun (t_27 : Int32) => (bnd (fun (t_28 : Int32) => (j77_1 t_27 t_28 k_before_21 k_after_22 k_values_23 k_taken_26)) fun (j76_1 : Int32 → Option (Int32 × (Nat → Int32) × (Nat → Int32) × (Nat → Int32) × (Nat → Int32))) => (if t_25 ≤ x3_7 then (j76_1 x3_7) else (j76_1 t_25)))) fun (j63_1 : Int32 → Option (Int32 × (Nat → Int32) × (Nat → Int32) × (Nat → Int32) × (Nat → Int32))) => (if t_25 ≤ x3_7 then (j63_1 x2_6) else (j63_1 x4_8)))) fun (j49_1 : Int32 → (Nat → Int32) → Option (Int32 × (Nat → Int32) × (Nat → Int32) × (Nat → Int32) × (Nat → Int32))) => (if r_24 = (0 : Int32) then (j49_1 ((0 : Int32)) k_taken_12) else (obd2 (f_X10_addsOn N (0 : Int32) i_this_gates i_this_paths k_pathInput k_after_22 k_taken_12 k_pathGates k_before_21 k_now k_one k_values_23 k_other) fun (r_29 : Int32) (k_taken_30 : (Nat → Int32)) => j49_1 r_29 k_taken_30))))))
noncomputable def f_X10_bestPair (N : Nat) (y1 : Int32) (i_this_inputs : Int32) (i_this_gates : Int32) (i_this_paths : Int32) (k_now : (Nat → Int32)) (k_other : (Nat → Int32)) (k_one : (Nat → Int32)) (k_before : (Nat → Int32)) (k_after : (Nat → Int32)) (k_values : (Nat → Int32)) (k_next : (Nat → Int32)) (k_pathInput : (Nat → Int32)) (k_taken : (Nat → Int32)) (k_pathGates : (Nat → Int32)) : Option (Int32 × (Nat → Int32) × (Nat → Int32) × (Nat → Int32) × (Nat → Int32)) :=
  bnd (fun (x2_1 : Int32) (k_before_2 : (Nat → Int32)) (k_after_3 : (Nat → Int32)) (k_values_4 : (Nat → Int32)) (k_taken_5 : (Nat → Int32)) => (some (x2_1, k_before_2, k_after_3, k_values_4, k_taken_5))) fun (j83_1 : Int32 → (Nat → Int32) → (Nat → Int32) → (Nat → Int32) → (Nat → Int32) → Option (Int32 × (Nat → Int32) × (Nat → Int32) × (Nat → Int32) × (Nat → Int32))) => f_X10_bestPair_L8 N y1 i_this_inputs i_this_gates i_this_paths k_now k_other k_one k_next k_pathInput k_pathGates j83_1 N ((-9 : Int32)) ((0 : Int32)) ((0 : Int32)) k_before k_after k_values k_taken
set_option maxHeartbeats 4000000 in
set_option maxRecDepth 100000 in
theorem c_X10_bestPair (l : Launch) (D : va_G) (cI cJ cZ cS : ClassId) (sz N : Nat) (a_this a_now a_other a_one a_before a_after a_values a_next a_pathInput a_taken a_pathGates a_readOne a_readOther a_readNext a_text a_waves a_row a_seenPair a_seenTime a_seenLate a_isKept a_kept : Nat) (i_this_inputs : Int32) (i_this_gates : Int32) (i_this_readInputs : Int32) (i_this_readGates : Int32) (i_this_length : Int32) (i_this_paths : Int32) (i_this_acts : Int32) (i_this_turn : Int32) (i_this_seen : Int32) (i_this_seed : Int64) (k_now : (Nat → Int32)) (k_other : (Nat → Int32)) (k_one : (Nat → Int32)) (k_before : (Nat → Int32)) (k_after : (Nat → Int32)) (k_values : (Nat → Int32)) (k_next : (Nat → Int32)) (k_pathInput : (Nat → Int32)) (k_taken : (Nat → Int32)) (k_pathGates : (Nat → Int32)) (y1 : Int32) (rr : Int32) (o_before : (Nat → Int32)) (o_after : (Nat → Int32)) (o_values : (Nat → Int32)) (o_taken : (Nat → Int32)) (hf : f_X10_bestPair N y1 i_this_inputs i_this_gates i_this_paths k_now k_other k_one k_before k_after k_values k_next k_pathInput k_taken k_pathGates = some (rr, o_before, o_after, o_values, o_taken)) : MetI l yX10_bestPair wsX10_bestPair rmX10_bestPair D (tyA cI cJ cZ cS) [(a_this, .inr (10, [.int i_this_inputs, .int i_this_gates, .ref a_now, .ref a_one, .ref a_other, .ref a_next, .int i_this_readInputs, .int i_this_readGates, .ref a_readOne, .ref a_readOther, .ref a_readNext, .ref a_text, .int i_this_length, .int i_this_paths, .ref a_pathInput, .ref a_pathGates, .ref a_before, .ref a_after, .ref a_values, .ref a_taken, .ref a_waves, .int i_this_acts, .int i_this_turn, .ref a_row, .int i_this_seen, .ref a_seenPair, .ref a_seenTime, .ref a_seenLate, .long i_this_seed, .ref a_isKept, .ref a_kept])), (a_now, .inl (cI, 32, .inl k_now)), (a_other, .inl (cI, 8, .inl k_other)), (a_one, .inl (cI, 8, .inl k_one)), (a_before, .inl (cI, 12, .inl k_before)), (a_after, .inl (cI, 12, .inl k_after)), (a_values, .inl (cI, 12, .inl k_values)), (a_next, .inl (cI, 4, .inl k_next)), (a_pathInput, .inl (cI, 64, .inl k_pathInput)), (a_taken, .inl (cI, 128, .inl k_taken)), (a_pathGates, .inl (cI, 64, .inl k_pathGates))] sz [.ref a_this, .int y1] rr [(a_this, .inr (10, [.int i_this_inputs, .int i_this_gates, .ref a_now, .ref a_one, .ref a_other, .ref a_next, .int i_this_readInputs, .int i_this_readGates, .ref a_readOne, .ref a_readOther, .ref a_readNext, .ref a_text, .int i_this_length, .int i_this_paths, .ref a_pathInput, .ref a_pathGates, .ref a_before, .ref a_after, .ref a_values, .ref a_taken, .ref a_waves, .int i_this_acts, .int i_this_turn, .ref a_row, .int i_this_seen, .ref a_seenPair, .ref a_seenTime, .ref a_seenLate, .long i_this_seed, .ref a_isKept, .ref a_kept])), (a_now, .inl (cI, 32, .inl k_now)), (a_other, .inl (cI, 8, .inl k_other)), (a_one, .inl (cI, 8, .inl k_one)), (a_before, .inl (cI, 12, .inl o_before)), (a_after, .inl (cI, 12, .inl o_after)), (a_values, .inl (cI, 12, .inl o_values)), (a_next, .inl (cI, 4, .inl k_next)), (a_pathInput, .inl (cI, 64, .inl k_pathInput)), (a_taken, .inl (cI, 128, .inl o_taken)), (a_pathGates, .inl (cI, 64, .inl k_pathGates))] := by
  refine entI (cc := cX10_bestPair) (maxL := 6) (own := RX10) (by decide) rfl rfl (Nat.le_of_ble_eq_true rfl) ?_
  intro p e s m args below meth c A ls Q H locs S hr hw hl hQ
  have hx := S.1.1
  have hb := S.1.2.1
  have hts := S.1.2.2.2.2
  have hl : lv_has ls 6 [(0, .ref a_this), (1, .int y1)] := hl
  have h := hf
  rw [f_X10_bestPair] at h
  refine lv_bipush (v := (-9 : Int32)) hx hb dX10_bestPair_0 (by decide) ?_
  refine lv_istore_n (lv' := [(2, .int (-9 : Int32)), (0, .ref a_this), (1, .int y1)]) hx hb dX10_bestPair_2 rfl hl (by decide) rfl (fun ls hl => ?_)
  refine lv_iconst (v := (0 : Int32)) hx hb dX10_bestPair_3 (by decide) ?_
  refine lv_istore_n (lv' := [(3, .int (0 : Int32)), (2, .int (-9 : Int32)), (0, .ref a_this), (1, .int y1)]) hx hb dX10_bestPair_4 rfl hl (by decide) rfl (fun ls hl => ?_)
  refine lv_iconst (v := (0 : Int32)) hx hb dX10_bestPair_5 (by decide) ?_
  refine lv_istore (lv' := [(4, .int (0 : Int32)), (3, .int (0 : Int32)), (2, .int (-9 : Int32)), (0, .ref a_this), (1, .int y1)]) hx hb dX10_bestPair_6 hl (by decide) rfl (fun ls hl => ?_)
  obtain ⟨j83_1, ej83_1, h⟩ := bnd_ex h
  have hj83_1 : ∀ (x2_1 : Int32) (k_before_2 : (Nat → Int32)) (k_after_3 : (Nat → Int32)) (k_values_4 : (Nat → Int32)) (k_taken_5 : (Nat → Int32)) (H : Heap) (locs : List Loc) (ls : Array Slot), j83_1 x2_1 k_before_2 k_after_3 k_values_4 k_taken_5 = some (rr, o_before, o_after, o_values, o_taken) → Wd D (tyA cI cJ cZ cS) A s [(a_this, .inr (10, [.int i_this_inputs, .int i_this_gates, .ref a_now, .ref a_one, .ref a_other, .ref a_next, .int i_this_readInputs, .int i_this_readGates, .ref a_readOne, .ref a_readOther, .ref a_readNext, .ref a_text, .int i_this_length, .int i_this_paths, .ref a_pathInput, .ref a_pathGates, .ref a_before, .ref a_after, .ref a_values, .ref a_taken, .ref a_waves, .int i_this_acts, .int i_this_turn, .ref a_row, .int i_this_seen, .ref a_seenPair, .ref a_seenTime, .ref a_seenLate, .long i_this_seed, .ref a_isKept, .ref a_kept])), (a_now, .inl (cI, 32, .inl k_now)), (a_other, .inl (cI, 8, .inl k_other)), (a_one, .inl (cI, 8, .inl k_one)), (a_before, .inl (cI, 12, .inl k_before_2)), (a_after, .inl (cI, 12, .inl k_after_3)), (a_values, .inl (cI, 12, .inl k_values_4)), (a_next, .inl (cI, 4, .inl k_next)), (a_pathInput, .inl (cI, 64, .inl k_pathInput)), (a_taken, .inl (cI, 128, .inl k_taken_5)), (a_pathGates, .inl (cI, 64, .inl k_pathGates))] H locs → lv_has ls 6 [(2, .int x2_1)] → W p l e rmX10_bestPair s m args below meth c H locs 0 0 Q (F0 m 83 ls []) := by
    intro x2_1 k_before_2 k_after_3 k_values_4 k_taken_5 H locs ls h hw hl
    replace h := ap5 ej83_1 h
    refine lv_iload_n hx hb dX10_bestPair_83 rfl (lv_at hl 0 rfl) ?_
    cases h
    exact z_iret S hQ hr hw [0, 1, 2, 3, 4, 5, 6, 7, 8, 9, 10] rfl rfl dX10_bestPair_84
  have hL8_1 : ∀ (nf : Nat) (x2_6 : Int32) (x3_7 : Int32) (x4_8 : Int32) (k_before_9 : (Nat → Int32)) (k_after_10 : (Nat → Int32)) (k_values_11 : (Nat → Int32)) (k_taken_12 : (Nat → Int32)) (H : Heap) (locs : List Loc) (ls : Array Slot), f_X10_bestPair_L8 N y1 i_this_inputs i_this_gates i_this_paths k_now k_other k_one k_next k_pathInput k_pathGates j83_1 nf x2_6 x3_7 x4_8 k_before_9 k_after_10 k_values_11 k_taken_12 = some (rr, o_before, o_after, o_values, o_taken) → Wd D (tyA cI cJ cZ cS) A s [(a_this, .inr (10, [.int i_this_inputs, .int i_this_gates, .ref a_now, .ref a_one, .ref a_other, .ref a_next, .int i_this_readInputs, .int i_this_readGates, .ref a_readOne, .ref a_readOther, .ref a_readNext, .ref a_text, .int i_this_length, .int i_this_paths, .ref a_pathInput, .ref a_pathGates, .ref a_before, .ref a_after, .ref a_values, .ref a_taken, .ref a_waves, .int i_this_acts, .int i_this_turn, .ref a_row, .int i_this_seen, .ref a_seenPair, .ref a_seenTime, .ref a_seenLate, .long i_this_seed, .ref a_isKept, .ref a_kept])), (a_now, .inl (cI, 32, .inl k_now)), (a_other, .inl (cI, 8, .inl k_other)), (a_one, .inl (cI, 8, .inl k_one)), (a_before, .inl (cI, 12, .inl k_before_9)), (a_after, .inl (cI, 12, .inl k_after_10)), (a_values, .inl (cI, 12, .inl k_values_11)), (a_next, .inl (cI, 4, .inl k_next)), (a_pathInput, .inl (cI, 64, .inl k_pathInput)), (a_taken, .inl (cI, 128, .inl k_taken_12)), (a_pathGates, .inl (cI, 64, .inl k_pathGates))] H locs → lv_has ls 6 [(0, .ref a_this), (1, .int y1), (2, .int x2_6), (3, .int x3_7), (4, .int x4_8)] → W p l e rmX10_bestPair s m args below meth c H locs 0 0 Q (F0 m 8 ls []) := by
    intro nf
    induction nf with
    | zero =>
      intro x2_6 x3_7 x4_8 k_before_9 k_after_10 k_values_11 k_taken_12 H locs ls h
      rw [f_X10_bestPair_L8] at h
      cases h
    | succ n_8 ih_8 =>
      intro x2_6 x3_7 x4_8 k_before_9 k_after_10 k_values_11 k_taken_12 H locs ls h hw hl
      rw [f_X10_bestPair_L8] at h
      refine lv_iload hx hb dX10_bestPair_8 (lv_at hl 4 rfl) ?_
      refine lv_sipush (v := (256 : Int32)) hx hb dX10_bestPair_10 (by decide) ?_
      refine lv_icmp_ge (tgt := 83) hx hb dX10_bestPair_13 (by decide) (fun hc => ?_) (fun hc => ?_)
      · replace h := if_t hc h
        exact hj83_1 x2_6 k_before_9 k_after_10 k_values_11 k_taken_12 H locs ls h hw (lv_sub hl [2] rfl)
      · replace h := if_f hc h
        refine lv_aload_n hx hb dX10_bestPair_16 rfl (lv_at hl 0 rfl) ?_
        refine lv_iload hx hb dX10_bestPair_17 (lv_at hl 4 rfl) ?_
        obtain ⟨r_13, e19_1, h⟩ := obd1_el h
        refine zr_VI (As := [.int x4_8]) (rest := []) (q0 := 0) S hw (c_X10_isPair l D cI cJ cZ cS H.size N a_this a_now a_one a_other a_next a_readOne a_readOther a_readNext a_text a_pathInput a_pathGates a_before a_after a_values a_taken a_waves a_row a_seenPair a_seenTime a_seenLate a_isKept a_kept i_this_inputs i_this_gates i_this_readInputs i_this_readGates i_this_length i_this_paths i_this_acts i_this_turn i_this_seen i_this_seed x4_8 r_13 e19_1) (cwV 1 hts gX10_bestPair_X10_isPair rfl rfl rfl dv_X10_isPair ⟨Nat.le_of_ble_eq_true rfl, Nat.le_of_ble_eq_true rfl⟩) [0] rfl rfl rfl rfl rfl rfl hl.1 rfl (Nat.le_of_ble_eq_true rfl) dX10_bestPair_19 ⟨Nat.zero_le _, Nat.zero_le _⟩ ?_
        obtain ⟨j77_1, ej77_1, h⟩ := bnd_ex h
        have hj77_1 : ∀ (x2_14 : Int32) (x3_15 : Int32) (k_before_16 : (Nat → Int32)) (k_after_17 : (Nat → Int32)) (k_values_18 : (Nat → Int32)) (k_taken_19 : (Nat → Int32)) (H : Heap) (locs : List Loc) (ls : Array Slot), j77_1 x2_14 x3_15 k_before_16 k_after_17 k_values_18 k_taken_19 = some (rr, o_before, o_after, o_values, o_taken) → Wd D (tyA cI cJ cZ cS) A s [(a_this, .inr (10, [.int i_this_inputs, .int i_this_gates, .ref a_now, .ref a_one, .ref a_other, .ref a_next, .int i_this_readInputs, .int i_this_readGates, .ref a_readOne, .ref a_readOther, .ref a_readNext, .ref a_text, .int i_this_length, .int i_this_paths, .ref a_pathInput, .ref a_pathGates, .ref a_before, .ref a_after, .ref a_values, .ref a_taken, .ref a_waves, .int i_this_acts, .int i_this_turn, .ref a_row, .int i_this_seen, .ref a_seenPair, .ref a_seenTime, .ref a_seenLate, .long i_this_seed, .ref a_isKept, .ref a_kept])), (a_now, .inl (cI, 32, .inl k_now)), (a_other, .inl (cI, 8, .inl k_other)), (a_one, .inl (cI, 8, .inl k_one)), (a_before, .inl (cI, 12, .inl k_before_16)), (a_after, .inl (cI, 12, .inl k_after_17)), (a_values, .inl (cI, 12, .inl k_values_18)), (a_next, .inl (cI, 4, .inl k_next)), (a_pathInput, .inl (cI, 64, .inl k_pathInput)), (a_taken, .inl (cI, 128, .inl k_taken_19)), (a_pathGates, .inl (cI, 64, .inl k_pathGates))] H locs → lv_has ls 6 [(0, .ref a_this), (1, .int y1), (2, .int x2_14), (3, .int x3_15), (4, .int x4_8)] → W p l e rmX10_bestPair s m args below meth c H locs 0 0 Q (F0 m 77 ls []) := by
          intro x2_14 x3_15 k_before_16 k_after_17 k_values_18 k_taken_19 H locs ls h hw hl
          replace h := ap6 ej77_1 h
          obtain ⟨x4_20, ex4_20, h⟩ := bnd_ex h
          refine lv_iinc (v := x4_20) (lv' := [(4, .int x4_20), (0, .ref a_this), (1, .int y1), (2, .int x2_14), (3, .int x3_15)]) hx hb dX10_bestPair_77 hl (k := 4) rfl (by rw [ex4_20]; rfl) (by decide) rfl (fun ls hl => ?_)
          refine lv_goto (tgt := 8) hx hb dX10_bestPair_80 (by decide) ?_
          exact ih_8 x2_14 x3_15 x4_20 k_before_16 k_after_17 k_values_18 k_taken_19 H locs ls h hw (lv_sub hl [1, 2, 3, 4, 0] rfl)
        refine lv_if_eq (tgt := 77) hx hb dX10_bestPair_22 (by decide) (fun hc => ?_) (fun hc => ?_)
        · replace h := if_t hc h
          exact hj77_1 x2_6 x3_7 k_before_9 k_after_10 k_values_11 k_taken_12 H locs ls h hw hl
        · replace h := if_f hc h
          refine lv_aload_n hx hb dX10_bestPair_25 rfl (lv_at hl 0 rfl) ?_
          refine lv_iconst (v := (0 : Int32)) hx hb dX10_bestPair_26 (by decide) ?_
          refine lv_iload hx hb dX10_bestPair_27 (lv_at hl 4 rfl) ?_
          obtain ⟨k_before_21, k_after_22, k_values_23, e29_1, h⟩ := obd3_el h
          refine zc_VV (As := [.int (0 : Int32), .int x4_8]) (rest := []) (wr := [(a_next, .inl (cI, 4, .inl k_next)), (a_pathInput, .inl (cI, 64, .inl k_pathInput)), (a_taken, .inl (cI, 128, .inl k_taken_12)), (a_pathGates, .inl (cI, 64, .inl k_pathGates))]) (q0 := 0) S hw (c_X10_findPair l D cI cJ cZ cS H.size N a_this a_now a_other a_one a_before a_after a_values a_next a_readOne a_readOther a_readNext a_text a_pathInput a_pathGates a_taken a_waves a_row a_seenPair a_seenTime a_seenLate a_isKept a_kept i_this_inputs i_this_gates i_this_readInputs i_this_readGates i_this_length i_this_paths i_this_acts i_this_turn i_this_seen i_this_seed k_now k_other k_one k_before_9 k_after_10 k_values_11 (0 : Int32) x4_8 k_before_21 k_after_22 k_values_23 e29_1) (cwV 2 hts gX10_bestPair_X10_findPair rfl rfl rfl dv_X10_findPair ⟨Nat.le_of_ble_eq_true rfl, Nat.le_of_ble_eq_true rfl⟩) [0, 1, 2, 3, 4, 5, 6] [7, 8, 9, 10] rfl rfl rfl rfl (by decide) rfl rfl rfl rfl hl.1 rfl (Nat.le_of_ble_eq_true rfl) dX10_bestPair_29 ⟨Nat.zero_le _, Nat.zero_le _⟩ (fun H locs hw => ?_)
          refine lv_aload_n hx hb dX10_bestPair_32 rfl (lv_at hl 0 rfl) ?_
          refine lv_iload_n hx hb dX10_bestPair_33 rfl (lv_at hl 1 rfl) ?_
          obtain ⟨r_24, e34_1, h⟩ := obd1_el h
          refine zr_VI (As := [.int y1]) (rest := []) (q0 := 0) S hw (c_X10_isLaunched l D cI cJ cZ cS H.size N a_this a_after a_next a_before a_now a_one a_other a_readOne a_readOther a_readNext a_text a_pathInput a_pathGates a_values a_taken a_waves a_row a_seenPair a_seenTime a_seenLate a_isKept a_kept i_this_inputs i_this_gates i_this_readInputs i_this_readGates i_this_length i_this_paths i_this_acts i_this_turn i_this_seen i_this_seed k_after_22 k_next k_before_21 y1 r_24 e34_1) (cwV 1 hts gX10_bestPair_X10_isLaunched rfl rfl rfl dv_X10_isLaunched ⟨Nat.le_of_ble_eq_true rfl, Nat.le_of_ble_eq_true rfl⟩) [4, 9, 0, 8] rfl rfl rfl rfl rfl rfl hl.1 rfl (Nat.le_of_ble_eq_true rfl) dX10_bestPair_34 ⟨Nat.zero_le _, Nat.zero_le _⟩ ?_
          obtain ⟨j49_1, ej49_1, h⟩ := bnd_ex h
          have hj49_1 : ∀ (t_25 : Int32) (k_taken_26 : (Nat → Int32)) (H : Heap) (locs : List Loc) (ls : Array Slot), j49_1 t_25 k_taken_26 = some (rr, o_before, o_after, o_values, o_taken) → Wd D (tyA cI cJ cZ cS) A s [(a_this, .inr (10, [.int i_this_inputs, .int i_this_gates, .ref a_now, .ref a_one, .ref a_other, .ref a_next, .int i_this_readInputs, .int i_this_readGates, .ref a_readOne, .ref a_readOther, .ref a_readNext, .ref a_text, .int i_this_length, .int i_this_paths, .ref a_pathInput, .ref a_pathGates, .ref a_before, .ref a_after, .ref a_values, .ref a_taken, .ref a_waves, .int i_this_acts, .int i_this_turn, .ref a_row, .int i_this_seen, .ref a_seenPair, .ref a_seenTime, .ref a_seenLate, .long i_this_seed, .ref a_isKept, .ref a_kept])), (a_now, .inl (cI, 32, .inl k_now)), (a_other, .inl (cI, 8, .inl k_other)), (a_one, .inl (cI, 8, .inl k_one)), (a_before, .inl (cI, 12, .inl k_before_21)), (a_after, .inl (cI, 12, .inl k_after_22)), (a_values, .inl (cI, 12, .inl k_values_23)), (a_next, .inl (cI, 4, .inl k_next)), (a_pathInput, .inl (cI, 64, .inl k_pathInput)), (a_taken, .inl (cI, 128, .inl k_taken_26)), (a_pathGates, .inl (cI, 64, .inl k_pathGates))] H locs → lv_has ls 6 [(0, .ref a_this), (1, .int y1), (2, .int x2_6), (3, .int x3_7), (4, .int x4_8)] → W p l e rmX10_bestPair s m args below meth c H locs 0 0 Q (F0 m 49 ls [.int t_25]) := by
            intro t_25 k_taken_26 H locs ls h hw hl
            replace h := ap2 ej49_1 h
            refine lv_istore (lv' := [(5, .int t_25), (0, .ref a_this), (1, .int y1), (2, .int x2_6), (3, .int x3_7), (4, .int x4_8)]) hx hb dX10_bestPair_49 hl (by decide) rfl (fun ls hl => ?_)
            refine lv_iload hx hb dX10_bestPair_51 (lv_at hl 0 rfl) ?_
            refine lv_iload_n hx hb dX10_bestPair_53 rfl (lv_at hl 4 rfl) ?_
            obtain ⟨j63_1, ej63_1, h⟩ := bnd_ex h
            have hj63_1 : ∀ (t_27 : Int32) (H : Heap) (locs : List Loc) (ls : Array Slot), j63_1 t_27 = some (rr, o_before, o_after, o_values, o_taken) → Wd D (tyA cI cJ cZ cS) A s [(a_this, .inr (10, [.int i_this_inputs, .int i_this_gates, .ref a_now, .ref a_one, .ref a_other, .ref a_next, .int i_this_readInputs, .int i_this_readGates, .ref a_readOne, .ref a_readOther, .ref a_readNext, .ref a_text, .int i_this_length, .int i_this_paths, .ref a_pathInput, .ref a_pathGates, .ref a_before, .ref a_after, .ref a_values, .ref a_taken, .ref a_waves, .int i_this_acts, .int i_this_turn, .ref a_row, .int i_this_seen, .ref a_seenPair, .ref a_seenTime, .ref a_seenLate, .long i_this_seed, .ref a_isKept, .ref a_kept])), (a_now, .inl (cI, 32, .inl k_now)), (a_other, .inl (cI, 8, .inl k_other)), (a_one, .inl (cI, 8, .inl k_one)), (a_before, .inl (cI, 12, .inl k_before_21)), (a_after, .inl (cI, 12, .inl k_after_22)), (a_values, .inl (cI, 12, .inl k_values_23)), (a_next, .inl (cI, 4, .inl k_next)), (a_pathInput, .inl (cI, 64, .inl k_pathInput)), (a_taken, .inl (cI, 128, .inl k_taken_26)), (a_pathGates, .inl (cI, 64, .inl k_pathGates))] H locs → lv_has ls 6 [(0, .ref a_this), (1, .int y1), (3, .int x3_7), (4, .int x4_8), (5, .int t_25)] → W p l e rmX10_bestPair s m args below meth c H locs 0 0 Q (F0 m 63 ls [.int t_27]) := by
              intro t_27 H locs ls h hw hl
              replace h := ap1 ej63_1 h
              refine lv_istore_n (lv' := [(2, .int t_27), (0, .ref a_this), (1, .int y1), (3, .int x3_7), (4, .int x4_8), (5, .int t_25)]) hx hb dX10_bestPair_63 rfl hl (by decide) rfl (fun ls hl => ?_)
              refine lv_iload hx hb dX10_bestPair_64 (lv_at hl 5 rfl) ?_
              refine lv_iload_n hx hb dX10_bestPair_66 rfl (lv_at hl 3 rfl) ?_
              obtain ⟨j76_1, ej76_1, h⟩ := bnd_ex h
              have hj76_1 : ∀ (t_28 : Int32) (H : Heap) (locs : List Loc) (ls : Array Slot), j76_1 t_28 = some (rr, o_before, o_after, o_values, o_taken) → Wd D (tyA cI cJ cZ cS) A s [(a_this, .inr (10, [.int i_this_inputs, .int i_this_gates, .ref a_now, .ref a_one, .ref a_other, .ref a_next, .int i_this_readInputs, .int i_this_readGates, .ref a_readOne, .ref a_readOther, .ref a_readNext, .ref a_text, .int i_this_length, .int i_this_paths, .ref a_pathInput, .ref a_pathGates, .ref a_before, .ref a_after, .ref a_values, .ref a_taken, .ref a_waves, .int i_this_acts, .int i_this_turn, .ref a_row, .int i_this_seen, .ref a_seenPair, .ref a_seenTime, .ref a_seenLate, .long i_this_seed, .ref a_isKept, .ref a_kept])), (a_now, .inl (cI, 32, .inl k_now)), (a_other, .inl (cI, 8, .inl k_other)), (a_one, .inl (cI, 8, .inl k_one)), (a_before, .inl (cI, 12, .inl k_before_21)), (a_after, .inl (cI, 12, .inl k_after_22)), (a_values, .inl (cI, 12, .inl k_values_23)), (a_next, .inl (cI, 4, .inl k_next)), (a_pathInput, .inl (cI, 64, .inl k_pathInput)), (a_taken, .inl (cI, 128, .inl k_taken_26)), (a_pathGates, .inl (cI, 64, .inl k_pathGates))] H locs → lv_has ls 6 [(0, .ref a_this), (1, .int y1), (2, .int t_27), (4, .int x4_8)] → W p l e rmX10_bestPair s m args below meth c H locs 0 0 Q (F0 m 76 ls [.int t_28]) := by
                intro t_28 H locs ls h hw hl
                replace h := ap1 ej76_1 h
                refine lv_istore_n (lv' := [(3, .int t_28), (0, .ref a_this), (1, .int y1), (2, .int t_27), (4, .int x4_8)]) hx hb dX10_bestPair_76 rfl hl (by decide) rfl (fun ls hl => ?_)
                exact hj77_1 t_27 t_28 k_before_21 k_after_22 k_values_23 k_taken_26 H locs ls h hw (lv_sub hl [1, 2, 3, 0, 4] rfl)
              refine lv_icmp_le (tgt := 75) hx hb dX10_bestPair_67 (by decide) (fun hc => ?_) (fun hc => ?_)
              · replace h := if_t hc h
                refine lv_iload_n hx hb dX10_bestPair_75 rfl (lv_at hl 3 rfl) ?_
                exact hj76_1 x3_7 H locs ls h hw (lv_sub hl [1, 2, 0, 4] rfl)
              · replace h := if_f hc h
                refine lv_iload hx hb dX10_bestPair_70 (lv_at hl 5 rfl) ?_
                refine lv_goto (tgt := 76) hx hb dX10_bestPair_72 (by decide) ?_
                exact hj76_1 t_25 H locs ls h hw (lv_sub hl [1, 2, 0, 4] rfl)
            refine lv_icmp_le (tgt := 62) hx hb dX10_bestPair_54 (by decide) (fun hc => ?_) (fun hc => ?_)
            · replace h := if_t hc h
              refine lv_iload_n hx hb dX10_bestPair_62 rfl (lv_at hl 3 rfl) ?_
              exact hj63_1 x2_6 H locs ls h hw (lv_sub hl [1, 2, 4, 5, 0] rfl)
            · replace h := if_f hc h
              refine lv_iload hx hb dX10_bestPair_57 (lv_at hl 5 rfl) ?_
              refine lv_goto (tgt := 63) hx hb dX10_bestPair_59 (by decide) ?_
              exact hj63_1 x4_8 H locs ls h hw (lv_sub hl [1, 2, 4, 5, 0] rfl)
          refine lv_if_eq (tgt := 48) hx hb dX10_bestPair_37 (by decide) (fun hc => ?_) (fun hc => ?_)
          · replace h := if_t hc h
            refine lv_iconst (v := (0 : Int32)) hx hb dX10_bestPair_48 (by decide) ?_
            exact hj49_1 ((0 : Int32)) k_taken_12 H locs ls h (hw.sub [4, 5, 6, 7, 8, 9, 10, 0, 1, 2, 3] rfl rfl) hl
          · replace h := if_f hc h
            refine lv_aload_n hx hb dX10_bestPair_40 rfl (lv_at hl 0 rfl) ?_
            refine lv_iconst (v := (0 : Int32)) hx hb dX10_bestPair_41 (by decide) ?_
            obtain ⟨r_29, k_taken_30, e42_1, h⟩ := obd2_el h
            refine zc_VI (As := [.int (0 : Int32)]) (rest := []) (wr := [(a_next, .inl (cI, 4, .inl k_next))]) (q0 := 0) S hw (c_X10_addsOn l D cI cJ cZ cS H.size N a_this a_pathInput a_after a_taken a_pathGates a_before a_now a_one a_values a_other a_next a_readOne a_readOther a_readNext a_text a_waves a_row a_seenPair a_seenTime a_seenLate a_isKept a_kept i_this_inputs i_this_gates i_this_readInputs i_this_readGates i_this_length i_this_paths i_this_acts i_this_turn i_this_seen i_this_seed k_pathInput k_after_22 k_taken_12 k_pathGates k_before_21 k_now k_one k_values_23 k_other (0 : Int32) r_29 k_taken_30 e42_1) (cwV 1 hts gX10_bestPair_X10_addsOn rfl rfl rfl dv_X10_addsOn ⟨Nat.le_of_ble_eq_true rfl, Nat.le_of_ble_eq_true rfl⟩) [4, 1, 9, 2, 3, 8, 5, 7, 10, 6] [0] rfl rfl rfl rfl (by decide) rfl rfl rfl rfl hl.1 rfl (Nat.le_of_ble_eq_true rfl) dX10_bestPair_42 ⟨Nat.zero_le _, Nat.zero_le _⟩ (fun H locs hw => ?_)
            refine lv_goto (tgt := 49) hx hb dX10_bestPair_45 (by decide) ?_
            exact hj49_1 r_29 k_taken_30 H locs ls h (hw.sub [1, 7, 10, 8, 6, 3, 9, 0, 2, 4, 5] rfl rfl) hl
  exact hL8_1 N ((-9 : Int32)) ((0 : Int32)) ((0 : Int32)) k_before k_after k_values k_taken H locs ls h hw (lv_sub hl [3, 4, 2, 1, 0] rfl)
abbrev rmX10_packed : Room := { frames := 4, cells := 0, slots := 0, locals := 100 }
theorem dv_X10_packed : yX10_packed.cls = RX10 ∧ yX10_packed.cls ≠ "java/lang/invoke/MethodHandle" ∧ yX10_packed.cls ≠ "java/lang/invoke/VarHandle" ∧ (parseMethodDescriptor yX10_packed.desc).map (fun d => d.parameters.length) = some 2 := by decide +kernel
noncomputable def f_X10_packed_L51 (N : Nat) (y1 : Int32) (y2 : Int32) (i_this_inputs : Int32) (i_this_gates : Int32) (i_this_paths : Int32) (k_now : (Nat → Int32)) (k_other : (Nat → Int32)) (k_one : (Nat → Int32)) (k_next : (Nat → Int32)) (k_pathInput : (Nat → Int32)) (k_pathGates : (Nat → Int32)) (j92_1 : Int32 → (Nat → Int32) → (Nat → Int32) → (Nat → Int32) → (Nat → Int32) → Option (Int32 × (Nat → Int32) × (Nat → Int32) × (Nat → Int32) × (Nat → Int32))) : Nat → Int32 → Int32 → (Nat → Int32) → (Nat → Int32) → (Nat → Int32) → (Nat → Int32) → Option (Int32 × (Nat → Int32) × (Nat → Int32) × (Nat → Int32) × (Nat → Int32))
  | 0, _, _, _, _, _, _ => none
  | n_51 + 1, x3_13, x4_14, k_before_15, k_after_16, k_values_17, k_taken_18 =>
    (if x4_14 = (-9 : Int32) then (j92_1 x3_13 k_before_15 k_after_16 k_values_17 k_taken_18) else ((if x3_13 = y2 then (some (x4_14, k_before_15, k_after_16, k_values_17, k_taken_18)) else (obd3 (f_X10_findPair N (0 : Int32) x4_14 i_this_inputs i_this_gates k_now k_other k_one k_before_15 k_after_16 k_values_17) fun (k_before_19 : (Nat → Int32)) (k_after_20 : (Nat → Int32)) (k_values_21 : (Nat → Int32)) => obd2 (f_X10_addsOn N (1 : Int32) i_this_gates i_this_paths k_pathInput k_after_20 k_taken_18 k_pathGates k_before_19 k_now k_one k_values_21 k_other) fun (r_22 : Int32) (k_taken_23 : (Nat → Int32)) => bnd (x3_13 + (1 : Int32)) fun (x3_24 : Int32) => obd5 (f_X10_bestPair N y1 i_this_inputs i_this_gates i_this_paths k_now k_other k_one k_before_19 k_after_20 k_values_21 k_next k_pathInput k_taken_23 k_pathGates) fun (r_25 : Int32) (k_before_26 : (Nat → Int32)) (k_after_27 : (Nat → Int32)) (k_values_28 : (Nat → Int32)) (k_taken_29 : (Nat → Int32)) => f_X10_packed_L51 N y1 y2 i_this_inputs i_this_gates i_this_paths k_now k_other k_one k_next k_pathInput k_pathGates j92_1 n_51 x3_24 r_25 k_before_26 k_after_27 k_values_28 k_taken_29))))
noncomputable def f_X10_packed_L22 (N : Nat) (j42_1 : (Nat → Int32) → Option (Int32 × (Nat → Int32) × (Nat → Int32) × (Nat → Int32) × (Nat → Int32))) : Nat → Int32 → (Nat → Int32) → Option (Int32 × (Nat → Int32) × (Nat → Int32) × (Nat → Int32) × (Nat → Int32))
  | 0, _, _ => none
  | n_22 + 1, x3_30, k_taken_31 =>
    (if (128 : Int32) ≤ x3_30 then (j42_1 k_taken_31) else (grd (inb x3_30 128) <| bnd (upd k_taken_31 x3_30.toNatClampNeg (0 : Int32)) fun (k_taken_32 : (Nat → Int32)) => bnd (x3_30 + (1 : Int32)) fun (x3_33 : Int32) => f_X10_packed_L22 N j42_1 n_22 x3_33 k_taken_32))
noncomputable def f_X10_packed (N : Nat) (y1 : Int32) (y2 : Int32) (i_this_inputs : Int32) (i_this_gates : Int32) (i_this_paths : Int32) (k_now : (Nat → Int32)) (k_other : (Nat → Int32)) (k_one : (Nat → Int32)) (k_before : (Nat → Int32)) (k_after : (Nat → Int32)) (k_values : (Nat → Int32)) (k_next : (Nat → Int32)) (k_pathInput : (Nat → Int32)) (k_taken : (Nat → Int32)) (k_pathGates : (Nat → Int32)) : Option (Int32 × (Nat → Int32) × (Nat → Int32) × (Nat → Int32) × (Nat → Int32)) :=
  obd1 (f_X10_in N (y1.toInt64) (0 : Int64) (2 : Int64)) fun (r_1 : Int32) => (if r_1 = (0 : Int32) then (some ((-2 : Int32), k_before, k_after, k_values, k_taken)) else ((if (-1 : Int32) ≤ y2 then (bnd (fun (k_taken_2 : (Nat → Int32)) => (obd5 (f_X10_bestPair N y1 i_this_inputs i_this_gates i_this_paths k_now k_other k_one k_before k_after k_values k_next k_pathInput k_taken_2 k_pathGates) fun (r_3 : Int32) (k_before_4 : (Nat → Int32)) (k_after_5 : (Nat → Int32)) (k_values_6 : (Nat → Int32)) (k_taken_7 : (Nat → Int32)) => bnd (fun (x3_8 : Int32) (k_before_9 : (Nat → Int32)) (k_after_10 : (Nat → Int32)) (k_values_11 : (Nat → Int32)) (k_taken_12 : (Nat → Int32)) => ((if y2 = (-1 : Int32) then (some (x3_8, k_before_9, k_after_10, k_values_11, k_taken_12)) else (some ((-9 : Int32), k_before_9, k_after_10, k_values_11, k_taken_12))))) fun (j92_1 : Int32 → (Nat → Int32) → (Nat → Int32) → (Nat → Int32) → (Nat → Int32) → Option (Int32 × (Nat → Int32) × (Nat → Int32) × (Nat → Int32) × (Nat → Int32))) => f_X10_packed_L51 N y1 y2 i_this_inputs i_this_gates i_this_paths k_now k_other k_one k_next k_pathInput k_pathGates j92_1 N ((0 : Int32)) r_3 k_before_4 k_after_5 k_values_6 k_taken_7)) fun (j42_1 : (Nat → Int32) → Option (Int32 × (Nat → Int32) × (Nat → Int32) × (Nat → Int32) × (Nat → Int32))) => f_X10_packed_L22 N j42_1 N ((0 : Int32)) k_taken) else (some ((-2 : Int32), k_before, k_after, k_values, k_taken)))))
set_option maxHeartbeats 4000000 in
set_option maxRecDepth 100000 in
theorem c_X10_packed (l : Launch) (D : va_G) (cI cJ cZ cS : ClassId) (sz N : Nat) (a_this a_now a_other a_one a_before a_after a_values a_next a_pathInput a_taken a_pathGates a_readOne a_readOther a_readNext a_text a_waves a_row a_seenPair a_seenTime a_seenLate a_isKept a_kept : Nat) (i_this_inputs : Int32) (i_this_gates : Int32) (i_this_readInputs : Int32) (i_this_readGates : Int32) (i_this_length : Int32) (i_this_paths : Int32) (i_this_acts : Int32) (i_this_turn : Int32) (i_this_seen : Int32) (i_this_seed : Int64) (k_now : (Nat → Int32)) (k_other : (Nat → Int32)) (k_one : (Nat → Int32)) (k_before : (Nat → Int32)) (k_after : (Nat → Int32)) (k_values : (Nat → Int32)) (k_next : (Nat → Int32)) (k_pathInput : (Nat → Int32)) (k_taken : (Nat → Int32)) (k_pathGates : (Nat → Int32)) (y1 : Int32) (y2 : Int32) (rr : Int32) (o_before : (Nat → Int32)) (o_after : (Nat → Int32)) (o_values : (Nat → Int32)) (o_taken : (Nat → Int32)) (hf : f_X10_packed N y1 y2 i_this_inputs i_this_gates i_this_paths k_now k_other k_one k_before k_after k_values k_next k_pathInput k_taken k_pathGates = some (rr, o_before, o_after, o_values, o_taken)) : MetI l yX10_packed wsX10_packed rmX10_packed D (tyA cI cJ cZ cS) [(a_this, .inr (10, [.int i_this_inputs, .int i_this_gates, .ref a_now, .ref a_one, .ref a_other, .ref a_next, .int i_this_readInputs, .int i_this_readGates, .ref a_readOne, .ref a_readOther, .ref a_readNext, .ref a_text, .int i_this_length, .int i_this_paths, .ref a_pathInput, .ref a_pathGates, .ref a_before, .ref a_after, .ref a_values, .ref a_taken, .ref a_waves, .int i_this_acts, .int i_this_turn, .ref a_row, .int i_this_seen, .ref a_seenPair, .ref a_seenTime, .ref a_seenLate, .long i_this_seed, .ref a_isKept, .ref a_kept])), (a_now, .inl (cI, 32, .inl k_now)), (a_other, .inl (cI, 8, .inl k_other)), (a_one, .inl (cI, 8, .inl k_one)), (a_before, .inl (cI, 12, .inl k_before)), (a_after, .inl (cI, 12, .inl k_after)), (a_values, .inl (cI, 12, .inl k_values)), (a_next, .inl (cI, 4, .inl k_next)), (a_pathInput, .inl (cI, 64, .inl k_pathInput)), (a_taken, .inl (cI, 128, .inl k_taken)), (a_pathGates, .inl (cI, 64, .inl k_pathGates))] sz [.ref a_this, .int y1, .int y2] rr [(a_this, .inr (10, [.int i_this_inputs, .int i_this_gates, .ref a_now, .ref a_one, .ref a_other, .ref a_next, .int i_this_readInputs, .int i_this_readGates, .ref a_readOne, .ref a_readOther, .ref a_readNext, .ref a_text, .int i_this_length, .int i_this_paths, .ref a_pathInput, .ref a_pathGates, .ref a_before, .ref a_after, .ref a_values, .ref a_taken, .ref a_waves, .int i_this_acts, .int i_this_turn, .ref a_row, .int i_this_seen, .ref a_seenPair, .ref a_seenTime, .ref a_seenLate, .long i_this_seed, .ref a_isKept, .ref a_kept])), (a_now, .inl (cI, 32, .inl k_now)), (a_other, .inl (cI, 8, .inl k_other)), (a_one, .inl (cI, 8, .inl k_one)), (a_before, .inl (cI, 12, .inl o_before)), (a_after, .inl (cI, 12, .inl o_after)), (a_values, .inl (cI, 12, .inl o_values)), (a_next, .inl (cI, 4, .inl k_next)), (a_pathInput, .inl (cI, 64, .inl k_pathInput)), (a_taken, .inl (cI, 128, .inl o_taken)), (a_pathGates, .inl (cI, 64, .inl k_pathGates))] := by
  refine entI (cc := cX10_packed) (maxL := 5) (own := RX10) (by decide) rfl rfl (Nat.le_of_ble_eq_true rfl) ?_
  intro p e s m args below meth c A ls Q H locs S hr hw hl hQ
  have hx := S.1.1
  have hb := S.1.2.1
  have hts := S.1.2.2.2.2
  have hl : lv_has ls 5 [(0, .ref a_this), (1, .int y1), (2, .int y2)] := hl
  have hinX10 : ∀ w ∈ u_ws RX10 TX10 31, w ∈ wsX10_packed := (fun _ h => List.mem_cons_of_mem _ (List.mem_append_right _ h))
  have F49 : FLk s args wsX10_packed RX10 49 RX10 TX10 31 10 19 := ⟨hinX10, rfl, by decide, hts (.fieldLink RX10 49 "SlowPathsModel" "taken" "[I") (List.mem_of_getElem? (i := 2) rfl)⟩
  have h := hf
  rw [f_X10_packed] at h
  refine lv_iload_n hx hb dX10_packed_0 rfl (lv_at hl 1 rfl) ?_
  refine lv_i2l hx hb dX10_packed_1 rfl ?_
  refine lv_lconst (v := (0 : Int64)) hx hb dX10_packed_2 (by decide) ?_
  refine lv_ldc2 (v := (2 : Int64)) hx hb S.1.2.2.2.1 (hts (.constantLong RX10 183 (2)) (List.mem_of_getElem? (i := 1) rfl)) dX10_packed_3 ?_
  obtain ⟨r_1, e6_1, h⟩ := obd1_el h
  refine zr_SI (As := [.long (y1.toInt64), .long (0 : Int64), .long (2 : Int64)]) (rest := []) (q0 := 0) (ci := 0) (fs := []) (qc := (RX0, TX0, 4)) S hw (c_X10_in l D cI cJ cZ cS H.size N (y1.toInt64) (0 : Int64) (2 : Int64) r_1 e6_1) (va_cwS 3 hts gX10_packed_X10_in rfl rfl rfl ds_X10_in ⟨Nat.le_of_ble_eq_true rfl, Nat.le_of_ble_eq_true rfl⟩) [] rfl rfl rfl hl.1 rfl (Nat.le_of_ble_eq_true rfl) dX10_packed_6 ⟨Nat.zero_le _, Nat.zero_le _⟩ ?_
  refine lv_if_eq (tgt := 17) hx hb dX10_packed_9 (by decide) (fun hc => ?_) (fun hc => ?_)
  · replace h := if_t hc h
    refine lv_bipush (v := (-2 : Int32)) hx hb dX10_packed_17 (by decide) ?_
    cases h
    exact z_iret S hQ hr hw [0, 1, 2, 3, 4, 5, 6, 7, 8, 9, 10] rfl rfl dX10_packed_19
  · replace h := if_f hc h
    refine lv_iload_n hx hb dX10_packed_12 rfl (lv_at hl 2 rfl) ?_
    refine lv_iconst (v := (-1 : Int32)) hx hb dX10_packed_13 (by decide) ?_
    refine lv_icmp_ge (tgt := 20) hx hb dX10_packed_14 (by decide) (fun hc => ?_) (fun hc => ?_)
    · replace h := if_t hc h
      refine lv_iconst (v := (0 : Int32)) hx hb dX10_packed_20 (by decide) ?_
      refine lv_istore_n (lv' := [(3, .int (0 : Int32)), (0, .ref a_this), (1, .int y1), (2, .int y2)]) hx hb dX10_packed_21 rfl hl (by decide) rfl (fun ls hl => ?_)
      obtain ⟨j42_1, ej42_1, h⟩ := bnd_ex h
      have hj42_1 : ∀ (k_taken_2 : (Nat → Int32)) (H : Heap) (locs : List Loc) (ls : Array Slot), j42_1 k_taken_2 = some (rr, o_before, o_after, o_values, o_taken) → Wd D (tyA cI cJ cZ cS) A s [(a_this, .inr (10, [.int i_this_inputs, .int i_this_gates, .ref a_now, .ref a_one, .ref a_other, .ref a_next, .int i_this_readInputs, .int i_this_readGates, .ref a_readOne, .ref a_readOther, .ref a_readNext, .ref a_text, .int i_this_length, .int i_this_paths, .ref a_pathInput, .ref a_pathGates, .ref a_before, .ref a_after, .ref a_values, .ref a_taken, .ref a_waves, .int i_this_acts, .int i_this_turn, .ref a_row, .int i_this_seen, .ref a_seenPair, .ref a_seenTime, .ref a_seenLate, .long i_this_seed, .ref a_isKept, .ref a_kept])), (a_now, .inl (cI, 32, .inl k_now)), (a_other, .inl (cI, 8, .inl k_other)), (a_one, .inl (cI, 8, .inl k_one)), (a_before, .inl (cI, 12, .inl k_before)), (a_after, .inl (cI, 12, .inl k_after)), (a_values, .inl (cI, 12, .inl k_values)), (a_next, .inl (cI, 4, .inl k_next)), (a_pathInput, .inl (cI, 64, .inl k_pathInput)), (a_taken, .inl (cI, 128, .inl k_taken_2)), (a_pathGates, .inl (cI, 64, .inl k_pathGates))] H locs → lv_has ls 5 [(0, .ref a_this), (1, .int y1), (2, .int y2)] → W p l e rmX10_packed s m args below meth c H locs 0 0 Q (F0 m 42 ls []) := by
        intro k_taken_2 H locs ls h hw hl
        replace h := ap1 ej42_1 h
        refine lv_iconst (v := (0 : Int32)) hx hb dX10_packed_42 (by decide) ?_
        refine lv_istore_n (lv' := [(3, .int (0 : Int32)), (0, .ref a_this), (1, .int y1), (2, .int y2)]) hx hb dX10_packed_43 rfl hl (by decide) rfl (fun ls hl => ?_)
        refine lv_aload_n hx hb dX10_packed_44 rfl (lv_at hl 1 rfl) ?_
        refine lv_iload_n hx hb dX10_packed_45 rfl (lv_at hl 2 rfl) ?_
        obtain ⟨r_3, k_before_4, k_after_5, k_values_6, k_taken_7, e46_1, h⟩ := obd5_el h
        refine zc_VI (As := [.int y1]) (rest := []) (wr := []) (q0 := 0) S hw (c_X10_bestPair l D cI cJ cZ cS H.size N a_this a_now a_other a_one a_before a_after a_values a_next a_pathInput a_taken a_pathGates a_readOne a_readOther a_readNext a_text a_waves a_row a_seenPair a_seenTime a_seenLate a_isKept a_kept i_this_inputs i_this_gates i_this_readInputs i_this_readGates i_this_length i_this_paths i_this_acts i_this_turn i_this_seen i_this_seed k_now k_other k_one k_before k_after k_values k_next k_pathInput k_taken_2 k_pathGates y1 r_3 k_before_4 k_after_5 k_values_6 k_taken_7 e46_1) (cwV 1 hts gX10_packed_X10_bestPair rfl rfl rfl dv_X10_bestPair ⟨Nat.le_of_ble_eq_true rfl, Nat.le_of_ble_eq_true rfl⟩) [0, 1, 2, 3, 4, 5, 6, 7, 8, 9, 10] [] rfl rfl rfl rfl (by decide) rfl rfl rfl rfl hl.1 rfl (Nat.le_of_ble_eq_true rfl) dX10_packed_46 ⟨Nat.zero_le _, Nat.zero_le _⟩ (fun H locs hw => ?_)
        refine lv_istore (lv' := [(4, .int r_3), (3, .int (0 : Int32)), (0, .ref a_this), (1, .int y1), (2, .int y2)]) hx hb dX10_packed_49 hl (by decide) rfl (fun ls hl => ?_)
        obtain ⟨j92_1, ej92_1, h⟩ := bnd_ex h
        have hj92_1 : ∀ (x3_8 : Int32) (k_before_9 : (Nat → Int32)) (k_after_10 : (Nat → Int32)) (k_values_11 : (Nat → Int32)) (k_taken_12 : (Nat → Int32)) (H : Heap) (locs : List Loc) (ls : Array Slot), j92_1 x3_8 k_before_9 k_after_10 k_values_11 k_taken_12 = some (rr, o_before, o_after, o_values, o_taken) → Wd D (tyA cI cJ cZ cS) A s [(a_this, .inr (10, [.int i_this_inputs, .int i_this_gates, .ref a_now, .ref a_one, .ref a_other, .ref a_next, .int i_this_readInputs, .int i_this_readGates, .ref a_readOne, .ref a_readOther, .ref a_readNext, .ref a_text, .int i_this_length, .int i_this_paths, .ref a_pathInput, .ref a_pathGates, .ref a_before, .ref a_after, .ref a_values, .ref a_taken, .ref a_waves, .int i_this_acts, .int i_this_turn, .ref a_row, .int i_this_seen, .ref a_seenPair, .ref a_seenTime, .ref a_seenLate, .long i_this_seed, .ref a_isKept, .ref a_kept])), (a_now, .inl (cI, 32, .inl k_now)), (a_other, .inl (cI, 8, .inl k_other)), (a_one, .inl (cI, 8, .inl k_one)), (a_before, .inl (cI, 12, .inl k_before_9)), (a_after, .inl (cI, 12, .inl k_after_10)), (a_values, .inl (cI, 12, .inl k_values_11)), (a_next, .inl (cI, 4, .inl k_next)), (a_pathInput, .inl (cI, 64, .inl k_pathInput)), (a_taken, .inl (cI, 128, .inl k_taken_12)), (a_pathGates, .inl (cI, 64, .inl k_pathGates))] H locs → lv_has ls 5 [(2, .int y2), (3, .int x3_8)] → W p l e rmX10_packed s m args below meth c H locs 0 0 Q (F0 m 92 ls []) := by
          intro x3_8 k_before_9 k_after_10 k_values_11 k_taken_12 H locs ls h hw hl
          replace h := ap5 ej92_1 h
          refine lv_iload_n hx hb dX10_packed_92 rfl (lv_at hl 0 rfl) ?_
          refine lv_iconst (v := (-1 : Int32)) hx hb dX10_packed_93 (by decide) ?_
          refine lv_icmp_ne (tgt := 101) hx hb dX10_packed_94 (by decide) (fun hc => ?_) (fun hc => ?_)
          · replace h := if_f hc h
            refine lv_bipush (v := (-9 : Int32)) hx hb dX10_packed_101 (by decide) ?_
            cases h
            exact z_iret S hQ hr hw [0, 1, 2, 3, 4, 5, 6, 7, 8, 9, 10] rfl rfl dX10_packed_103
          · replace h := if_t hc h
            refine lv_iload_n hx hb dX10_packed_97 rfl (lv_at hl 1 rfl) ?_
            refine lv_goto (tgt := 103) hx hb dX10_packed_98 (by decide) ?_
            cases h
            exact z_iret S hQ hr hw [0, 1, 2, 3, 4, 5, 6, 7, 8, 9, 10] rfl rfl dX10_packed_103
        have hL51_1 : ∀ (nf : Nat) (x3_13 : Int32) (x4_14 : Int32) (k_before_15 : (Nat → Int32)) (k_after_16 : (Nat → Int32)) (k_values_17 : (Nat → Int32)) (k_taken_18 : (Nat → Int32)) (H : Heap) (locs : List Loc) (ls : Array Slot), f_X10_packed_L51 N y1 y2 i_this_inputs i_this_gates i_this_paths k_now k_other k_one k_next k_pathInput k_pathGates j92_1 nf x3_13 x4_14 k_before_15 k_after_16 k_values_17 k_taken_18 = some (rr, o_before, o_after, o_values, o_taken) → Wd D (tyA cI cJ cZ cS) A s [(a_this, .inr (10, [.int i_this_inputs, .int i_this_gates, .ref a_now, .ref a_one, .ref a_other, .ref a_next, .int i_this_readInputs, .int i_this_readGates, .ref a_readOne, .ref a_readOther, .ref a_readNext, .ref a_text, .int i_this_length, .int i_this_paths, .ref a_pathInput, .ref a_pathGates, .ref a_before, .ref a_after, .ref a_values, .ref a_taken, .ref a_waves, .int i_this_acts, .int i_this_turn, .ref a_row, .int i_this_seen, .ref a_seenPair, .ref a_seenTime, .ref a_seenLate, .long i_this_seed, .ref a_isKept, .ref a_kept])), (a_now, .inl (cI, 32, .inl k_now)), (a_other, .inl (cI, 8, .inl k_other)), (a_one, .inl (cI, 8, .inl k_one)), (a_before, .inl (cI, 12, .inl k_before_15)), (a_after, .inl (cI, 12, .inl k_after_16)), (a_values, .inl (cI, 12, .inl k_values_17)), (a_next, .inl (cI, 4, .inl k_next)), (a_pathInput, .inl (cI, 64, .inl k_pathInput)), (a_taken, .inl (cI, 128, .inl k_taken_18)), (a_pathGates, .inl (cI, 64, .inl k_pathGates))] H locs → lv_has ls 5 [(0, .ref a_this), (1, .int y1), (2, .int y2), (3, .int x3_13), (4, .int x4_14)] → W p l e rmX10_packed s m args below meth c H locs 0 0 Q (F0 m 51 ls []) := by
          intro nf
          induction nf with
          | zero =>
            intro x3_13 x4_14 k_before_15 k_after_16 k_values_17 k_taken_18 H locs ls h
            rw [f_X10_packed_L51] at h
            cases h
          | succ n_51 ih_51 =>
            intro x3_13 x4_14 k_before_15 k_after_16 k_values_17 k_taken_18 H locs ls h hw hl
            rw [f_X10_packed_L51] at h
            refine lv_iload hx hb dX10_packed_51 (lv_at hl 4 rfl) ?_
            refine lv_bipush (v := (-9 : Int32)) hx hb dX10_packed_53 (by decide) ?_
            refine lv_icmp_eq (tgt := 92) hx hb dX10_packed_55 (by decide) (fun hc => ?_) (fun hc => ?_)
            · replace h := if_t hc h
              exact hj92_1 x3_13 k_before_15 k_after_16 k_values_17 k_taken_18 H locs ls h hw (lv_sub hl [2, 3] rfl)
            · replace h := if_f hc h
              refine lv_iload_n hx hb dX10_packed_58 rfl (lv_at hl 3 rfl) ?_
              refine lv_iload_n hx hb dX10_packed_59 rfl (lv_at hl 2 rfl) ?_
              refine lv_icmp_ne (tgt := 66) hx hb dX10_packed_60 (by decide) (fun hc => ?_) (fun hc => ?_)
              · replace h := if_f hc h
                refine lv_aload_n hx hb dX10_packed_66 rfl (lv_at hl 0 rfl) ?_
                refine lv_iconst (v := (0 : Int32)) hx hb dX10_packed_67 (by decide) ?_
                refine lv_iload hx hb dX10_packed_68 (lv_at hl 4 rfl) ?_
                obtain ⟨k_before_19, k_after_20, k_values_21, e70_1, h⟩ := obd3_el h
                refine zc_VV (As := [.int (0 : Int32), .int x4_14]) (rest := []) (wr := [(a_next, .inl (cI, 4, .inl k_next)), (a_pathInput, .inl (cI, 64, .inl k_pathInput)), (a_taken, .inl (cI, 128, .inl k_taken_18)), (a_pathGates, .inl (cI, 64, .inl k_pathGates))]) (q0 := 0) S hw (c_X10_findPair l D cI cJ cZ cS H.size N a_this a_now a_other a_one a_before a_after a_values a_next a_readOne a_readOther a_readNext a_text a_pathInput a_pathGates a_taken a_waves a_row a_seenPair a_seenTime a_seenLate a_isKept a_kept i_this_inputs i_this_gates i_this_readInputs i_this_readGates i_this_length i_this_paths i_this_acts i_this_turn i_this_seen i_this_seed k_now k_other k_one k_before_15 k_after_16 k_values_17 (0 : Int32) x4_14 k_before_19 k_after_20 k_values_21 e70_1) (cwV 2 hts gX10_packed_X10_findPair rfl rfl rfl dv_X10_findPair ⟨Nat.le_of_ble_eq_true rfl, Nat.le_of_ble_eq_true rfl⟩) [0, 1, 2, 3, 4, 5, 6] [7, 8, 9, 10] rfl rfl rfl rfl (by decide) rfl rfl rfl rfl hl.1 rfl (Nat.le_of_ble_eq_true rfl) dX10_packed_70 ⟨Nat.zero_le _, Nat.zero_le _⟩ (fun H locs hw => ?_)
                refine lv_aload_n hx hb dX10_packed_73 rfl (lv_at hl 0 rfl) ?_
                refine lv_iconst (v := (1 : Int32)) hx hb dX10_packed_74 (by decide) ?_
                obtain ⟨r_22, k_taken_23, e75_1, h⟩ := obd2_el h
                refine zc_VI (As := [.int (1 : Int32)]) (rest := []) (wr := [(a_next, .inl (cI, 4, .inl k_next))]) (q0 := 0) S hw (c_X10_addsOn l D cI cJ cZ cS H.size N a_this a_pathInput a_after a_taken a_pathGates a_before a_now a_one a_values a_other a_next a_readOne a_readOther a_readNext a_text a_waves a_row a_seenPair a_seenTime a_seenLate a_isKept a_kept i_this_inputs i_this_gates i_this_readInputs i_this_readGates i_this_length i_this_paths i_this_acts i_this_turn i_this_seen i_this_seed k_pathInput k_after_20 k_taken_18 k_pathGates k_before_19 k_now k_one k_values_21 k_other (1 : Int32) r_22 k_taken_23 e75_1) (cwV 1 hts gX10_packed_X10_addsOn rfl rfl rfl dv_X10_addsOn ⟨Nat.le_of_ble_eq_true rfl, Nat.le_of_ble_eq_true rfl⟩) [4, 1, 9, 2, 3, 8, 5, 7, 10, 6] [0] rfl rfl rfl rfl (by decide) rfl rfl rfl rfl hl.1 rfl (Nat.le_of_ble_eq_true rfl) dX10_packed_75 ⟨Nat.zero_le _, Nat.zero_le _⟩ (fun H locs hw => ?_)
                refine lv_pop hx hb dX10_packed_78 rfl ?_
                obtain ⟨x3_24, ex3_24, h⟩ := bnd_ex h
                refine lv_iinc (v := x3_24) (lv' := [(3, .int x3_24), (0, .ref a_this), (1, .int y1), (2, .int y2), (4, .int x4_14)]) hx hb dX10_packed_79 hl (k := 3) rfl (by rw [ex3_24]; rfl) (by decide) rfl (fun ls hl => ?_)
                refine lv_aload_n hx hb dX10_packed_82 rfl (lv_at hl 1 rfl) ?_
                refine lv_iload_n hx hb dX10_packed_83 rfl (lv_at hl 2 rfl) ?_
                obtain ⟨r_25, k_before_26, k_after_27, k_values_28, k_taken_29, e84_1, h⟩ := obd5_el h
                refine zc_VI (As := [.int y1]) (rest := []) (wr := []) (q0 := 0) S hw (c_X10_bestPair l D cI cJ cZ cS H.size N a_this a_now a_other a_one a_before a_after a_values a_next a_pathInput a_taken a_pathGates a_readOne a_readOther a_readNext a_text a_waves a_row a_seenPair a_seenTime a_seenLate a_isKept a_kept i_this_inputs i_this_gates i_this_readInputs i_this_readGates i_this_length i_this_paths i_this_acts i_this_turn i_this_seen i_this_seed k_now k_other k_one k_before_19 k_after_20 k_values_21 k_next k_pathInput k_taken_23 k_pathGates y1 r_25 k_before_26 k_after_27 k_values_28 k_taken_29 e84_1) (cwV 1 hts gX10_packed_X10_bestPair rfl rfl rfl dv_X10_bestPair ⟨Nat.le_of_ble_eq_true rfl, Nat.le_of_ble_eq_true rfl⟩) [1, 7, 10, 8, 6, 3, 9, 0, 2, 4, 5] [] rfl rfl rfl rfl (by decide) rfl rfl rfl rfl hl.1 rfl (Nat.le_of_ble_eq_true rfl) dX10_packed_84 ⟨Nat.zero_le _, Nat.zero_le _⟩ (fun H locs hw => ?_)
                refine lv_istore (lv' := [(4, .int r_25), (3, .int x3_24), (0, .ref a_this), (1, .int y1), (2, .int y2)]) hx hb dX10_packed_87 hl (by decide) rfl (fun ls hl => ?_)
                refine lv_goto (tgt := 51) hx hb dX10_packed_89 (by decide) ?_
                exact ih_51 x3_24 r_25 k_before_26 k_after_27 k_values_28 k_taken_29 H locs ls h hw (lv_sub hl [2, 3, 4, 1, 0] rfl)
              · replace h := if_t hc h
                refine lv_iload hx hb dX10_packed_63 (lv_at hl 4 rfl) ?_
                cases h
                exact z_iret S hQ hr hw [0, 1, 2, 3, 4, 5, 6, 7, 8, 9, 10] rfl rfl dX10_packed_65
        exact hL51_1 N ((0 : Int32)) r_3 k_before_4 k_after_5 k_values_6 k_taken_7 H locs ls h hw (lv_sub hl [2, 3, 4, 1, 0] rfl)
      have hL22_1 : ∀ (nf : Nat) (x3_30 : Int32) (k_taken_31 : (Nat → Int32)) (H : Heap) (locs : List Loc) (ls : Array Slot), f_X10_packed_L22 N j42_1 nf x3_30 k_taken_31 = some (rr, o_before, o_after, o_values, o_taken) → Wd D (tyA cI cJ cZ cS) A s [(a_this, .inr (10, [.int i_this_inputs, .int i_this_gates, .ref a_now, .ref a_one, .ref a_other, .ref a_next, .int i_this_readInputs, .int i_this_readGates, .ref a_readOne, .ref a_readOther, .ref a_readNext, .ref a_text, .int i_this_length, .int i_this_paths, .ref a_pathInput, .ref a_pathGates, .ref a_before, .ref a_after, .ref a_values, .ref a_taken, .ref a_waves, .int i_this_acts, .int i_this_turn, .ref a_row, .int i_this_seen, .ref a_seenPair, .ref a_seenTime, .ref a_seenLate, .long i_this_seed, .ref a_isKept, .ref a_kept])), (a_now, .inl (cI, 32, .inl k_now)), (a_other, .inl (cI, 8, .inl k_other)), (a_one, .inl (cI, 8, .inl k_one)), (a_before, .inl (cI, 12, .inl k_before)), (a_after, .inl (cI, 12, .inl k_after)), (a_values, .inl (cI, 12, .inl k_values)), (a_next, .inl (cI, 4, .inl k_next)), (a_pathInput, .inl (cI, 64, .inl k_pathInput)), (a_taken, .inl (cI, 128, .inl k_taken_31)), (a_pathGates, .inl (cI, 64, .inl k_pathGates))] H locs → lv_has ls 5 [(0, .ref a_this), (1, .int y1), (2, .int y2), (3, .int x3_30)] → W p l e rmX10_packed s m args below meth c H locs 0 0 Q (F0 m 22 ls []) := by
        intro nf
        induction nf with
        | zero =>
          intro x3_30 k_taken_31 H locs ls h
          rw [f_X10_packed_L22] at h
          cases h
        | succ n_22 ih_22 =>
          intro x3_30 k_taken_31 H locs ls h hw hl
          rw [f_X10_packed_L22] at h
          refine lv_iload_n hx hb dX10_packed_22 rfl (lv_at hl 3 rfl) ?_
          refine lv_sipush (v := (128 : Int32)) hx hb dX10_packed_23 (by decide) ?_
          refine lv_icmp_ge (tgt := 42) hx hb dX10_packed_26 (by decide) (fun hc => ?_) (fun hc => ?_)
          · replace h := if_t hc h
            exact hj42_1 k_taken_31 H locs ls h hw (lv_sub hl [0, 1, 2] rfl)
          · replace h := if_f hc h
            refine lv_aload_n hx hb dX10_packed_29 rfl (lv_at hl 0 rfl) ?_
            refine z_get S hw F49 0 rfl rfl dX10_packed_30 ?_
            refine lv_iload_n hx hb dX10_packed_33 rfl (lv_at hl 3 rfl) ?_
            refine lv_iconst (v := (0 : Int32)) hx hb dX10_packed_34 (by decide) ?_
            obtain ⟨hg, h⟩ := grd_el h
            obtain ⟨k_taken_32, ek_taken_32, h⟩ := bnd_ex h
            refine z_iast S hw ek_taken_32 9 0 rfl rfl hg dX10_packed_35 (fun H locs hw => ?_)
            obtain ⟨x3_33, ex3_33, h⟩ := bnd_ex h
            refine lv_iinc (v := x3_33) (lv' := [(3, .int x3_33), (0, .ref a_this), (1, .int y1), (2, .int y2)]) hx hb dX10_packed_36 hl (k := 3) rfl (by rw [ex3_33]; rfl) (by decide) rfl (fun ls hl => ?_)
            refine lv_goto (tgt := 22) hx hb dX10_packed_39 (by decide) ?_
            exact ih_22 x3_33 k_taken_32 H locs ls h hw (lv_sub hl [1, 2, 3, 0] rfl)
      exact hL22_1 N ((0 : Int32)) k_taken H locs ls h hw (lv_sub hl [1, 2, 3, 0] rfl)
    · replace h := if_f hc h
      refine lv_bipush (v := (-2 : Int32)) hx hb dX10_packed_17 (by decide) ?_
      cases h
      exact z_iret S hQ hr hw [0, 1, 2, 3, 4, 5, 6, 7, 8, 9, 10] rfl rfl dX10_packed_19
abbrev rmX10_waveAt : Room := { frames := 0, cells := 0, slots := 0, locals := 0 }
theorem dv_X10_waveAt : yX10_waveAt.cls = RX10 ∧ yX10_waveAt.cls ≠ "java/lang/invoke/MethodHandle" ∧ yX10_waveAt.cls ≠ "java/lang/invoke/VarHandle" ∧ (parseMethodDescriptor yX10_waveAt.desc).map (fun d => d.parameters.length) = some 2 := by decide +kernel
noncomputable def f_X10_waveAt (N : Nat) (y1 : Int32) (y2 : Int32) (k_waves : (Nat → Int32)) (k_before : (Nat → Int32)) : Option (Int32) :=
  (if (0 : Int32) ≤ y2 then (grd (inb (((100 : Int32) * y1) + y2) 1200) <| some ((k_waves (((100 : Int32) * y1) + y2).toNatClampNeg))) else (grd (inb y1 12) <| some ((k_before y1.toNatClampNeg))))
set_option maxHeartbeats 4000000 in
set_option maxRecDepth 100000 in
theorem c_X10_waveAt (l : Launch) (D : va_G) (cI cJ cZ cS : ClassId) (sz N : Nat) (a_this a_waves a_before a_now a_one a_other a_next a_readOne a_readOther a_readNext a_text a_pathInput a_pathGates a_after a_values a_taken a_row a_seenPair a_seenTime a_seenLate a_isKept a_kept : Nat) (i_this_inputs : Int32) (i_this_gates : Int32) (i_this_readInputs : Int32) (i_this_readGates : Int32) (i_this_length : Int32) (i_this_paths : Int32) (i_this_acts : Int32) (i_this_turn : Int32) (i_this_seen : Int32) (i_this_seed : Int64) (k_waves : (Nat → Int32)) (k_before : (Nat → Int32)) (y1 : Int32) (y2 : Int32) (rr : Int32) (hf : f_X10_waveAt N y1 y2 k_waves k_before = some (rr)) : MetIr l yX10_waveAt wsX10_waveAt rmX10_waveAt D (tyA cI cJ cZ cS) [(a_this, .inr (10, [.int i_this_inputs, .int i_this_gates, .ref a_now, .ref a_one, .ref a_other, .ref a_next, .int i_this_readInputs, .int i_this_readGates, .ref a_readOne, .ref a_readOther, .ref a_readNext, .ref a_text, .int i_this_length, .int i_this_paths, .ref a_pathInput, .ref a_pathGates, .ref a_before, .ref a_after, .ref a_values, .ref a_taken, .ref a_waves, .int i_this_acts, .int i_this_turn, .ref a_row, .int i_this_seen, .ref a_seenPair, .ref a_seenTime, .ref a_seenLate, .long i_this_seed, .ref a_isKept, .ref a_kept])), (a_waves, .inl (cI, 1200, .inl k_waves)), (a_before, .inl (cI, 12, .inl k_before))] sz [.ref a_this, .int y1, .int y2] rr := by
  refine entIr (cc := cX10_waveAt) (maxL := 3) (own := RX10) (by decide) rfl rfl (Nat.le_of_ble_eq_true rfl) ?_
  intro p e s m args below meth c A ls Q S hr hw hl hQ
  have hx := S.1.1
  have hb := S.1.2.1
  have hts := S.1.2.2.2.2
  have hl : lv_has ls 3 [(0, .ref a_this), (1, .int y1), (2, .int y2)] := hl
  have hinX10 : ∀ w ∈ u_ws RX10 TX10 31, w ∈ wsX10_waveAt := (fun _ h => List.mem_cons_of_mem _ (List.mem_append_right _ h))
  have F40 : FLk s args wsX10_waveAt RX10 40 RX10 TX10 31 10 16 := ⟨hinX10, rfl, by decide, hts (.fieldLink RX10 40 "SlowPathsModel" "before" "[I") (List.mem_of_getElem? (i := 1) rfl)⟩
  have F52 : FLk s args wsX10_waveAt RX10 52 RX10 TX10 31 10 20 := ⟨hinX10, rfl, by decide, hts (.fieldLink RX10 52 "SlowPathsModel" "waves" "[I") (List.mem_of_getElem? (i := 2) rfl)⟩
  have h := hf
  rw [f_X10_waveAt] at h
  refine lv_iload_n hx hb dX10_waveAt_0 rfl (lv_at hl 2 rfl) ?_
  refine lv_if_ge (tgt := 13) hx hb dX10_waveAt_1 (by decide) (fun hc => ?_) (fun hc => ?_)
  · replace h := if_t hc h
    refine lv_aload_n hx hb dX10_waveAt_13 rfl (lv_at hl 0 rfl) ?_
    refine z_get S hw F52 0 rfl rfl dX10_waveAt_14 ?_
    refine lv_bipush (v := (100 : Int32)) hx hb dX10_waveAt_17 (by decide) ?_
    refine lv_iload_n hx hb dX10_waveAt_19 rfl (lv_at hl 1 rfl) ?_
    refine lv_imul hx hb dX10_waveAt_20 ?_
    refine lv_iload_n hx hb dX10_waveAt_21 rfl (lv_at hl 2 rfl) ?_
    refine lv_iadd hx hb dX10_waveAt_22 ?_
    obtain ⟨hg, h⟩ := grd_el h
    refine z_iald S hw 1 0 rfl rfl hg dX10_waveAt_23 ?_
    cases h
    exact z_iretr S hQ hr dX10_waveAt_24
  · replace h := if_f hc h
    refine lv_aload_n hx hb dX10_waveAt_4 rfl (lv_at hl 0 rfl) ?_
    refine z_get S hw F40 0 rfl rfl dX10_waveAt_5 ?_
    refine lv_iload_n hx hb dX10_waveAt_8 rfl (lv_at hl 1 rfl) ?_
    obtain ⟨hg, h⟩ := grd_el h
    refine z_iald S hw 2 0 rfl rfl hg dX10_waveAt_9 ?_
    refine lv_goto (tgt := 24) hx hb dX10_waveAt_10 (by decide) ?_
    cases h
    exact z_iretr S hQ hr dX10_waveAt_24
abbrev rmX10_findWaves : Room := { frames := 3, cells := 0, slots := 0, locals := 68 }
theorem dv_X10_findWaves : yX10_findWaves.cls = RX10 ∧ yX10_findWaves.cls ≠ "java/lang/invoke/MethodHandle" ∧ yX10_findWaves.cls ≠ "java/lang/invoke/VarHandle" ∧ (parseMethodDescriptor yX10_findWaves.desc).map (fun d => d.parameters.length) = some 2 := by decide +kernel
noncomputable def f_X10_findWaves_L54 (N : Nat) (y1 : Int32) (i_this_gates : Int32) (k_now : (Nat → Int32)) (k_other : (Nat → Int32)) (k_one : (Nat → Int32)) (k_before_1 : (Nat → Int32)) (x3_5 : Int32) (j171_1 : (Nat → Int32) → Option ((Nat → Int32) × (Nat → Int32) × (Nat → Int32) × (Nat → Int32))) : Nat → Int32 → (Nat → Int32) → Option ((Nat → Int32) × (Nat → Int32) × (Nat → Int32) × (Nat → Int32))
  | 0, _, _ => none
  | n_54 + 1, x4_10, k_waves_11 =>
    (if i_this_gates ≤ x4_10 then (j171_1 k_waves_11) else (grd (inb ((((16 : Int32) * y1) + (8 : Int32)) + x4_10) 32) <| bnd ((x3_5 - (k_now ((((16 : Int32) * y1) + (8 : Int32)) + x4_10).toNatClampNeg))) fun (x5_12 : Int32) => grd (inb x4_10 8) <| bnd (fun (t_13 : Int32) => (grd (inb ((((16 : Int32) * y1) + (0 : Int32)) + x4_10) 32) <| grd (inb x4_10 8) <| obd1 (f_X10_waveAt N (k_one x4_10.toNatClampNeg) x5_12 k_waves_11 k_before_1) fun (r_14 : Int32) => obd1 (f_X10_waveAt N t_13 x5_12 k_waves_11 k_before_1) fun (r_15 : Int32) => obd1 (f_X10_makes N (k_now ((((16 : Int32) * y1) + (0 : Int32)) + x4_10).toNatClampNeg) r_14 r_15) fun (r_16 : Int32) => grd (inb (((100 : Int32) * ((4 : Int32) + x4_10)) + x3_5) 1200) <| bnd (upd k_waves_11 (((100 : Int32) * ((4 : Int32) + x4_10)) + x3_5).toNatClampNeg r_16) fun (k_waves_17 : (Nat → Int32)) => bnd (x4_10 + (1 : Int32)) fun (x4_18 : Int32) => f_X10_findWaves_L54 N y1 i_this_gates k_now k_other k_one k_before_1 x3_5 j171_1 n_54 x4_18 k_waves_17)) fun (j111_1 : Int32 → Option ((Nat → Int32) × (Nat → Int32) × (Nat → Int32) × (Nat → Int32))) => (if (k_other x4_10.toNatClampNeg) = (-9 : Int32) then (grd (inb x4_10 8) <| j111_1 ((k_one x4_10.toNatClampNeg))) else (grd (inb x4_10 8) <| j111_1 ((k_other x4_10.toNatClampNeg))))))
noncomputable def f_X10_findWaves_L17 (N : Nat) (i_this_inputs : Int32) (k_after_2 : (Nat → Int32)) (x3_5 : Int32) (j51_1 : (Nat → Int32) → Option ((Nat → Int32) × (Nat → Int32) × (Nat → Int32) × (Nat → Int32))) : Nat → Int32 → (Nat → Int32) → Option ((Nat → Int32) × (Nat → Int32) × (Nat → Int32) × (Nat → Int32))
  | 0, _, _ => none
  | n_17 + 1, x4_19, k_waves_20 =>
    (if i_this_inputs ≤ x4_19 then (j51_1 k_waves_20) else (grd (inb x4_19 12) <| grd (inb (((100 : Int32) * x4_19) + x3_5) 1200) <| bnd (upd k_waves_20 (((100 : Int32) * x4_19) + x3_5).toNatClampNeg (k_after_2 x4_19.toNatClampNeg)) fun (k_waves_21 : (Nat → Int32)) => bnd (x4_19 + (1 : Int32)) fun (x4_22 : Int32) => f_X10_findWaves_L17 N i_this_inputs k_after_2 x3_5 j51_1 n_17 x4_22 k_waves_21))
noncomputable def f_X10_findWaves_L8 (N : Nat) (y1 : Int32) (i_this_inputs : Int32) (i_this_gates : Int32) (k_now : (Nat → Int32)) (k_other : (Nat → Int32)) (k_one : (Nat → Int32)) (k_before_1 : (Nat → Int32)) (k_after_2 : (Nat → Int32)) (j177_1 : (Nat → Int32) → Option ((Nat → Int32) × (Nat → Int32) × (Nat → Int32) × (Nat → Int32))) : Nat → Int32 → (Nat → Int32) → Option ((Nat → Int32) × (Nat → Int32) × (Nat → Int32) × (Nat → Int32))
  | 0, _, _ => none
  | n_8 + 1, x3_5, k_waves_6 =>
    (if (100 : Int32) ≤ x3_5 then (j177_1 k_waves_6) else (bnd (fun (k_waves_7 : (Nat → Int32)) => (bnd (fun (k_waves_8 : (Nat → Int32)) => (bnd (x3_5 + (1 : Int32)) fun (x3_9 : Int32) => f_X10_findWaves_L8 N y1 i_this_inputs i_this_gates k_now k_other k_one k_before_1 k_after_2 j177_1 n_8 x3_9 k_waves_8)) fun (j171_1 : (Nat → Int32) → Option ((Nat → Int32) × (Nat → Int32) × (Nat → Int32) × (Nat → Int32))) => f_X10_findWaves_L54 N y1 i_this_gates k_now k_other k_one k_before_1 x3_5 j171_1 N ((0 : Int32)) k_waves_7)) fun (j51_1 : (Nat → Int32) → Option ((Nat → Int32) × (Nat → Int32) × (Nat → Int32) × (Nat → Int32))) => f_X10_findWaves_L17 N i_this_inputs k_after_2 x3_5 j51_1 N ((0 : Int32)) k_waves_6))
noncomputable def f_X10_findWaves (N : Nat) (y1 : Int32) (y2 : Int32) (i_this_inputs : Int32) (i_this_gates : Int32) (k_now : (Nat → Int32)) (k_other : (Nat → Int32)) (k_one : (Nat → Int32)) (k_before : (Nat → Int32)) (k_after : (Nat → Int32)) (k_values : (Nat → Int32)) (k_waves : (Nat → Int32)) : Option ((Nat → Int32) × (Nat → Int32) × (Nat → Int32) × (Nat → Int32)) :=
  obd3 (f_X10_findPair N y1 y2 i_this_inputs i_this_gates k_now k_other k_one k_before k_after k_values) fun (k_before_1 : (Nat → Int32)) (k_after_2 : (Nat → Int32)) (k_values_3 : (Nat → Int32)) => bnd (fun (k_waves_4 : (Nat → Int32)) => (some (k_before_1, k_after_2, k_values_3, k_waves_4))) fun (j177_1 : (Nat → Int32) → Option ((Nat → Int32) × (Nat → Int32) × (Nat → Int32) × (Nat → Int32))) => f_X10_findWaves_L8 N y1 i_this_inputs i_this_gates k_now k_other k_one k_before_1 k_after_2 j177_1 N ((0 : Int32)) k_waves
set_option maxHeartbeats 4000000 in
set_option maxRecDepth 100000 in
theorem c_X10_findWaves (l : Launch) (D : va_G) (cI cJ cZ cS : ClassId) (sz N : Nat) (a_this a_now a_other a_one a_before a_after a_values a_waves a_next a_readOne a_readOther a_readNext a_text a_pathInput a_pathGates a_taken a_row a_seenPair a_seenTime a_seenLate a_isKept a_kept : Nat) (i_this_inputs : Int32) (i_this_gates : Int32) (i_this_readInputs : Int32) (i_this_readGates : Int32) (i_this_length : Int32) (i_this_paths : Int32) (i_this_acts : Int32) (i_this_turn : Int32) (i_this_seen : Int32) (i_this_seed : Int64) (k_now : (Nat → Int32)) (k_other : (Nat → Int32)) (k_one : (Nat → Int32)) (k_before : (Nat → Int32)) (k_after : (Nat → Int32)) (k_values : (Nat → Int32)) (k_waves : (Nat → Int32)) (y1 : Int32) (y2 : Int32) (o_before : (Nat → Int32)) (o_after : (Nat → Int32)) (o_values : (Nat → Int32)) (o_waves : (Nat → Int32)) (hf : f_X10_findWaves N y1 y2 i_this_inputs i_this_gates k_now k_other k_one k_before k_after k_values k_waves = some (o_before, o_after, o_values, o_waves)) : MetV l yX10_findWaves wsX10_findWaves rmX10_findWaves D (tyA cI cJ cZ cS) [(a_this, .inr (10, [.int i_this_inputs, .int i_this_gates, .ref a_now, .ref a_one, .ref a_other, .ref a_next, .int i_this_readInputs, .int i_this_readGates, .ref a_readOne, .ref a_readOther, .ref a_readNext, .ref a_text, .int i_this_length, .int i_this_paths, .ref a_pathInput, .ref a_pathGates, .ref a_before, .ref a_after, .ref a_values, .ref a_taken, .ref a_waves, .int i_this_acts, .int i_this_turn, .ref a_row, .int i_this_seen, .ref a_seenPair, .ref a_seenTime, .ref a_seenLate, .long i_this_seed, .ref a_isKept, .ref a_kept])), (a_now, .inl (cI, 32, .inl k_now)), (a_other, .inl (cI, 8, .inl k_other)), (a_one, .inl (cI, 8, .inl k_one)), (a_before, .inl (cI, 12, .inl k_before)), (a_after, .inl (cI, 12, .inl k_after)), (a_values, .inl (cI, 12, .inl k_values)), (a_waves, .inl (cI, 1200, .inl k_waves))] sz [.ref a_this, .int y1, .int y2] [(a_this, .inr (10, [.int i_this_inputs, .int i_this_gates, .ref a_now, .ref a_one, .ref a_other, .ref a_next, .int i_this_readInputs, .int i_this_readGates, .ref a_readOne, .ref a_readOther, .ref a_readNext, .ref a_text, .int i_this_length, .int i_this_paths, .ref a_pathInput, .ref a_pathGates, .ref a_before, .ref a_after, .ref a_values, .ref a_taken, .ref a_waves, .int i_this_acts, .int i_this_turn, .ref a_row, .int i_this_seen, .ref a_seenPair, .ref a_seenTime, .ref a_seenLate, .long i_this_seed, .ref a_isKept, .ref a_kept])), (a_now, .inl (cI, 32, .inl k_now)), (a_other, .inl (cI, 8, .inl k_other)), (a_one, .inl (cI, 8, .inl k_one)), (a_before, .inl (cI, 12, .inl o_before)), (a_after, .inl (cI, 12, .inl o_after)), (a_values, .inl (cI, 12, .inl o_values)), (a_waves, .inl (cI, 1200, .inl o_waves))] := by
  refine entV (cc := cX10_findWaves) (maxL := 7) (own := RX10) (by decide) rfl rfl (Nat.le_of_ble_eq_true rfl) ?_
  intro p e s m args below meth c A ls Q H locs S hr hw hl hQ
  have hx := S.1.1
  have hb := S.1.2.1
  have hts := S.1.2.2.2.2
  have hl : lv_has ls 7 [(0, .ref a_this), (1, .int y1), (2, .int y2)] := hl
  have hinX10 : ∀ w ∈ u_ws RX10 TX10 31, w ∈ wsX10_findWaves := (fun _ h => List.mem_cons_of_mem _ (List.mem_append_right _ h))
  have F7 : FLk s args wsX10_findWaves RX10 7 RX10 TX10 31 10 2 := ⟨hinX10, rfl, by decide, hts (.fieldLink RX10 7 "SlowPathsModel" "now" "[I") (List.mem_of_getElem? (i := 5) rfl)⟩
  have F13 : FLk s args wsX10_findWaves RX10 13 RX10 TX10 31 10 3 := ⟨hinX10, rfl, by decide, hts (.fieldLink RX10 13 "SlowPathsModel" "one" "[I") (List.mem_of_getElem? (i := 7) rfl)⟩
  have F16 : FLk s args wsX10_findWaves RX10 16 RX10 TX10 31 10 4 := ⟨hinX10, rfl, by decide, hts (.fieldLink RX10 16 "SlowPathsModel" "other" "[I") (List.mem_of_getElem? (i := 6) rfl)⟩
  have F43 : FLk s args wsX10_findWaves RX10 43 RX10 TX10 31 10 17 := ⟨hinX10, rfl, by decide, hts (.fieldLink RX10 43 "SlowPathsModel" "after" "[I") (List.mem_of_getElem? (i := 3) rfl)⟩
  have F52 : FLk s args wsX10_findWaves RX10 52 RX10 TX10 31 10 20 := ⟨hinX10, rfl, by decide, hts (.fieldLink RX10 52 "SlowPathsModel" "waves" "[I") (List.mem_of_getElem? (i := 2) rfl)⟩
  have F112 : FLk s args wsX10_findWaves RX10 112 RX10 TX10 31 10 0 := ⟨hinX10, rfl, by decide, hts (.fieldLink RX10 112 "SlowPathsModel" "inputs" "I") (List.mem_of_getElem? (i := 1) rfl)⟩
  have F115 : FLk s args wsX10_findWaves RX10 115 RX10 TX10 31 10 1 := ⟨hinX10, rfl, by decide, hts (.fieldLink RX10 115 "SlowPathsModel" "gates" "I") (List.mem_of_getElem? (i := 4) rfl)⟩
  have h := hf
  rw [f_X10_findWaves] at h
  refine lv_aload_n hx hb dX10_findWaves_0 rfl (lv_at hl 0 rfl) ?_
  refine lv_iload_n hx hb dX10_findWaves_1 rfl (lv_at hl 1 rfl) ?_
  refine lv_iload_n hx hb dX10_findWaves_2 rfl (lv_at hl 2 rfl) ?_
  obtain ⟨k_before_1, k_after_2, k_values_3, e3_1, h⟩ := obd3_el h
  refine zc_VV (As := [.int y1, .int y2]) (rest := []) (wr := [(a_waves, .inl (cI, 1200, .inl k_waves))]) (q0 := 0) S hw (c_X10_findPair l D cI cJ cZ cS H.size N a_this a_now a_other a_one a_before a_after a_values a_next a_readOne a_readOther a_readNext a_text a_pathInput a_pathGates a_taken a_waves a_row a_seenPair a_seenTime a_seenLate a_isKept a_kept i_this_inputs i_this_gates i_this_readInputs i_this_readGates i_this_length i_this_paths i_this_acts i_this_turn i_this_seen i_this_seed k_now k_other k_one k_before k_after k_values y1 y2 k_before_1 k_after_2 k_values_3 e3_1) (cwV 2 hts gX10_findWaves_X10_findPair rfl rfl rfl dv_X10_findPair ⟨Nat.le_of_ble_eq_true rfl, Nat.le_of_ble_eq_true rfl⟩) [0, 1, 2, 3, 4, 5, 6] [7] rfl rfl rfl rfl (by decide) rfl rfl rfl rfl hl.1 rfl (Nat.le_of_ble_eq_true rfl) dX10_findWaves_3 ⟨Nat.zero_le _, Nat.zero_le _⟩ (fun H locs hw => ?_)
  refine lv_iconst (v := (0 : Int32)) hx hb dX10_findWaves_6 (by decide) ?_
  refine lv_istore_n (lv' := [(3, .int (0 : Int32)), (0, .ref a_this), (1, .int y1), (2, .int y2)]) hx hb dX10_findWaves_7 rfl hl (by decide) rfl (fun ls hl => ?_)
  obtain ⟨j177_1, ej177_1, h⟩ := bnd_ex h
  have hj177_1 : ∀ (k_waves_4 : (Nat → Int32)) (H : Heap) (locs : List Loc) (ls : Array Slot), j177_1 k_waves_4 = some (o_before, o_after, o_values, o_waves) → Wd D (tyA cI cJ cZ cS) A s [(a_this, .inr (10, [.int i_this_inputs, .int i_this_gates, .ref a_now, .ref a_one, .ref a_other, .ref a_next, .int i_this_readInputs, .int i_this_readGates, .ref a_readOne, .ref a_readOther, .ref a_readNext, .ref a_text, .int i_this_length, .int i_this_paths, .ref a_pathInput, .ref a_pathGates, .ref a_before, .ref a_after, .ref a_values, .ref a_taken, .ref a_waves, .int i_this_acts, .int i_this_turn, .ref a_row, .int i_this_seen, .ref a_seenPair, .ref a_seenTime, .ref a_seenLate, .long i_this_seed, .ref a_isKept, .ref a_kept])), (a_now, .inl (cI, 32, .inl k_now)), (a_other, .inl (cI, 8, .inl k_other)), (a_one, .inl (cI, 8, .inl k_one)), (a_before, .inl (cI, 12, .inl k_before_1)), (a_after, .inl (cI, 12, .inl k_after_2)), (a_values, .inl (cI, 12, .inl k_values_3)), (a_waves, .inl (cI, 1200, .inl k_waves_4))] H locs → lv_has ls 7 [] → W p l e rmX10_findWaves s m args below meth c H locs 0 0 Q (F0 m 177 ls []) := by
    intro k_waves_4 H locs ls h hw hl
    replace h := ap1 ej177_1 h
    cases h
    exact z_vret S hQ hr hw [0, 1, 2, 3, 4, 5, 6, 7] rfl rfl dX10_findWaves_177
  have hL8_1 : ∀ (nf : Nat) (x3_5 : Int32) (k_waves_6 : (Nat → Int32)) (H : Heap) (locs : List Loc) (ls : Array Slot), f_X10_findWaves_L8 N y1 i_this_inputs i_this_gates k_now k_other k_one k_before_1 k_after_2 j177_1 nf x3_5 k_waves_6 = some (o_before, o_after, o_values, o_waves) → Wd D (tyA cI cJ cZ cS) A s [(a_this, .inr (10, [.int i_this_inputs, .int i_this_gates, .ref a_now, .ref a_one, .ref a_other, .ref a_next, .int i_this_readInputs, .int i_this_readGates, .ref a_readOne, .ref a_readOther, .ref a_readNext, .ref a_text, .int i_this_length, .int i_this_paths, .ref a_pathInput, .ref a_pathGates, .ref a_before, .ref a_after, .ref a_values, .ref a_taken, .ref a_waves, .int i_this_acts, .int i_this_turn, .ref a_row, .int i_this_seen, .ref a_seenPair, .ref a_seenTime, .ref a_seenLate, .long i_this_seed, .ref a_isKept, .ref a_kept])), (a_now, .inl (cI, 32, .inl k_now)), (a_other, .inl (cI, 8, .inl k_other)), (a_one, .inl (cI, 8, .inl k_one)), (a_before, .inl (cI, 12, .inl k_before_1)), (a_after, .inl (cI, 12, .inl k_after_2)), (a_values, .inl (cI, 12, .inl k_values_3)), (a_waves, .inl (cI, 1200, .inl k_waves_6))] H locs → lv_has ls 7 [(0, .ref a_this), (1, .int y1), (3, .int x3_5)] → W p l e rmX10_findWaves s m args below meth c H locs 0 0 Q (F0 m 8 ls []) := by
    intro nf
    induction nf with
    | zero =>
      intro x3_5 k_waves_6 H locs ls h
      rw [f_X10_findWaves_L8] at h
      cases h
    | succ n_8 ih_8 =>
      intro x3_5 k_waves_6 H locs ls h hw hl
      rw [f_X10_findWaves_L8] at h
      refine lv_iload_n hx hb dX10_findWaves_8 rfl (lv_at hl 2 rfl) ?_
      refine lv_bipush (v := (100 : Int32)) hx hb dX10_findWaves_9 (by decide) ?_
      refine lv_icmp_ge (tgt := 177) hx hb dX10_findWaves_11 (by decide) (fun hc => ?_) (fun hc => ?_)
      · replace h := if_t hc h
        exact hj177_1 k_waves_6 H locs ls h hw (lv_sub hl [] rfl)
      · replace h := if_f hc h
        refine lv_iconst (v := (0 : Int32)) hx hb dX10_findWaves_14 (by decide) ?_
        refine lv_istore (lv' := [(4, .int (0 : Int32)), (0, .ref a_this), (1, .int y1), (3, .int x3_5)]) hx hb dX10_findWaves_15 hl (by decide) rfl (fun ls hl => ?_)
        obtain ⟨j51_1, ej51_1, h⟩ := bnd_ex h
        have hj51_1 : ∀ (k_waves_7 : (Nat → Int32)) (H : Heap) (locs : List Loc) (ls : Array Slot), j51_1 k_waves_7 = some (o_before, o_after, o_values, o_waves) → Wd D (tyA cI cJ cZ cS) A s [(a_this, .inr (10, [.int i_this_inputs, .int i_this_gates, .ref a_now, .ref a_one, .ref a_other, .ref a_next, .int i_this_readInputs, .int i_this_readGates, .ref a_readOne, .ref a_readOther, .ref a_readNext, .ref a_text, .int i_this_length, .int i_this_paths, .ref a_pathInput, .ref a_pathGates, .ref a_before, .ref a_after, .ref a_values, .ref a_taken, .ref a_waves, .int i_this_acts, .int i_this_turn, .ref a_row, .int i_this_seen, .ref a_seenPair, .ref a_seenTime, .ref a_seenLate, .long i_this_seed, .ref a_isKept, .ref a_kept])), (a_now, .inl (cI, 32, .inl k_now)), (a_other, .inl (cI, 8, .inl k_other)), (a_one, .inl (cI, 8, .inl k_one)), (a_before, .inl (cI, 12, .inl k_before_1)), (a_after, .inl (cI, 12, .inl k_after_2)), (a_values, .inl (cI, 12, .inl k_values_3)), (a_waves, .inl (cI, 1200, .inl k_waves_7))] H locs → lv_has ls 7 [(0, .ref a_this), (1, .int y1), (3, .int x3_5)] → W p l e rmX10_findWaves s m args below meth c H locs 0 0 Q (F0 m 51 ls []) := by
          intro k_waves_7 H locs ls h hw hl
          replace h := ap1 ej51_1 h
          refine lv_iconst (v := (0 : Int32)) hx hb dX10_findWaves_51 (by decide) ?_
          refine lv_istore (lv' := [(4, .int (0 : Int32)), (0, .ref a_this), (1, .int y1), (3, .int x3_5)]) hx hb dX10_findWaves_52 hl (by decide) rfl (fun ls hl => ?_)
          obtain ⟨j171_1, ej171_1, h⟩ := bnd_ex h
          have hj171_1 : ∀ (k_waves_8 : (Nat → Int32)) (H : Heap) (locs : List Loc) (ls : Array Slot), j171_1 k_waves_8 = some (o_before, o_after, o_values, o_waves) → Wd D (tyA cI cJ cZ cS) A s [(a_this, .inr (10, [.int i_this_inputs, .int i_this_gates, .ref a_now, .ref a_one, .ref a_other, .ref a_next, .int i_this_readInputs, .int i_this_readGates, .ref a_readOne, .ref a_readOther, .ref a_readNext, .ref a_text, .int i_this_length, .int i_this_paths, .ref a_pathInput, .ref a_pathGates, .ref a_before, .ref a_after, .ref a_values, .ref a_taken, .ref a_waves, .int i_this_acts, .int i_this_turn, .ref a_row, .int i_this_seen, .ref a_seenPair, .ref a_seenTime, .ref a_seenLate, .long i_this_seed, .ref a_isKept, .ref a_kept])), (a_now, .inl (cI, 32, .inl k_now)), (a_other, .inl (cI, 8, .inl k_other)), (a_one, .inl (cI, 8, .inl k_one)), (a_before, .inl (cI, 12, .inl k_before_1)), (a_after, .inl (cI, 12, .inl k_after_2)), (a_values, .inl (cI, 12, .inl k_values_3)), (a_waves, .inl (cI, 1200, .inl k_waves_8))] H locs → lv_has ls 7 [(0, .ref a_this), (1, .int y1), (3, .int x3_5)] → W p l e rmX10_findWaves s m args below meth c H locs 0 0 Q (F0 m 171 ls []) := by
            intro k_waves_8 H locs ls h hw hl
            replace h := ap1 ej171_1 h
            obtain ⟨x3_9, ex3_9, h⟩ := bnd_ex h
            refine lv_iinc (v := x3_9) (lv' := [(3, .int x3_9), (0, .ref a_this), (1, .int y1)]) hx hb dX10_findWaves_171 hl (k := 2) rfl (by rw [ex3_9]; rfl) (by decide) rfl (fun ls hl => ?_)
            refine lv_goto (tgt := 8) hx hb dX10_findWaves_174 (by decide) ?_
            exact ih_8 x3_9 k_waves_8 H locs ls h hw (lv_sub hl [1, 2, 0] rfl)
          have hL54_1 : ∀ (nf : Nat) (x4_10 : Int32) (k_waves_11 : (Nat → Int32)) (H : Heap) (locs : List Loc) (ls : Array Slot), f_X10_findWaves_L54 N y1 i_this_gates k_now k_other k_one k_before_1 x3_5 j171_1 nf x4_10 k_waves_11 = some (o_before, o_after, o_values, o_waves) → Wd D (tyA cI cJ cZ cS) A s [(a_this, .inr (10, [.int i_this_inputs, .int i_this_gates, .ref a_now, .ref a_one, .ref a_other, .ref a_next, .int i_this_readInputs, .int i_this_readGates, .ref a_readOne, .ref a_readOther, .ref a_readNext, .ref a_text, .int i_this_length, .int i_this_paths, .ref a_pathInput, .ref a_pathGates, .ref a_before, .ref a_after, .ref a_values, .ref a_taken, .ref a_waves, .int i_this_acts, .int i_this_turn, .ref a_row, .int i_this_seen, .ref a_seenPair, .ref a_seenTime, .ref a_seenLate, .long i_this_seed, .ref a_isKept, .ref a_kept])), (a_now, .inl (cI, 32, .inl k_now)), (a_other, .inl (cI, 8, .inl k_other)), (a_one, .inl (cI, 8, .inl k_one)), (a_before, .inl (cI, 12, .inl k_before_1)), (a_after, .inl (cI, 12, .inl k_after_2)), (a_values, .inl (cI, 12, .inl k_values_3)), (a_waves, .inl (cI, 1200, .inl k_waves_11))] H locs → lv_has ls 7 [(0, .ref a_this), (1, .int y1), (3, .int x3_5), (4, .int x4_10)] → W p l e rmX10_findWaves s m args below meth c H locs 0 0 Q (F0 m 54 ls []) := by
            intro nf
            induction nf with
            | zero =>
              intro x4_10 k_waves_11 H locs ls h
              rw [f_X10_findWaves_L54] at h
              cases h
            | succ n_54 ih_54 =>
              intro x4_10 k_waves_11 H locs ls h hw hl
              rw [f_X10_findWaves_L54] at h
              refine lv_iload hx hb dX10_findWaves_54 (lv_at hl 3 rfl) ?_
              refine lv_aload_n hx hb dX10_findWaves_56 rfl (lv_at hl 0 rfl) ?_
              refine z_get S hw F115 0 rfl rfl dX10_findWaves_57 ?_
              refine lv_icmp_ge (tgt := 171) hx hb dX10_findWaves_60 (by decide) (fun hc => ?_) (fun hc => ?_)
              · replace h := if_t hc h
                exact hj171_1 k_waves_11 H locs ls h hw (lv_sub hl [0, 1, 2] rfl)
              · replace h := if_f hc h
                refine lv_iload_n hx hb dX10_findWaves_63 rfl (lv_at hl 2 rfl) ?_
                refine lv_aload_n hx hb dX10_findWaves_64 rfl (lv_at hl 0 rfl) ?_
                refine z_get S hw F7 0 rfl rfl dX10_findWaves_65 ?_
                refine lv_bipush (v := (16 : Int32)) hx hb dX10_findWaves_68 (by decide) ?_
                refine lv_iload_n hx hb dX10_findWaves_70 rfl (lv_at hl 1 rfl) ?_
                refine lv_imul hx hb dX10_findWaves_71 ?_
                refine lv_bipush (v := (8 : Int32)) hx hb dX10_findWaves_72 (by decide) ?_
                refine lv_iadd hx hb dX10_findWaves_74 ?_
                refine lv_iload hx hb dX10_findWaves_75 (lv_at hl 3 rfl) ?_
                refine lv_iadd hx hb dX10_findWaves_77 ?_
                obtain ⟨hg, h⟩ := grd_el h
                refine z_iald S hw 1 0 rfl rfl hg dX10_findWaves_78 ?_
                refine lv_isub hx hb dX10_findWaves_79 ?_
                refine lv_topi (fun x5_12 ex5_12 => ?_)
                replace h := bnd_at ex5_12 h
                refine lv_istore (lv' := [(5, .int x5_12), (0, .ref a_this), (1, .int y1), (3, .int x3_5), (4, .int x4_10)]) hx hb dX10_findWaves_80 hl (by decide) rfl (fun ls hl => ?_)
                refine lv_aload_n hx hb dX10_findWaves_82 rfl (lv_at hl 1 rfl) ?_
                refine z_get S hw F16 0 rfl rfl dX10_findWaves_83 ?_
                refine lv_iload hx hb dX10_findWaves_86 (lv_at hl 4 rfl) ?_
                obtain ⟨hg, h⟩ := grd_el h
                refine z_iald S hw 2 0 rfl rfl hg dX10_findWaves_88 ?_
                refine lv_bipush (v := (-9 : Int32)) hx hb dX10_findWaves_89 (by decide) ?_
                obtain ⟨j111_1, ej111_1, h⟩ := bnd_ex h
                have hj111_1 : ∀ (t_13 : Int32) (H : Heap) (locs : List Loc) (ls : Array Slot), j111_1 t_13 = some (o_before, o_after, o_values, o_waves) → Wd D (tyA cI cJ cZ cS) A s [(a_this, .inr (10, [.int i_this_inputs, .int i_this_gates, .ref a_now, .ref a_one, .ref a_other, .ref a_next, .int i_this_readInputs, .int i_this_readGates, .ref a_readOne, .ref a_readOther, .ref a_readNext, .ref a_text, .int i_this_length, .int i_this_paths, .ref a_pathInput, .ref a_pathGates, .ref a_before, .ref a_after, .ref a_values, .ref a_taken, .ref a_waves, .int i_this_acts, .int i_this_turn, .ref a_row, .int i_this_seen, .ref a_seenPair, .ref a_seenTime, .ref a_seenLate, .long i_this_seed, .ref a_isKept, .ref a_kept])), (a_now, .inl (cI, 32, .inl k_now)), (a_other, .inl (cI, 8, .inl k_other)), (a_one, .inl (cI, 8, .inl k_one)), (a_before, .inl (cI, 12, .inl k_before_1)), (a_after, .inl (cI, 12, .inl k_after_2)), (a_values, .inl (cI, 12, .inl k_values_3)), (a_waves, .inl (cI, 1200, .inl k_waves_11))] H locs → lv_has ls 7 [(0, .ref a_this), (1, .int y1), (3, .int x3_5), (4, .int x4_10), (5, .int x5_12)] → W p l e rmX10_findWaves s m args below meth c H locs 0 0 Q (F0 m 111 ls [.int t_13]) := by
                  intro t_13 H locs ls h hw hl
                  replace h := ap1 ej111_1 h
                  refine lv_istore (lv' := [(6, .int t_13), (0, .ref a_this), (1, .int y1), (3, .int x3_5), (4, .int x4_10), (5, .int x5_12)]) hx hb dX10_findWaves_111 hl (by decide) rfl (fun ls hl => ?_)
                  refine lv_aload_n hx hb dX10_findWaves_113 rfl (lv_at hl 1 rfl) ?_
                  refine z_get S hw F52 0 rfl rfl dX10_findWaves_114 ?_
                  refine lv_bipush (v := (100 : Int32)) hx hb dX10_findWaves_117 (by decide) ?_
                  refine lv_iconst (v := (4 : Int32)) hx hb dX10_findWaves_119 (by decide) ?_
                  refine lv_iload hx hb dX10_findWaves_120 (lv_at hl 4 rfl) ?_
                  refine lv_iadd hx hb dX10_findWaves_122 ?_
                  refine lv_imul hx hb dX10_findWaves_123 ?_
                  refine lv_iload_n hx hb dX10_findWaves_124 rfl (lv_at hl 3 rfl) ?_
                  refine lv_iadd hx hb dX10_findWaves_125 ?_
                  refine lv_aload_n hx hb dX10_findWaves_126 rfl (lv_at hl 1 rfl) ?_
                  refine z_get S hw F7 0 rfl rfl dX10_findWaves_127 ?_
                  refine lv_bipush (v := (16 : Int32)) hx hb dX10_findWaves_130 (by decide) ?_
                  refine lv_iload_n hx hb dX10_findWaves_132 rfl (lv_at hl 2 rfl) ?_
                  refine lv_imul hx hb dX10_findWaves_133 ?_
                  refine lv_iconst (v := (0 : Int32)) hx hb dX10_findWaves_134 (by decide) ?_
                  refine lv_iadd hx hb dX10_findWaves_135 ?_
                  refine lv_iload hx hb dX10_findWaves_136 (lv_at hl 4 rfl) ?_
                  refine lv_iadd hx hb dX10_findWaves_138 ?_
                  obtain ⟨hg, h⟩ := grd_el h
                  refine z_iald S hw 1 0 rfl rfl hg dX10_findWaves_139 ?_
                  refine lv_aload_n hx hb dX10_findWaves_140 rfl (lv_at hl 1 rfl) ?_
                  refine lv_aload_n hx hb dX10_findWaves_141 rfl (lv_at hl 1 rfl) ?_
                  refine z_get S hw F13 0 rfl rfl dX10_findWaves_142 ?_
                  refine lv_iload hx hb dX10_findWaves_145 (lv_at hl 4 rfl) ?_
                  obtain ⟨hg, h⟩ := grd_el h
                  refine z_iald S hw 3 0 rfl rfl hg dX10_findWaves_147 ?_
                  refine lv_iload hx hb dX10_findWaves_148 (lv_at hl 5 rfl) ?_
                  obtain ⟨r_14, e150_1, h⟩ := obd1_el h
                  refine zr_VI (As := [.int (k_one x4_10.toNatClampNeg), .int x5_12]) (rest := [.int (k_now ((((16 : Int32) * y1) + (0 : Int32)) + x4_10).toNatClampNeg), .int (((100 : Int32) * ((4 : Int32) + x4_10)) + x3_5), .ref a_waves]) (q0 := 0) S hw (c_X10_waveAt l D cI cJ cZ cS H.size N a_this a_waves a_before a_now a_one a_other a_next a_readOne a_readOther a_readNext a_text a_pathInput a_pathGates a_after a_values a_taken a_row a_seenPair a_seenTime a_seenLate a_isKept a_kept i_this_inputs i_this_gates i_this_readInputs i_this_readGates i_this_length i_this_paths i_this_acts i_this_turn i_this_seen i_this_seed k_waves_11 k_before_1 (k_one x4_10.toNatClampNeg) x5_12 r_14 e150_1) (cwV 2 hts gX10_findWaves_X10_waveAt rfl rfl rfl dv_X10_waveAt ⟨Nat.le_of_ble_eq_true rfl, Nat.le_of_ble_eq_true rfl⟩) [0, 7, 4] rfl rfl rfl rfl rfl rfl hl.1 rfl (Nat.le_of_ble_eq_true rfl) dX10_findWaves_150 ⟨Nat.zero_le _, Nat.zero_le _⟩ ?_
                  refine lv_aload_n hx hb dX10_findWaves_153 rfl (lv_at hl 1 rfl) ?_
                  refine lv_iload hx hb dX10_findWaves_154 (lv_at hl 0 rfl) ?_
                  refine lv_iload hx hb dX10_findWaves_156 (lv_at hl 5 rfl) ?_
                  obtain ⟨r_15, e158_1, h⟩ := obd1_el h
                  refine zr_VI (As := [.int t_13, .int x5_12]) (rest := [.int r_14, .int (k_now ((((16 : Int32) * y1) + (0 : Int32)) + x4_10).toNatClampNeg), .int (((100 : Int32) * ((4 : Int32) + x4_10)) + x3_5), .ref a_waves]) (q0 := 0) S hw (c_X10_waveAt l D cI cJ cZ cS H.size N a_this a_waves a_before a_now a_one a_other a_next a_readOne a_readOther a_readNext a_text a_pathInput a_pathGates a_after a_values a_taken a_row a_seenPair a_seenTime a_seenLate a_isKept a_kept i_this_inputs i_this_gates i_this_readInputs i_this_readGates i_this_length i_this_paths i_this_acts i_this_turn i_this_seen i_this_seed k_waves_11 k_before_1 t_13 x5_12 r_15 e158_1) (cwV 2 hts gX10_findWaves_X10_waveAt rfl rfl rfl dv_X10_waveAt ⟨Nat.le_of_ble_eq_true rfl, Nat.le_of_ble_eq_true rfl⟩) [0, 7, 4] rfl rfl rfl rfl rfl rfl hl.1 rfl (Nat.le_of_ble_eq_true rfl) dX10_findWaves_158 ⟨Nat.zero_le _, Nat.zero_le _⟩ ?_
                  obtain ⟨r_16, e161_1, h⟩ := obd1_el h
                  refine zr_SI (As := [.int (k_now ((((16 : Int32) * y1) + (0 : Int32)) + x4_10).toNatClampNeg), .int r_14, .int r_15]) (rest := [.int (((100 : Int32) * ((4 : Int32) + x4_10)) + x3_5), .ref a_waves]) (q0 := 0) (ci := 0) (fs := []) (qc := (RX0, TX0, 4)) S hw (c_X10_makes l D cI cJ cZ cS H.size N (k_now ((((16 : Int32) * y1) + (0 : Int32)) + x4_10).toNatClampNeg) r_14 r_15 r_16 e161_1) (va_cwS 3 hts gX10_findWaves_X10_makes rfl rfl rfl ds_X10_makes ⟨Nat.le_of_ble_eq_true rfl, Nat.le_of_ble_eq_true rfl⟩) [] rfl rfl rfl hl.1 rfl (Nat.le_of_ble_eq_true rfl) dX10_findWaves_161 ⟨Nat.zero_le _, Nat.zero_le _⟩ ?_
                  obtain ⟨hg, h⟩ := grd_el h
                  obtain ⟨k_waves_17, ek_waves_17, h⟩ := bnd_ex h
                  refine z_iast S hw ek_waves_17 7 0 rfl rfl hg dX10_findWaves_164 (fun H locs hw => ?_)
                  obtain ⟨x4_18, ex4_18, h⟩ := bnd_ex h
                  refine lv_iinc (v := x4_18) (lv' := [(4, .int x4_18), (6, .int t_13), (0, .ref a_this), (1, .int y1), (3, .int x3_5), (5, .int x5_12)]) hx hb dX10_findWaves_165 hl (k := 4) rfl (by rw [ex4_18]; rfl) (by decide) rfl (fun ls hl => ?_)
                  refine lv_goto (tgt := 54) hx hb dX10_findWaves_168 (by decide) ?_
                  exact ih_54 x4_18 k_waves_17 H locs ls h hw (lv_sub hl [2, 3, 4, 0] rfl)
                refine lv_icmp_ne (tgt := 104) hx hb dX10_findWaves_91 (by decide) (fun hc => ?_) (fun hc => ?_)
                · replace h := if_f hc h
                  refine lv_aload_n hx hb dX10_findWaves_104 rfl (lv_at hl 1 rfl) ?_
                  refine z_get S hw F16 0 rfl rfl dX10_findWaves_105 ?_
                  refine lv_iload hx hb dX10_findWaves_108 (lv_at hl 4 rfl) ?_
                  obtain ⟨hg, h⟩ := grd_el h
                  refine z_iald S hw 2 0 rfl rfl hg dX10_findWaves_110 ?_
                  exact hj111_1 ((k_other x4_10.toNatClampNeg)) H locs ls h hw (lv_sub hl [1, 2, 3, 4, 0] rfl)
                · replace h := if_t hc h
                  refine lv_aload_n hx hb dX10_findWaves_94 rfl (lv_at hl 1 rfl) ?_
                  refine z_get S hw F13 0 rfl rfl dX10_findWaves_95 ?_
                  refine lv_iload hx hb dX10_findWaves_98 (lv_at hl 4 rfl) ?_
                  obtain ⟨hg, h⟩ := grd_el h
                  refine z_iald S hw 3 0 rfl rfl hg dX10_findWaves_100 ?_
                  refine lv_goto (tgt := 111) hx hb dX10_findWaves_101 (by decide) ?_
                  exact hj111_1 ((k_one x4_10.toNatClampNeg)) H locs ls h hw (lv_sub hl [1, 2, 3, 4, 0] rfl)
          exact hL54_1 N ((0 : Int32)) k_waves_7 H locs ls h hw (lv_sub hl [1, 2, 3, 0] rfl)
        have hL17_1 : ∀ (nf : Nat) (x4_19 : Int32) (k_waves_20 : (Nat → Int32)) (H : Heap) (locs : List Loc) (ls : Array Slot), f_X10_findWaves_L17 N i_this_inputs k_after_2 x3_5 j51_1 nf x4_19 k_waves_20 = some (o_before, o_after, o_values, o_waves) → Wd D (tyA cI cJ cZ cS) A s [(a_this, .inr (10, [.int i_this_inputs, .int i_this_gates, .ref a_now, .ref a_one, .ref a_other, .ref a_next, .int i_this_readInputs, .int i_this_readGates, .ref a_readOne, .ref a_readOther, .ref a_readNext, .ref a_text, .int i_this_length, .int i_this_paths, .ref a_pathInput, .ref a_pathGates, .ref a_before, .ref a_after, .ref a_values, .ref a_taken, .ref a_waves, .int i_this_acts, .int i_this_turn, .ref a_row, .int i_this_seen, .ref a_seenPair, .ref a_seenTime, .ref a_seenLate, .long i_this_seed, .ref a_isKept, .ref a_kept])), (a_now, .inl (cI, 32, .inl k_now)), (a_other, .inl (cI, 8, .inl k_other)), (a_one, .inl (cI, 8, .inl k_one)), (a_before, .inl (cI, 12, .inl k_before_1)), (a_after, .inl (cI, 12, .inl k_after_2)), (a_values, .inl (cI, 12, .inl k_values_3)), (a_waves, .inl (cI, 1200, .inl k_waves_20))] H locs → lv_has ls 7 [(0, .ref a_this), (1, .int y1), (3, .int x3_5), (4, .int x4_19)] → W p l e rmX10_findWaves s m args below meth c H locs 0 0 Q (F0 m 17 ls []) := by
          intro nf
          induction nf with
          | zero =>
            intro x4_19 k_waves_20 H locs ls h
            rw [f_X10_findWaves_L17] at h
            cases h
          | succ n_17 ih_17 =>
            intro x4_19 k_waves_20 H locs ls h hw hl
            rw [f_X10_findWaves_L17] at h
            refine lv_iload hx hb dX10_findWaves_17 (lv_at hl 3 rfl) ?_
            refine lv_aload_n hx hb dX10_findWaves_19 rfl (lv_at hl 0 rfl) ?_
            refine z_get S hw F112 0 rfl rfl dX10_findWaves_20 ?_
            refine lv_icmp_ge (tgt := 51) hx hb dX10_findWaves_23 (by decide) (fun hc => ?_) (fun hc => ?_)
            · replace h := if_t hc h
              exact hj51_1 k_waves_20 H locs ls h hw (lv_sub hl [0, 1, 2] rfl)
            · replace h := if_f hc h
              refine lv_aload_n hx hb dX10_findWaves_26 rfl (lv_at hl 0 rfl) ?_
              refine z_get S hw F52 0 rfl rfl dX10_findWaves_27 ?_
              refine lv_bipush (v := (100 : Int32)) hx hb dX10_findWaves_30 (by decide) ?_
              refine lv_iload hx hb dX10_findWaves_32 (lv_at hl 3 rfl) ?_
              refine lv_imul hx hb dX10_findWaves_34 ?_
              refine lv_iload_n hx hb dX10_findWaves_35 rfl (lv_at hl 2 rfl) ?_
              refine lv_iadd hx hb dX10_findWaves_36 ?_
              refine lv_aload_n hx hb dX10_findWaves_37 rfl (lv_at hl 0 rfl) ?_
              refine z_get S hw F43 0 rfl rfl dX10_findWaves_38 ?_
              refine lv_iload hx hb dX10_findWaves_41 (lv_at hl 3 rfl) ?_
              obtain ⟨hg, h⟩ := grd_el h
              refine z_iald S hw 5 0 rfl rfl hg dX10_findWaves_43 ?_
              obtain ⟨hg, h⟩ := grd_el h
              obtain ⟨k_waves_21, ek_waves_21, h⟩ := bnd_ex h
              refine z_iast S hw ek_waves_21 7 0 rfl rfl hg dX10_findWaves_44 (fun H locs hw => ?_)
              obtain ⟨x4_22, ex4_22, h⟩ := bnd_ex h
              refine lv_iinc (v := x4_22) (lv' := [(4, .int x4_22), (0, .ref a_this), (1, .int y1), (3, .int x3_5)]) hx hb dX10_findWaves_45 hl (k := 3) rfl (by rw [ex4_22]; rfl) (by decide) rfl (fun ls hl => ?_)
              refine lv_goto (tgt := 17) hx hb dX10_findWaves_48 (by decide) ?_
              exact ih_17 x4_22 k_waves_21 H locs ls h hw (lv_sub hl [1, 2, 3, 0] rfl)
        exact hL17_1 N ((0 : Int32)) k_waves_6 H locs ls h hw (lv_sub hl [1, 2, 3, 0] rfl)
  exact hL8_1 N ((0 : Int32)) k_waves H locs ls h (hw.sub [1, 2, 3, 4, 5, 6, 7, 0] rfl rfl) (lv_sub hl [1, 2, 0] rfl)
abbrev rmX10_wave : Room := { frames := 4, cells := 0, slots := 0, locals := 94 }
theorem dv_X10_wave : yX10_wave.cls = RX10 ∧ yX10_wave.cls ≠ "java/lang/invoke/MethodHandle" ∧ yX10_wave.cls ≠ "java/lang/invoke/VarHandle" ∧ (parseMethodDescriptor yX10_wave.desc).map (fun d => d.parameters.length) = some 3 := by decide +kernel
noncomputable def f_X10_wave (N : Nat) (y1 : Int32) (y2 : Int32) (y3 : Int32) (i_this_inputs : Int32) (i_this_gates : Int32) (k_now : (Nat → Int32)) (k_other : (Nat → Int32)) (k_one : (Nat → Int32)) (k_before : (Nat → Int32)) (k_after : (Nat → Int32)) (k_values : (Nat → Int32)) (k_waves : (Nat → Int32)) : Option (Int32 × (Nat → Int32) × (Nat → Int32) × (Nat → Int32) × (Nat → Int32)) :=
  obd1 (f_X10_isGate N y1 i_this_gates) fun (r_1 : Int32) => (if r_1 = (0 : Int32) then (some ((-1 : Int32), k_before, k_after, k_values, k_waves)) else (obd1 (f_X10_isPair N y2 i_this_inputs) fun (r_2 : Int32) => (if r_2 = (0 : Int32) then (some ((-2 : Int32), k_before, k_after, k_values, k_waves)) else (obd1 (f_X10_in N (y3.toInt64) (0 : Int64) (99 : Int64)) fun (r_3 : Int32) => (if r_3 = (0 : Int32) then (some ((-2 : Int32), k_before, k_after, k_values, k_waves)) else (obd4 (f_X10_findWaves N (0 : Int32) y2 i_this_inputs i_this_gates k_now k_other k_one k_before k_after k_values k_waves) fun (k_before_4 : (Nat → Int32)) (k_after_5 : (Nat → Int32)) (k_values_6 : (Nat → Int32)) (k_waves_7 : (Nat → Int32)) => obd1 (f_X10_waveAt N ((4 : Int32) + y1) y3 k_waves_7 k_before_4) fun (r_8 : Int32) => some (r_8, k_before_4, k_after_5, k_values_6, k_waves_7)))))))
set_option maxHeartbeats 4000000 in
set_option maxRecDepth 100000 in
theorem c_X10_wave (l : Launch) (D : va_G) (cI cJ cZ cS : ClassId) (sz N : Nat) (a_this a_now a_other a_one a_before a_after a_values a_waves a_next a_readOne a_readOther a_readNext a_text a_pathInput a_pathGates a_taken a_row a_seenPair a_seenTime a_seenLate a_isKept a_kept : Nat) (i_this_inputs : Int32) (i_this_gates : Int32) (i_this_readInputs : Int32) (i_this_readGates : Int32) (i_this_length : Int32) (i_this_paths : Int32) (i_this_acts : Int32) (i_this_turn : Int32) (i_this_seen : Int32) (i_this_seed : Int64) (k_now : (Nat → Int32)) (k_other : (Nat → Int32)) (k_one : (Nat → Int32)) (k_before : (Nat → Int32)) (k_after : (Nat → Int32)) (k_values : (Nat → Int32)) (k_waves : (Nat → Int32)) (y1 : Int32) (y2 : Int32) (y3 : Int32) (rr : Int32) (o_before : (Nat → Int32)) (o_after : (Nat → Int32)) (o_values : (Nat → Int32)) (o_waves : (Nat → Int32)) (hf : f_X10_wave N y1 y2 y3 i_this_inputs i_this_gates k_now k_other k_one k_before k_after k_values k_waves = some (rr, o_before, o_after, o_values, o_waves)) : MetI l yX10_wave wsX10_wave rmX10_wave D (tyA cI cJ cZ cS) [(a_this, .inr (10, [.int i_this_inputs, .int i_this_gates, .ref a_now, .ref a_one, .ref a_other, .ref a_next, .int i_this_readInputs, .int i_this_readGates, .ref a_readOne, .ref a_readOther, .ref a_readNext, .ref a_text, .int i_this_length, .int i_this_paths, .ref a_pathInput, .ref a_pathGates, .ref a_before, .ref a_after, .ref a_values, .ref a_taken, .ref a_waves, .int i_this_acts, .int i_this_turn, .ref a_row, .int i_this_seen, .ref a_seenPair, .ref a_seenTime, .ref a_seenLate, .long i_this_seed, .ref a_isKept, .ref a_kept])), (a_now, .inl (cI, 32, .inl k_now)), (a_other, .inl (cI, 8, .inl k_other)), (a_one, .inl (cI, 8, .inl k_one)), (a_before, .inl (cI, 12, .inl k_before)), (a_after, .inl (cI, 12, .inl k_after)), (a_values, .inl (cI, 12, .inl k_values)), (a_waves, .inl (cI, 1200, .inl k_waves))] sz [.ref a_this, .int y1, .int y2, .int y3] rr [(a_this, .inr (10, [.int i_this_inputs, .int i_this_gates, .ref a_now, .ref a_one, .ref a_other, .ref a_next, .int i_this_readInputs, .int i_this_readGates, .ref a_readOne, .ref a_readOther, .ref a_readNext, .ref a_text, .int i_this_length, .int i_this_paths, .ref a_pathInput, .ref a_pathGates, .ref a_before, .ref a_after, .ref a_values, .ref a_taken, .ref a_waves, .int i_this_acts, .int i_this_turn, .ref a_row, .int i_this_seen, .ref a_seenPair, .ref a_seenTime, .ref a_seenLate, .long i_this_seed, .ref a_isKept, .ref a_kept])), (a_now, .inl (cI, 32, .inl k_now)), (a_other, .inl (cI, 8, .inl k_other)), (a_one, .inl (cI, 8, .inl k_one)), (a_before, .inl (cI, 12, .inl o_before)), (a_after, .inl (cI, 12, .inl o_after)), (a_values, .inl (cI, 12, .inl o_values)), (a_waves, .inl (cI, 1200, .inl o_waves))] := by
  refine entI (cc := cX10_wave) (maxL := 4) (own := RX10) (by decide) rfl rfl (Nat.le_of_ble_eq_true rfl) ?_
  intro p e s m args below meth c A ls Q H locs S hr hw hl hQ
  have hx := S.1.1
  have hb := S.1.2.1
  have hts := S.1.2.2.2.2
  have hl : lv_has ls 4 [(0, .ref a_this), (1, .int y1), (2, .int y2), (3, .int y3)] := hl
  have h := hf
  rw [f_X10_wave] at h
  refine lv_aload_n hx hb dX10_wave_0 rfl (lv_at hl 0 rfl) ?_
  refine lv_iload_n hx hb dX10_wave_1 rfl (lv_at hl 1 rfl) ?_
  obtain ⟨r_1, e2_1, h⟩ := obd1_el h
  refine zr_VI (As := [.int y1]) (rest := []) (q0 := 0) S hw (c_X10_isGate l D cI cJ cZ cS H.size N a_this a_now a_one a_other a_next a_readOne a_readOther a_readNext a_text a_pathInput a_pathGates a_before a_after a_values a_taken a_waves a_row a_seenPair a_seenTime a_seenLate a_isKept a_kept i_this_inputs i_this_gates i_this_readInputs i_this_readGates i_this_length i_this_paths i_this_acts i_this_turn i_this_seen i_this_seed y1 r_1 e2_1) (cwV 1 hts gX10_wave_X10_isGate rfl rfl rfl dv_X10_isGate ⟨Nat.le_of_ble_eq_true rfl, Nat.le_of_ble_eq_true rfl⟩) [0] rfl rfl rfl rfl rfl rfl hl.1 rfl (Nat.le_of_ble_eq_true rfl) dX10_wave_2 ⟨Nat.zero_le _, Nat.zero_le _⟩ ?_
  refine lv_if_ne (tgt := 10) hx hb dX10_wave_5 (by decide) (fun hc => ?_) (fun hc => ?_)
  · replace h := if_f hc h
    refine lv_aload_n hx hb dX10_wave_10 rfl (lv_at hl 0 rfl) ?_
    refine lv_iload_n hx hb dX10_wave_11 rfl (lv_at hl 2 rfl) ?_
    obtain ⟨r_2, e12_1, h⟩ := obd1_el h
    refine zr_VI (As := [.int y2]) (rest := []) (q0 := 0) S hw (c_X10_isPair l D cI cJ cZ cS H.size N a_this a_now a_one a_other a_next a_readOne a_readOther a_readNext a_text a_pathInput a_pathGates a_before a_after a_values a_taken a_waves a_row a_seenPair a_seenTime a_seenLate a_isKept a_kept i_this_inputs i_this_gates i_this_readInputs i_this_readGates i_this_length i_this_paths i_this_acts i_this_turn i_this_seen i_this_seed y2 r_2 e12_1) (cwV 1 hts gX10_wave_X10_isPair rfl rfl rfl dv_X10_isPair ⟨Nat.le_of_ble_eq_true rfl, Nat.le_of_ble_eq_true rfl⟩) [0] rfl rfl rfl rfl rfl rfl hl.1 rfl (Nat.le_of_ble_eq_true rfl) dX10_wave_12 ⟨Nat.zero_le _, Nat.zero_le _⟩ ?_
    refine lv_if_eq (tgt := 30) hx hb dX10_wave_15 (by decide) (fun hc => ?_) (fun hc => ?_)
    · replace h := if_t hc h
      refine lv_bipush (v := (-2 : Int32)) hx hb dX10_wave_30 (by decide) ?_
      cases h
      exact z_iret S hQ hr hw [0, 1, 2, 3, 4, 5, 6, 7] rfl rfl dX10_wave_32
    · replace h := if_f hc h
      refine lv_iload_n hx hb dX10_wave_18 rfl (lv_at hl 3 rfl) ?_
      refine lv_i2l hx hb dX10_wave_19 rfl ?_
      refine lv_lconst (v := (0 : Int64)) hx hb dX10_wave_20 (by decide) ?_
      refine lv_ldc2 (v := (99 : Int64)) hx hb S.1.2.2.2.1 (hts (.constantLong RX10 208 (99)) (List.mem_of_getElem? (i := 1) rfl)) dX10_wave_21 ?_
      obtain ⟨r_3, e24_1, h⟩ := obd1_el h
      refine zr_SI (As := [.long (y3.toInt64), .long (0 : Int64), .long (99 : Int64)]) (rest := []) (q0 := 0) (ci := 0) (fs := []) (qc := (RX0, TX0, 4)) S hw (c_X10_in l D cI cJ cZ cS H.size N (y3.toInt64) (0 : Int64) (99 : Int64) r_3 e24_1) (va_cwS 3 hts gX10_wave_X10_in rfl rfl rfl ds_X10_in ⟨Nat.le_of_ble_eq_true rfl, Nat.le_of_ble_eq_true rfl⟩) [] rfl rfl rfl hl.1 rfl (Nat.le_of_ble_eq_true rfl) dX10_wave_24 ⟨Nat.zero_le _, Nat.zero_le _⟩ ?_
      refine lv_if_ne (tgt := 33) hx hb dX10_wave_27 (by decide) (fun hc => ?_) (fun hc => ?_)
      · replace h := if_f hc h
        refine lv_aload_n hx hb dX10_wave_33 rfl (lv_at hl 0 rfl) ?_
        refine lv_iconst (v := (0 : Int32)) hx hb dX10_wave_34 (by decide) ?_
        refine lv_iload_n hx hb dX10_wave_35 rfl (lv_at hl 2 rfl) ?_
        obtain ⟨k_before_4, k_after_5, k_values_6, k_waves_7, e36_1, h⟩ := obd4_el h
        refine zc_VV (As := [.int (0 : Int32), .int y2]) (rest := []) (wr := []) (q0 := 0) S hw (c_X10_findWaves l D cI cJ cZ cS H.size N a_this a_now a_other a_one a_before a_after a_values a_waves a_next a_readOne a_readOther a_readNext a_text a_pathInput a_pathGates a_taken a_row a_seenPair a_seenTime a_seenLate a_isKept a_kept i_this_inputs i_this_gates i_this_readInputs i_this_readGates i_this_length i_this_paths i_this_acts i_this_turn i_this_seen i_this_seed k_now k_other k_one k_before k_after k_values k_waves (0 : Int32) y2 k_before_4 k_after_5 k_values_6 k_waves_7 e36_1) (cwV 2 hts gX10_wave_X10_findWaves rfl rfl rfl dv_X10_findWaves ⟨Nat.le_of_ble_eq_true rfl, Nat.le_of_ble_eq_true rfl⟩) [0, 1, 2, 3, 4, 5, 6, 7] [] rfl rfl rfl rfl (by decide) rfl rfl rfl rfl hl.1 rfl (Nat.le_of_ble_eq_true rfl) dX10_wave_36 ⟨Nat.zero_le _, Nat.zero_le _⟩ (fun H locs hw => ?_)
        refine lv_aload_n hx hb dX10_wave_39 rfl (lv_at hl 0 rfl) ?_
        refine lv_iconst (v := (4 : Int32)) hx hb dX10_wave_40 (by decide) ?_
        refine lv_iload_n hx hb dX10_wave_41 rfl (lv_at hl 1 rfl) ?_
        refine lv_iadd hx hb dX10_wave_42 ?_
        refine lv_iload_n hx hb dX10_wave_43 rfl (lv_at hl 3 rfl) ?_
        obtain ⟨r_8, e44_1, h⟩ := obd1_el h
        refine zr_VI (As := [.int ((4 : Int32) + y1), .int y3]) (rest := []) (q0 := 0) S hw (c_X10_waveAt l D cI cJ cZ cS H.size N a_this a_waves a_before a_now a_one a_other a_next a_readOne a_readOther a_readNext a_text a_pathInput a_pathGates a_after a_values a_taken a_row a_seenPair a_seenTime a_seenLate a_isKept a_kept i_this_inputs i_this_gates i_this_readInputs i_this_readGates i_this_length i_this_paths i_this_acts i_this_turn i_this_seen i_this_seed k_waves_7 k_before_4 ((4 : Int32) + y1) y3 r_8 e44_1) (cwV 2 hts gX10_wave_X10_waveAt rfl rfl rfl dv_X10_waveAt ⟨Nat.le_of_ble_eq_true rfl, Nat.le_of_ble_eq_true rfl⟩) [0, 7, 4] rfl rfl rfl rfl rfl rfl hl.1 rfl (Nat.le_of_ble_eq_true rfl) dX10_wave_44 ⟨Nat.zero_le _, Nat.zero_le _⟩ ?_
        cases h
        exact z_iret S hQ hr hw [0, 1, 2, 3, 4, 5, 6, 7] rfl rfl dX10_wave_47
      · replace h := if_t hc h
        refine lv_bipush (v := (-2 : Int32)) hx hb dX10_wave_30 (by decide) ?_
        cases h
        exact z_iret S hQ hr hw [0, 1, 2, 3, 4, 5, 6, 7] rfl rfl dX10_wave_32
  · replace h := if_t hc h
    refine lv_iconst (v := (-1 : Int32)) hx hb dX10_wave_8 (by decide) ?_
    cases h
    exact z_iret S hQ hr hw [0, 1, 2, 3, 4, 5, 6, 7] rfl rfl dX10_wave_9
abbrev rmX10_isLate : Room := { frames := 4, cells := 0, slots := 0, locals := 94 }
theorem dv_X10_isLate : yX10_isLate.cls = RX10 ∧ yX10_isLate.cls ≠ "java/lang/invoke/MethodHandle" ∧ yX10_isLate.cls ≠ "java/lang/invoke/VarHandle" ∧ (parseMethodDescriptor yX10_isLate.desc).map (fun d => d.parameters.length) = some 3 := by decide +kernel
noncomputable def f_X10_isLate (N : Nat) (y1 : Int32) (y2 : Int32) (y3 : Int32) (i_this_inputs : Int32) (i_this_gates : Int32) (k_now : (Nat → Int32)) (k_other : (Nat → Int32)) (k_one : (Nat → Int32)) (k_before : (Nat → Int32)) (k_after : (Nat → Int32)) (k_values : (Nat → Int32)) (k_waves : (Nat → Int32)) : Option (Int32 × (Nat → Int32) × (Nat → Int32) × (Nat → Int32) × (Nat → Int32)) :=
  obd4 (f_X10_findWaves N y1 y2 i_this_inputs i_this_gates k_now k_other k_one k_before k_after k_values k_waves) fun (k_before_1 : (Nat → Int32)) (k_after_2 : (Nat → Int32)) (k_values_3 : (Nat → Int32)) (k_waves_4 : (Nat → Int32)) => bnd ((((4 : Int32) + i_this_gates) - (1 : Int32))) fun (x4_5 : Int32) => obd1 (f_X10_waveAt N x4_5 y3 k_waves_4 k_before_1) fun (r_6 : Int32) => grd (inb x4_5 12) <| (if r_6 = (k_after_2 x4_5.toNatClampNeg) then (some ((0 : Int32), k_before_1, k_after_2, k_values_3, k_waves_4)) else (some ((1 : Int32), k_before_1, k_after_2, k_values_3, k_waves_4)))
set_option maxHeartbeats 4000000 in
set_option maxRecDepth 100000 in
theorem c_X10_isLate (l : Launch) (D : va_G) (cI cJ cZ cS : ClassId) (sz N : Nat) (a_this a_now a_other a_one a_before a_after a_values a_waves a_next a_readOne a_readOther a_readNext a_text a_pathInput a_pathGates a_taken a_row a_seenPair a_seenTime a_seenLate a_isKept a_kept : Nat) (i_this_inputs : Int32) (i_this_gates : Int32) (i_this_readInputs : Int32) (i_this_readGates : Int32) (i_this_length : Int32) (i_this_paths : Int32) (i_this_acts : Int32) (i_this_turn : Int32) (i_this_seen : Int32) (i_this_seed : Int64) (k_now : (Nat → Int32)) (k_other : (Nat → Int32)) (k_one : (Nat → Int32)) (k_before : (Nat → Int32)) (k_after : (Nat → Int32)) (k_values : (Nat → Int32)) (k_waves : (Nat → Int32)) (y1 : Int32) (y2 : Int32) (y3 : Int32) (rr : Int32) (o_before : (Nat → Int32)) (o_after : (Nat → Int32)) (o_values : (Nat → Int32)) (o_waves : (Nat → Int32)) (hf : f_X10_isLate N y1 y2 y3 i_this_inputs i_this_gates k_now k_other k_one k_before k_after k_values k_waves = some (rr, o_before, o_after, o_values, o_waves)) : MetI l yX10_isLate wsX10_isLate rmX10_isLate D (tyA cI cJ cZ cS) [(a_this, .inr (10, [.int i_this_inputs, .int i_this_gates, .ref a_now, .ref a_one, .ref a_other, .ref a_next, .int i_this_readInputs, .int i_this_readGates, .ref a_readOne, .ref a_readOther, .ref a_readNext, .ref a_text, .int i_this_length, .int i_this_paths, .ref a_pathInput, .ref a_pathGates, .ref a_before, .ref a_after, .ref a_values, .ref a_taken, .ref a_waves, .int i_this_acts, .int i_this_turn, .ref a_row, .int i_this_seen, .ref a_seenPair, .ref a_seenTime, .ref a_seenLate, .long i_this_seed, .ref a_isKept, .ref a_kept])), (a_now, .inl (cI, 32, .inl k_now)), (a_other, .inl (cI, 8, .inl k_other)), (a_one, .inl (cI, 8, .inl k_one)), (a_before, .inl (cI, 12, .inl k_before)), (a_after, .inl (cI, 12, .inl k_after)), (a_values, .inl (cI, 12, .inl k_values)), (a_waves, .inl (cI, 1200, .inl k_waves))] sz [.ref a_this, .int y1, .int y2, .int y3] rr [(a_this, .inr (10, [.int i_this_inputs, .int i_this_gates, .ref a_now, .ref a_one, .ref a_other, .ref a_next, .int i_this_readInputs, .int i_this_readGates, .ref a_readOne, .ref a_readOther, .ref a_readNext, .ref a_text, .int i_this_length, .int i_this_paths, .ref a_pathInput, .ref a_pathGates, .ref a_before, .ref a_after, .ref a_values, .ref a_taken, .ref a_waves, .int i_this_acts, .int i_this_turn, .ref a_row, .int i_this_seen, .ref a_seenPair, .ref a_seenTime, .ref a_seenLate, .long i_this_seed, .ref a_isKept, .ref a_kept])), (a_now, .inl (cI, 32, .inl k_now)), (a_other, .inl (cI, 8, .inl k_other)), (a_one, .inl (cI, 8, .inl k_one)), (a_before, .inl (cI, 12, .inl o_before)), (a_after, .inl (cI, 12, .inl o_after)), (a_values, .inl (cI, 12, .inl o_values)), (a_waves, .inl (cI, 1200, .inl o_waves))] := by
  refine entZ (cc := cX10_isLate) (maxL := 5) (own := RX10) (by decide) rfl rfl (Nat.le_of_ble_eq_true rfl) ?_
  intro p e s m args below meth c A ls Q H locs S hr hw hl hQ
  have hx := S.1.1
  have hb := S.1.2.1
  have hts := S.1.2.2.2.2
  have hl : lv_has ls 5 [(0, .ref a_this), (1, .int y1), (2, .int y2), (3, .int y3)] := hl
  have hinX10 : ∀ w ∈ u_ws RX10 TX10 31, w ∈ wsX10_isLate := (fun _ h => List.mem_cons_of_mem _ (List.mem_append_right _ h))
  have F43 : FLk s args wsX10_isLate RX10 43 RX10 TX10 31 10 17 := ⟨hinX10, rfl, by decide, hts (.fieldLink RX10 43 "SlowPathsModel" "after" "[I") (List.mem_of_getElem? (i := 2) rfl)⟩
  have F115 : FLk s args wsX10_isLate RX10 115 RX10 TX10 31 10 1 := ⟨hinX10, rfl, by decide, hts (.fieldLink RX10 115 "SlowPathsModel" "gates" "I") (List.mem_of_getElem? (i := 1) rfl)⟩
  have h := hf
  rw [f_X10_isLate] at h
  refine lv_aload_n hx hb dX10_isLate_0 rfl (lv_at hl 0 rfl) ?_
  refine lv_iload_n hx hb dX10_isLate_1 rfl (lv_at hl 1 rfl) ?_
  refine lv_iload_n hx hb dX10_isLate_2 rfl (lv_at hl 2 rfl) ?_
  obtain ⟨k_before_1, k_after_2, k_values_3, k_waves_4, e3_1, h⟩ := obd4_el h
  refine zc_VV (As := [.int y1, .int y2]) (rest := []) (wr := []) (q0 := 0) S hw (c_X10_findWaves l D cI cJ cZ cS H.size N a_this a_now a_other a_one a_before a_after a_values a_waves a_next a_readOne a_readOther a_readNext a_text a_pathInput a_pathGates a_taken a_row a_seenPair a_seenTime a_seenLate a_isKept a_kept i_this_inputs i_this_gates i_this_readInputs i_this_readGates i_this_length i_this_paths i_this_acts i_this_turn i_this_seen i_this_seed k_now k_other k_one k_before k_after k_values k_waves y1 y2 k_before_1 k_after_2 k_values_3 k_waves_4 e3_1) (cwV 2 hts gX10_isLate_X10_findWaves rfl rfl rfl dv_X10_findWaves ⟨Nat.le_of_ble_eq_true rfl, Nat.le_of_ble_eq_true rfl⟩) [0, 1, 2, 3, 4, 5, 6, 7] [] rfl rfl rfl rfl (by decide) rfl rfl rfl rfl hl.1 rfl (Nat.le_of_ble_eq_true rfl) dX10_isLate_3 ⟨Nat.zero_le _, Nat.zero_le _⟩ (fun H locs hw => ?_)
  refine lv_iconst (v := (4 : Int32)) hx hb dX10_isLate_6 (by decide) ?_
  refine lv_aload_n hx hb dX10_isLate_7 rfl (lv_at hl 0 rfl) ?_
  refine z_get S hw F115 0 rfl rfl dX10_isLate_8 ?_
  refine lv_iadd hx hb dX10_isLate_11 ?_
  refine lv_iconst (v := (1 : Int32)) hx hb dX10_isLate_12 (by decide) ?_
  refine lv_isub hx hb dX10_isLate_13 ?_
  refine lv_topi (fun x4_5 ex4_5 => ?_)
  replace h := bnd_at ex4_5 h
  refine lv_istore (lv' := [(4, .int x4_5), (0, .ref a_this), (1, .int y1), (2, .int y2), (3, .int y3)]) hx hb dX10_isLate_14 hl (by decide) rfl (fun ls hl => ?_)
  refine lv_aload_n hx hb dX10_isLate_16 rfl (lv_at hl 1 rfl) ?_
  refine lv_iload hx hb dX10_isLate_17 (lv_at hl 0 rfl) ?_
  refine lv_iload_n hx hb dX10_isLate_19 rfl (lv_at hl 4 rfl) ?_
  obtain ⟨r_6, e20_1, h⟩ := obd1_el h
  refine zr_VI (As := [.int x4_5, .int y3]) (rest := []) (q0 := 0) S hw (c_X10_waveAt l D cI cJ cZ cS H.size N a_this a_waves a_before a_now a_one a_other a_next a_readOne a_readOther a_readNext a_text a_pathInput a_pathGates a_after a_values a_taken a_row a_seenPair a_seenTime a_seenLate a_isKept a_kept i_this_inputs i_this_gates i_this_readInputs i_this_readGates i_this_length i_this_paths i_this_acts i_this_turn i_this_seen i_this_seed k_waves_4 k_before_1 x4_5 y3 r_6 e20_1) (cwV 2 hts gX10_isLate_X10_waveAt rfl rfl rfl dv_X10_waveAt ⟨Nat.le_of_ble_eq_true rfl, Nat.le_of_ble_eq_true rfl⟩) [0, 7, 4] rfl rfl rfl rfl rfl rfl hl.1 rfl (Nat.le_of_ble_eq_true rfl) dX10_isLate_20 ⟨Nat.zero_le _, Nat.zero_le _⟩ ?_
  refine lv_aload_n hx hb dX10_isLate_23 rfl (lv_at hl 1 rfl) ?_
  refine z_get S hw F43 0 rfl rfl dX10_isLate_24 ?_
  refine lv_iload hx hb dX10_isLate_27 (lv_at hl 0 rfl) ?_
  obtain ⟨hg, h⟩ := grd_el h
  refine z_iald S hw 5 0 rfl rfl hg dX10_isLate_29 ?_
  refine lv_icmp_eq (tgt := 37) hx hb dX10_isLate_30 (by decide) (fun hc => ?_) (fun hc => ?_)
  · replace h := if_t hc h
    refine lv_iconst (v := (0 : Int32)) hx hb dX10_isLate_37 (by decide) ?_
    cases h
    exact z_zret S hQ hr rfl hw [0, 1, 2, 3, 4, 5, 6, 7] rfl rfl dX10_isLate_38
  · replace h := if_f hc h
    refine lv_iconst (v := (1 : Int32)) hx hb dX10_isLate_33 (by decide) ?_
    refine lv_goto (tgt := 38) hx hb dX10_isLate_34 (by decide) ?_
    cases h
    exact z_zret S hQ hr rfl hw [0, 1, 2, 3, 4, 5, 6, 7] rfl rfl dX10_isLate_38
