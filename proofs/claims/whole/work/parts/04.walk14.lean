abbrev rmX10_findPair : Room := { frames := 2, cells := 0, slots := 0, locals := 43 }
theorem dv_X10_findPair : yX10_findPair.cls = RX10 ∧ yX10_findPair.cls ≠ "java/lang/invoke/MethodHandle" ∧ yX10_findPair.cls ≠ "java/lang/invoke/VarHandle" ∧ (parseMethodDescriptor yX10_findPair.desc).map (fun d => d.parameters.length) = some 2 := by decide +kernel
noncomputable def f_X10_findPair_L84 (N : Nat) (y1 : Int32) (i_this_gates : Int32) (k_now : (Nat → Int32)) (k_other : (Nat → Int32)) (k_one : (Nat → Int32)) (j234_1 : (Nat → Int32) → (Nat → Int32) → (Nat → Int32) → Option ((Nat → Int32) × (Nat → Int32) × (Nat → Int32))) : Nat → Int32 → (Nat → Int32) → (Nat → Int32) → (Nat → Int32) → Option ((Nat → Int32) × (Nat → Int32) × (Nat → Int32))
  | 0, _, _, _, _ => none
  | n_84 + 1, x3_7, k_before_8, k_after_9, k_values_10 =>
    (if i_this_gates ≤ x3_7 then (j234_1 k_before_8 k_after_9 k_values_10) else (grd (inb ((((16 : Int32) * y1) + (0 : Int32)) + x3_7) 32) <| bnd ((k_now ((((16 : Int32) * y1) + (0 : Int32)) + x3_7).toNatClampNeg)) fun (x4_11 : Int32) => grd (inb x3_7 8) <| bnd (fun (t_12 : Int32) => (grd (inb x3_7 8) <| grd (inb (k_one x3_7.toNatClampNeg) 12) <| grd (inb t_12 12) <| obd1 (f_X10_makes N x4_11 (k_before_8 (k_one x3_7.toNatClampNeg).toNatClampNeg) (k_before_8 t_12.toNatClampNeg)) fun (r_13 : Int32) => grd (inb ((4 : Int32) + x3_7) 12) <| bnd (upd k_before_8 ((4 : Int32) + x3_7).toNatClampNeg r_13) fun (k_before_14 : (Nat → Int32)) => grd (inb x3_7 8) <| grd (inb (k_one x3_7.toNatClampNeg) 12) <| grd (inb t_12 12) <| obd1 (f_X10_makes N x4_11 (k_after_9 (k_one x3_7.toNatClampNeg).toNatClampNeg) (k_after_9 t_12.toNatClampNeg)) fun (r_15 : Int32) => grd (inb ((4 : Int32) + x3_7) 12) <| bnd (upd k_after_9 ((4 : Int32) + x3_7).toNatClampNeg r_15) fun (k_after_16 : (Nat → Int32)) => grd (inb x3_7 8) <| grd (inb (k_one x3_7.toNatClampNeg) 12) <| grd (inb t_12 12) <| obd1 (f_X10_valueOf N x4_11 (k_values_10 (k_one x3_7.toNatClampNeg).toNatClampNeg) (k_values_10 t_12.toNatClampNeg)) fun (r_17 : Int32) => grd (inb ((4 : Int32) + x3_7) 12) <| bnd (upd k_values_10 ((4 : Int32) + x3_7).toNatClampNeg r_17) fun (k_values_18 : (Nat → Int32)) => bnd (x3_7 + (1 : Int32)) fun (x3_19 : Int32) => f_X10_findPair_L84 N y1 i_this_gates k_now k_other k_one j234_1 n_84 x3_19 k_before_14 k_after_16 k_values_18)) fun (j133_1 : Int32 → Option ((Nat → Int32) × (Nat → Int32) × (Nat → Int32))) => (if (k_other x3_7.toNatClampNeg) = (-9 : Int32) then (grd (inb x3_7 8) <| j133_1 ((k_one x3_7.toNatClampNeg))) else (grd (inb x3_7 8) <| j133_1 ((k_other x3_7.toNatClampNeg))))))
noncomputable def f_X10_findPair_L2 (N : Nat) (y2 : Int32) (i_this_inputs : Int32) (j82_1 : (Nat → Int32) → (Nat → Int32) → (Nat → Int32) → Option ((Nat → Int32) × (Nat → Int32) × (Nat → Int32))) : Nat → Int32 → (Nat → Int32) → (Nat → Int32) → (Nat → Int32) → Option ((Nat → Int32) × (Nat → Int32) × (Nat → Int32))
  | 0, _, _, _, _ => none
  | n_2 + 1, x3_20, k_before_21, k_after_22, k_values_23 =>
    (if i_this_inputs ≤ x3_20 then (j82_1 k_before_21 k_after_22 k_values_23) else (grd (inb x3_20 12) <| bnd (upd k_before_21 x3_20.toNatClampNeg (((y2 / (16 : Int32)) >>> (x3_20 &&& 31)) &&& (1 : Int32))) fun (k_before_24 : (Nat → Int32)) => grd (inb x3_20 12) <| bnd (upd k_after_22 x3_20.toNatClampNeg (((y2 - y2 / (16 : Int32) * (16 : Int32)) >>> (x3_20 &&& 31)) &&& (1 : Int32))) fun (k_after_25 : (Nat → Int32)) => grd (inb x3_20 12) <| grd (inb x3_20 12) <| bnd (fun (t_26 : Int32) (t_27 : Int32) => (grd (inb t_27 12) <| bnd (upd k_values_23 t_27.toNatClampNeg t_26) fun (k_values_28 : (Nat → Int32)) => bnd (x3_20 + (1 : Int32)) fun (x3_29 : Int32) => f_X10_findPair_L2 N y2 i_this_inputs j82_1 n_2 x3_29 k_before_24 k_after_25 k_values_28)) fun (j75_1 : Int32 → Int32 → Option ((Nat → Int32) × (Nat → Int32) × (Nat → Int32))) => (if (k_before_24 x3_20.toNatClampNeg) = (k_after_25 x3_20.toNatClampNeg) then (grd (inb x3_20 12) <| j75_1 ((k_after_25 x3_20.toNatClampNeg)) x3_20) else (grd (inb x3_20 12) <| j75_1 (((2 : Int32) + (k_after_25 x3_20.toNatClampNeg))) x3_20))))
noncomputable def f_X10_findPair (N : Nat) (y1 : Int32) (y2 : Int32) (i_this_inputs : Int32) (i_this_gates : Int32) (k_now : (Nat → Int32)) (k_other : (Nat → Int32)) (k_one : (Nat → Int32)) (k_before : (Nat → Int32)) (k_after : (Nat → Int32)) (k_values : (Nat → Int32)) : Option ((Nat → Int32) × (Nat → Int32) × (Nat → Int32)) :=
  bnd (fun (k_before_1 : (Nat → Int32)) (k_after_2 : (Nat → Int32)) (k_values_3 : (Nat → Int32)) => (bnd (fun (k_before_4 : (Nat → Int32)) (k_after_5 : (Nat → Int32)) (k_values_6 : (Nat → Int32)) => (some (k_before_4, k_after_5, k_values_6))) fun (j234_1 : (Nat → Int32) → (Nat → Int32) → (Nat → Int32) → Option ((Nat → Int32) × (Nat → Int32) × (Nat → Int32))) => f_X10_findPair_L84 N y1 i_this_gates k_now k_other k_one j234_1 N ((0 : Int32)) k_before_1 k_after_2 k_values_3)) fun (j82_1 : (Nat → Int32) → (Nat → Int32) → (Nat → Int32) → Option ((Nat → Int32) × (Nat → Int32) × (Nat → Int32))) => f_X10_findPair_L2 N y2 i_this_inputs j82_1 N ((0 : Int32)) k_before k_after k_values
set_option maxHeartbeats 4000000 in
set_option maxRecDepth 100000 in
theorem c_X10_findPair (l : Launch) (D : va_G) (cI cJ cZ cS : ClassId) (sz N : Nat) (a_this a_now a_other a_one a_before a_after a_values a_next a_readOne a_readOther a_readNext a_text a_pathInput a_pathGates a_taken a_waves a_row a_seenPair a_seenTime a_seenLate a_isKept a_kept : Nat) (i_this_inputs : Int32) (i_this_gates : Int32) (i_this_readInputs : Int32) (i_this_readGates : Int32) (i_this_length : Int32) (i_this_paths : Int32) (i_this_acts : Int32) (i_this_turn : Int32) (i_this_seen : Int32) (i_this_seed : Int64) (k_now : (Nat → Int32)) (k_other : (Nat → Int32)) (k_one : (Nat → Int32)) (k_before : (Nat → Int32)) (k_after : (Nat → Int32)) (k_values : (Nat → Int32)) (y1 : Int32) (y2 : Int32) (o_before : (Nat → Int32)) (o_after : (Nat → Int32)) (o_values : (Nat → Int32)) (hf : f_X10_findPair N y1 y2 i_this_inputs i_this_gates k_now k_other k_one k_before k_after k_values = some (o_before, o_after, o_values)) : MetV l yX10_findPair wsX10_findPair rmX10_findPair D (tyA cI cJ cZ cS) [(a_this, .inr (10, [.int i_this_inputs, .int i_this_gates, .ref a_now, .ref a_one, .ref a_other, .ref a_next, .int i_this_readInputs, .int i_this_readGates, .ref a_readOne, .ref a_readOther, .ref a_readNext, .ref a_text, .int i_this_length, .int i_this_paths, .ref a_pathInput, .ref a_pathGates, .ref a_before, .ref a_after, .ref a_values, .ref a_taken, .ref a_waves, .int i_this_acts, .int i_this_turn, .ref a_row, .int i_this_seen, .ref a_seenPair, .ref a_seenTime, .ref a_seenLate, .long i_this_seed, .ref a_isKept, .ref a_kept])), (a_now, .inl (cI, 32, .inl k_now)), (a_other, .inl (cI, 8, .inl k_other)), (a_one, .inl (cI, 8, .inl k_one)), (a_before, .inl (cI, 12, .inl k_before)), (a_after, .inl (cI, 12, .inl k_after)), (a_values, .inl (cI, 12, .inl k_values))] sz [.ref a_this, .int y1, .int y2] [(a_this, .inr (10, [.int i_this_inputs, .int i_this_gates, .ref a_now, .ref a_one, .ref a_other, .ref a_next, .int i_this_readInputs, .int i_this_readGates, .ref a_readOne, .ref a_readOther, .ref a_readNext, .ref a_text, .int i_this_length, .int i_this_paths, .ref a_pathInput, .ref a_pathGates, .ref a_before, .ref a_after, .ref a_values, .ref a_taken, .ref a_waves, .int i_this_acts, .int i_this_turn, .ref a_row, .int i_this_seen, .ref a_seenPair, .ref a_seenTime, .ref a_seenLate, .long i_this_seed, .ref a_isKept, .ref a_kept])), (a_now, .inl (cI, 32, .inl k_now)), (a_other, .inl (cI, 8, .inl k_other)), (a_one, .inl (cI, 8, .inl k_one)), (a_before, .inl (cI, 12, .inl o_before)), (a_after, .inl (cI, 12, .inl o_after)), (a_values, .inl (cI, 12, .inl o_values))] := by
  refine entV (cc := cX10_findPair) (maxL := 6) (own := RX10) (by decide) rfl rfl (Nat.le_of_ble_eq_true rfl) ?_
  intro p e s m args below meth c A ls Q H locs S hr hw hl hQ
  have hx := S.1.1
  have hb := S.1.2.1
  have hts := S.1.2.2.2.2
  have hl : lv_has ls 6 [(0, .ref a_this), (1, .int y1), (2, .int y2)] := hl
  have hinX10 : ∀ w ∈ u_ws RX10 TX10 31, w ∈ wsX10_findPair := (fun _ h => List.mem_cons_of_mem _ (List.mem_append_right _ h))
  have F7 : FLk s args wsX10_findPair RX10 7 RX10 TX10 31 10 2 := ⟨hinX10, rfl, by decide, hts (.fieldLink RX10 7 "SlowPathsModel" "now" "[I") (List.mem_of_getElem? (i := 6) rfl)⟩
  have F13 : FLk s args wsX10_findPair RX10 13 RX10 TX10 31 10 3 := ⟨hinX10, rfl, by decide, hts (.fieldLink RX10 13 "SlowPathsModel" "one" "[I") (List.mem_of_getElem? (i := 8) rfl)⟩
  have F16 : FLk s args wsX10_findPair RX10 16 RX10 TX10 31 10 4 := ⟨hinX10, rfl, by decide, hts (.fieldLink RX10 16 "SlowPathsModel" "other" "[I") (List.mem_of_getElem? (i := 7) rfl)⟩
  have F40 : FLk s args wsX10_findPair RX10 40 RX10 TX10 31 10 16 := ⟨hinX10, rfl, by decide, hts (.fieldLink RX10 40 "SlowPathsModel" "before" "[I") (List.mem_of_getElem? (i := 2) rfl)⟩
  have F43 : FLk s args wsX10_findPair RX10 43 RX10 TX10 31 10 17 := ⟨hinX10, rfl, by decide, hts (.fieldLink RX10 43 "SlowPathsModel" "after" "[I") (List.mem_of_getElem? (i := 3) rfl)⟩
  have F46 : FLk s args wsX10_findPair RX10 46 RX10 TX10 31 10 18 := ⟨hinX10, rfl, by decide, hts (.fieldLink RX10 46 "SlowPathsModel" "values" "[I") (List.mem_of_getElem? (i := 4) rfl)⟩
  have F112 : FLk s args wsX10_findPair RX10 112 RX10 TX10 31 10 0 := ⟨hinX10, rfl, by decide, hts (.fieldLink RX10 112 "SlowPathsModel" "inputs" "I") (List.mem_of_getElem? (i := 1) rfl)⟩
  have F115 : FLk s args wsX10_findPair RX10 115 RX10 TX10 31 10 1 := ⟨hinX10, rfl, by decide, hts (.fieldLink RX10 115 "SlowPathsModel" "gates" "I") (List.mem_of_getElem? (i := 5) rfl)⟩
  have h := hf
  rw [f_X10_findPair] at h
  refine lv_iconst (v := (0 : Int32)) hx hb dX10_findPair_0 (by decide) ?_
  refine lv_istore_n (lv' := [(3, .int (0 : Int32)), (0, .ref a_this), (1, .int y1), (2, .int y2)]) hx hb dX10_findPair_1 rfl hl (by decide) rfl (fun ls hl => ?_)
  obtain ⟨j82_1, ej82_1, h⟩ := bnd_ex h
  have hj82_1 : ∀ (k_before_1 : (Nat → Int32)) (k_after_2 : (Nat → Int32)) (k_values_3 : (Nat → Int32)) (H : Heap) (locs : List Loc) (ls : Array Slot), j82_1 k_before_1 k_after_2 k_values_3 = some (o_before, o_after, o_values) → Wd D (tyA cI cJ cZ cS) A s [(a_this, .inr (10, [.int i_this_inputs, .int i_this_gates, .ref a_now, .ref a_one, .ref a_other, .ref a_next, .int i_this_readInputs, .int i_this_readGates, .ref a_readOne, .ref a_readOther, .ref a_readNext, .ref a_text, .int i_this_length, .int i_this_paths, .ref a_pathInput, .ref a_pathGates, .ref a_before, .ref a_after, .ref a_values, .ref a_taken, .ref a_waves, .int i_this_acts, .int i_this_turn, .ref a_row, .int i_this_seen, .ref a_seenPair, .ref a_seenTime, .ref a_seenLate, .long i_this_seed, .ref a_isKept, .ref a_kept])), (a_now, .inl (cI, 32, .inl k_now)), (a_other, .inl (cI, 8, .inl k_other)), (a_one, .inl (cI, 8, .inl k_one)), (a_before, .inl (cI, 12, .inl k_before_1)), (a_after, .inl (cI, 12, .inl k_after_2)), (a_values, .inl (cI, 12, .inl k_values_3))] H locs → lv_has ls 6 [(0, .ref a_this), (1, .int y1)] → W p l e rmX10_findPair s m args below meth c H locs 0 0 Q (F0 m 82 ls []) := by
    intro k_before_1 k_after_2 k_values_3 H locs ls h hw hl
    replace h := ap3 ej82_1 h
    refine lv_iconst (v := (0 : Int32)) hx hb dX10_findPair_82 (by decide) ?_
    refine lv_istore_n (lv' := [(3, .int (0 : Int32)), (0, .ref a_this), (1, .int y1)]) hx hb dX10_findPair_83 rfl hl (by decide) rfl (fun ls hl => ?_)
    obtain ⟨j234_1, ej234_1, h⟩ := bnd_ex h
    have hj234_1 : ∀ (k_before_4 : (Nat → Int32)) (k_after_5 : (Nat → Int32)) (k_values_6 : (Nat → Int32)) (H : Heap) (locs : List Loc) (ls : Array Slot), j234_1 k_before_4 k_after_5 k_values_6 = some (o_before, o_after, o_values) → Wd D (tyA cI cJ cZ cS) A s [(a_this, .inr (10, [.int i_this_inputs, .int i_this_gates, .ref a_now, .ref a_one, .ref a_other, .ref a_next, .int i_this_readInputs, .int i_this_readGates, .ref a_readOne, .ref a_readOther, .ref a_readNext, .ref a_text, .int i_this_length, .int i_this_paths, .ref a_pathInput, .ref a_pathGates, .ref a_before, .ref a_after, .ref a_values, .ref a_taken, .ref a_waves, .int i_this_acts, .int i_this_turn, .ref a_row, .int i_this_seen, .ref a_seenPair, .ref a_seenTime, .ref a_seenLate, .long i_this_seed, .ref a_isKept, .ref a_kept])), (a_now, .inl (cI, 32, .inl k_now)), (a_other, .inl (cI, 8, .inl k_other)), (a_one, .inl (cI, 8, .inl k_one)), (a_before, .inl (cI, 12, .inl k_before_4)), (a_after, .inl (cI, 12, .inl k_after_5)), (a_values, .inl (cI, 12, .inl k_values_6))] H locs → lv_has ls 6 [] → W p l e rmX10_findPair s m args below meth c H locs 0 0 Q (F0 m 234 ls []) := by
      intro k_before_4 k_after_5 k_values_6 H locs ls h hw hl
      replace h := ap3 ej234_1 h
      cases h
      exact z_vret S hQ hr hw [0, 1, 2, 3, 4, 5, 6] rfl rfl dX10_findPair_234
    have hL84_1 : ∀ (nf : Nat) (x3_7 : Int32) (k_before_8 : (Nat → Int32)) (k_after_9 : (Nat → Int32)) (k_values_10 : (Nat → Int32)) (H : Heap) (locs : List Loc) (ls : Array Slot), f_X10_findPair_L84 N y1 i_this_gates k_now k_other k_one j234_1 nf x3_7 k_before_8 k_after_9 k_values_10 = some (o_before, o_after, o_values) → Wd D (tyA cI cJ cZ cS) A s [(a_this, .inr (10, [.int i_this_inputs, .int i_this_gates, .ref a_now, .ref a_one, .ref a_other, .ref a_next, .int i_this_readInputs, .int i_this_readGates, .ref a_readOne, .ref a_readOther, .ref a_readNext, .ref a_text, .int i_this_length, .int i_this_paths, .ref a_pathInput, .ref a_pathGates, .ref a_before, .ref a_after, .ref a_values, .ref a_taken, .ref a_waves, .int i_this_acts, .int i_this_turn, .ref a_row, .int i_this_seen, .ref a_seenPair, .ref a_seenTime, .ref a_seenLate, .long i_this_seed, .ref a_isKept, .ref a_kept])), (a_now, .inl (cI, 32, .inl k_now)), (a_other, .inl (cI, 8, .inl k_other)), (a_one, .inl (cI, 8, .inl k_one)), (a_before, .inl (cI, 12, .inl k_before_8)), (a_after, .inl (cI, 12, .inl k_after_9)), (a_values, .inl (cI, 12, .inl k_values_10))] H locs → lv_has ls 6 [(0, .ref a_this), (1, .int y1), (3, .int x3_7)] → W p l e rmX10_findPair s m args below meth c H locs 0 0 Q (F0 m 84 ls []) := by
      intro nf
      induction nf with
      | zero =>
        intro x3_7 k_before_8 k_after_9 k_values_10 H locs ls h
        rw [f_X10_findPair_L84] at h
        cases h
      | succ n_84 ih_84 =>
        intro x3_7 k_before_8 k_after_9 k_values_10 H locs ls h hw hl
        rw [f_X10_findPair_L84] at h
        refine lv_iload_n hx hb dX10_findPair_84 rfl (lv_at hl 2 rfl) ?_
        refine lv_aload_n hx hb dX10_findPair_85 rfl (lv_at hl 0 rfl) ?_
        refine z_get S hw F115 0 rfl rfl dX10_findPair_86 ?_
        refine lv_icmp_ge (tgt := 234) hx hb dX10_findPair_89 (by decide) (fun hc => ?_) (fun hc => ?_)
        · replace h := if_t hc h
          exact hj234_1 k_before_8 k_after_9 k_values_10 H locs ls h hw (lv_sub hl [] rfl)
        · replace h := if_f hc h
          refine lv_aload_n hx hb dX10_findPair_92 rfl (lv_at hl 0 rfl) ?_
          refine z_get S hw F7 0 rfl rfl dX10_findPair_93 ?_
          refine lv_bipush (v := (16 : Int32)) hx hb dX10_findPair_96 (by decide) ?_
          refine lv_iload_n hx hb dX10_findPair_98 rfl (lv_at hl 1 rfl) ?_
          refine lv_imul hx hb dX10_findPair_99 ?_
          refine lv_iconst (v := (0 : Int32)) hx hb dX10_findPair_100 (by decide) ?_
          refine lv_iadd hx hb dX10_findPair_101 ?_
          refine lv_iload_n hx hb dX10_findPair_102 rfl (lv_at hl 2 rfl) ?_
          refine lv_iadd hx hb dX10_findPair_103 ?_
          obtain ⟨hg, h⟩ := grd_el h
          refine z_iald S hw 1 0 rfl rfl hg dX10_findPair_104 ?_
          refine lv_topi (fun x4_11 ex4_11 => ?_)
          replace h := bnd_at ex4_11 h
          refine lv_istore (lv' := [(4, .int x4_11), (0, .ref a_this), (1, .int y1), (3, .int x3_7)]) hx hb dX10_findPair_105 hl (by decide) rfl (fun ls hl => ?_)
          refine lv_aload_n hx hb dX10_findPair_107 rfl (lv_at hl 1 rfl) ?_
          refine z_get S hw F16 0 rfl rfl dX10_findPair_108 ?_
          refine lv_iload_n hx hb dX10_findPair_111 rfl (lv_at hl 3 rfl) ?_
          obtain ⟨hg, h⟩ := grd_el h
          refine z_iald S hw 2 0 rfl rfl hg dX10_findPair_112 ?_
          refine lv_bipush (v := (-9 : Int32)) hx hb dX10_findPair_113 (by decide) ?_
          obtain ⟨j133_1, ej133_1, h⟩ := bnd_ex h
          have hj133_1 : ∀ (t_12 : Int32) (H : Heap) (locs : List Loc) (ls : Array Slot), j133_1 t_12 = some (o_before, o_after, o_values) → Wd D (tyA cI cJ cZ cS) A s [(a_this, .inr (10, [.int i_this_inputs, .int i_this_gates, .ref a_now, .ref a_one, .ref a_other, .ref a_next, .int i_this_readInputs, .int i_this_readGates, .ref a_readOne, .ref a_readOther, .ref a_readNext, .ref a_text, .int i_this_length, .int i_this_paths, .ref a_pathInput, .ref a_pathGates, .ref a_before, .ref a_after, .ref a_values, .ref a_taken, .ref a_waves, .int i_this_acts, .int i_this_turn, .ref a_row, .int i_this_seen, .ref a_seenPair, .ref a_seenTime, .ref a_seenLate, .long i_this_seed, .ref a_isKept, .ref a_kept])), (a_now, .inl (cI, 32, .inl k_now)), (a_other, .inl (cI, 8, .inl k_other)), (a_one, .inl (cI, 8, .inl k_one)), (a_before, .inl (cI, 12, .inl k_before_8)), (a_after, .inl (cI, 12, .inl k_after_9)), (a_values, .inl (cI, 12, .inl k_values_10))] H locs → lv_has ls 6 [(0, .ref a_this), (1, .int y1), (3, .int x3_7), (4, .int x4_11)] → W p l e rmX10_findPair s m args below meth c H locs 0 0 Q (F0 m 133 ls [.int t_12]) := by
            intro t_12 H locs ls h hw hl
            replace h := ap1 ej133_1 h
            refine lv_istore (lv' := [(5, .int t_12), (0, .ref a_this), (1, .int y1), (3, .int x3_7), (4, .int x4_11)]) hx hb dX10_findPair_133 hl (by decide) rfl (fun ls hl => ?_)
            refine lv_aload_n hx hb dX10_findPair_135 rfl (lv_at hl 1 rfl) ?_
            refine z_get S hw F40 0 rfl rfl dX10_findPair_136 ?_
            refine lv_iconst (v := (4 : Int32)) hx hb dX10_findPair_139 (by decide) ?_
            refine lv_iload_n hx hb dX10_findPair_140 rfl (lv_at hl 3 rfl) ?_
            refine lv_iadd hx hb dX10_findPair_141 ?_
            refine lv_iload hx hb dX10_findPair_142 (lv_at hl 4 rfl) ?_
            refine lv_aload_n hx hb dX10_findPair_144 rfl (lv_at hl 1 rfl) ?_
            refine z_get S hw F40 0 rfl rfl dX10_findPair_145 ?_
            refine lv_aload_n hx hb dX10_findPair_148 rfl (lv_at hl 1 rfl) ?_
            refine z_get S hw F13 0 rfl rfl dX10_findPair_149 ?_
            refine lv_iload_n hx hb dX10_findPair_152 rfl (lv_at hl 3 rfl) ?_
            obtain ⟨hg, h⟩ := grd_el h
            refine z_iald S hw 3 0 rfl rfl hg dX10_findPair_153 ?_
            obtain ⟨hg, h⟩ := grd_el h
            refine z_iald S hw 4 0 rfl rfl hg dX10_findPair_154 ?_
            refine lv_aload_n hx hb dX10_findPair_155 rfl (lv_at hl 1 rfl) ?_
            refine z_get S hw F40 0 rfl rfl dX10_findPair_156 ?_
            refine lv_iload hx hb dX10_findPair_159 (lv_at hl 0 rfl) ?_
            obtain ⟨hg, h⟩ := grd_el h
            refine z_iald S hw 4 0 rfl rfl hg dX10_findPair_161 ?_
            obtain ⟨r_13, e162_1, h⟩ := obd1_el h
            refine zr_SI (As := [.int x4_11, .int (k_before_8 (k_one x3_7.toNatClampNeg).toNatClampNeg), .int (k_before_8 t_12.toNatClampNeg)]) (rest := [.int ((4 : Int32) + x3_7), .ref a_before]) (q0 := 0) (ci := 0) (fs := []) (qc := (RX0, TX0, 4)) S hw (c_X10_makes l D cI cJ cZ cS H.size N x4_11 (k_before_8 (k_one x3_7.toNatClampNeg).toNatClampNeg) (k_before_8 t_12.toNatClampNeg) r_13 e162_1) (va_cwS 3 hts gX10_findPair_X10_makes rfl rfl rfl ds_X10_makes ⟨Nat.le_of_ble_eq_true rfl, Nat.le_of_ble_eq_true rfl⟩) [] rfl rfl rfl hl.1 rfl (Nat.le_of_ble_eq_true rfl) dX10_findPair_162 ⟨Nat.zero_le _, Nat.zero_le _⟩ ?_
            obtain ⟨hg, h⟩ := grd_el h
            obtain ⟨k_before_14, ek_before_14, h⟩ := bnd_ex h
            refine z_iast S hw ek_before_14 4 0 rfl rfl hg dX10_findPair_165 (fun H locs hw => ?_)
            refine lv_aload_n hx hb dX10_findPair_166 rfl (lv_at hl 1 rfl) ?_
            refine z_get S hw F43 0 rfl rfl dX10_findPair_167 ?_
            refine lv_iconst (v := (4 : Int32)) hx hb dX10_findPair_170 (by decide) ?_
            refine lv_iload_n hx hb dX10_findPair_171 rfl (lv_at hl 3 rfl) ?_
            refine lv_iadd hx hb dX10_findPair_172 ?_
            refine lv_iload hx hb dX10_findPair_173 (lv_at hl 4 rfl) ?_
            refine lv_aload_n hx hb dX10_findPair_175 rfl (lv_at hl 1 rfl) ?_
            refine z_get S hw F43 0 rfl rfl dX10_findPair_176 ?_
            refine lv_aload_n hx hb dX10_findPair_179 rfl (lv_at hl 1 rfl) ?_
            refine z_get S hw F13 0 rfl rfl dX10_findPair_180 ?_
            refine lv_iload_n hx hb dX10_findPair_183 rfl (lv_at hl 3 rfl) ?_
            obtain ⟨hg, h⟩ := grd_el h
            refine z_iald S hw 3 0 rfl rfl hg dX10_findPair_184 ?_
            obtain ⟨hg, h⟩ := grd_el h
            refine z_iald S hw 5 0 rfl rfl hg dX10_findPair_185 ?_
            refine lv_aload_n hx hb dX10_findPair_186 rfl (lv_at hl 1 rfl) ?_
            refine z_get S hw F43 0 rfl rfl dX10_findPair_187 ?_
            refine lv_iload hx hb dX10_findPair_190 (lv_at hl 0 rfl) ?_
            obtain ⟨hg, h⟩ := grd_el h
            refine z_iald S hw 5 0 rfl rfl hg dX10_findPair_192 ?_
            obtain ⟨r_15, e193_1, h⟩ := obd1_el h
            refine zr_SI (As := [.int x4_11, .int (k_after_9 (k_one x3_7.toNatClampNeg).toNatClampNeg), .int (k_after_9 t_12.toNatClampNeg)]) (rest := [.int ((4 : Int32) + x3_7), .ref a_after]) (q0 := 0) (ci := 0) (fs := []) (qc := (RX0, TX0, 4)) S hw (c_X10_makes l D cI cJ cZ cS H.size N x4_11 (k_after_9 (k_one x3_7.toNatClampNeg).toNatClampNeg) (k_after_9 t_12.toNatClampNeg) r_15 e193_1) (va_cwS 3 hts gX10_findPair_X10_makes rfl rfl rfl ds_X10_makes ⟨Nat.le_of_ble_eq_true rfl, Nat.le_of_ble_eq_true rfl⟩) [] rfl rfl rfl hl.1 rfl (Nat.le_of_ble_eq_true rfl) dX10_findPair_193 ⟨Nat.zero_le _, Nat.zero_le _⟩ ?_
            obtain ⟨hg, h⟩ := grd_el h
            obtain ⟨k_after_16, ek_after_16, h⟩ := bnd_ex h
            refine z_iast S hw ek_after_16 5 0 rfl rfl hg dX10_findPair_196 (fun H locs hw => ?_)
            refine lv_aload_n hx hb dX10_findPair_197 rfl (lv_at hl 1 rfl) ?_
            refine z_get S hw F46 0 rfl rfl dX10_findPair_198 ?_
            refine lv_iconst (v := (4 : Int32)) hx hb dX10_findPair_201 (by decide) ?_
            refine lv_iload_n hx hb dX10_findPair_202 rfl (lv_at hl 3 rfl) ?_
            refine lv_iadd hx hb dX10_findPair_203 ?_
            refine lv_iload hx hb dX10_findPair_204 (lv_at hl 4 rfl) ?_
            refine lv_aload_n hx hb dX10_findPair_206 rfl (lv_at hl 1 rfl) ?_
            refine z_get S hw F46 0 rfl rfl dX10_findPair_207 ?_
            refine lv_aload_n hx hb dX10_findPair_210 rfl (lv_at hl 1 rfl) ?_
            refine z_get S hw F13 0 rfl rfl dX10_findPair_211 ?_
            refine lv_iload_n hx hb dX10_findPair_214 rfl (lv_at hl 3 rfl) ?_
            obtain ⟨hg, h⟩ := grd_el h
            refine z_iald S hw 3 0 rfl rfl hg dX10_findPair_215 ?_
            obtain ⟨hg, h⟩ := grd_el h
            refine z_iald S hw 6 0 rfl rfl hg dX10_findPair_216 ?_
            refine lv_aload_n hx hb dX10_findPair_217 rfl (lv_at hl 1 rfl) ?_
            refine z_get S hw F46 0 rfl rfl dX10_findPair_218 ?_
            refine lv_iload hx hb dX10_findPair_221 (lv_at hl 0 rfl) ?_
            obtain ⟨hg, h⟩ := grd_el h
            refine z_iald S hw 6 0 rfl rfl hg dX10_findPair_223 ?_
            obtain ⟨r_17, e224_1, h⟩ := obd1_el h
            refine zr_SI (As := [.int x4_11, .int (k_values_10 (k_one x3_7.toNatClampNeg).toNatClampNeg), .int (k_values_10 t_12.toNatClampNeg)]) (rest := [.int ((4 : Int32) + x3_7), .ref a_values]) (q0 := 0) (ci := 0) (fs := []) (qc := (RX0, TX0, 4)) S hw (c_X10_valueOf l D cI cJ cZ cS H.size N x4_11 (k_values_10 (k_one x3_7.toNatClampNeg).toNatClampNeg) (k_values_10 t_12.toNatClampNeg) r_17 e224_1) (va_cwS 3 hts gX10_findPair_X10_valueOf rfl rfl rfl ds_X10_valueOf ⟨Nat.le_of_ble_eq_true rfl, Nat.le_of_ble_eq_true rfl⟩) [] rfl rfl rfl hl.1 rfl (Nat.le_of_ble_eq_true rfl) dX10_findPair_224 ⟨Nat.zero_le _, Nat.zero_le _⟩ ?_
            obtain ⟨hg, h⟩ := grd_el h
            obtain ⟨k_values_18, ek_values_18, h⟩ := bnd_ex h
            refine z_iast S hw ek_values_18 6 0 rfl rfl hg dX10_findPair_227 (fun H locs hw => ?_)
            obtain ⟨x3_19, ex3_19, h⟩ := bnd_ex h
            refine lv_iinc (v := x3_19) (lv' := [(3, .int x3_19), (5, .int t_12), (0, .ref a_this), (1, .int y1), (4, .int x4_11)]) hx hb dX10_findPair_228 hl (k := 3) rfl (by rw [ex3_19]; rfl) (by decide) rfl (fun ls hl => ?_)
            refine lv_goto (tgt := 84) hx hb dX10_findPair_231 (by decide) ?_
            exact ih_84 x3_19 k_before_14 k_after_16 k_values_18 H locs ls h hw (lv_sub hl [2, 3, 0] rfl)
          refine lv_icmp_ne (tgt := 127) hx hb dX10_findPair_115 (by decide) (fun hc => ?_) (fun hc => ?_)
          · replace h := if_f hc h
            refine lv_aload_n hx hb dX10_findPair_127 rfl (lv_at hl 1 rfl) ?_
            refine z_get S hw F16 0 rfl rfl dX10_findPair_128 ?_
            refine lv_iload_n hx hb dX10_findPair_131 rfl (lv_at hl 3 rfl) ?_
            obtain ⟨hg, h⟩ := grd_el h
            refine z_iald S hw 2 0 rfl rfl hg dX10_findPair_132 ?_
            exact hj133_1 ((k_other x3_7.toNatClampNeg)) H locs ls h hw (lv_sub hl [1, 2, 3, 0] rfl)
          · replace h := if_t hc h
            refine lv_aload_n hx hb dX10_findPair_118 rfl (lv_at hl 1 rfl) ?_
            refine z_get S hw F13 0 rfl rfl dX10_findPair_119 ?_
            refine lv_iload_n hx hb dX10_findPair_122 rfl (lv_at hl 3 rfl) ?_
            obtain ⟨hg, h⟩ := grd_el h
            refine z_iald S hw 3 0 rfl rfl hg dX10_findPair_123 ?_
            refine lv_goto (tgt := 133) hx hb dX10_findPair_124 (by decide) ?_
            exact hj133_1 ((k_one x3_7.toNatClampNeg)) H locs ls h hw (lv_sub hl [1, 2, 3, 0] rfl)
    exact hL84_1 N ((0 : Int32)) k_before_1 k_after_2 k_values_3 H locs ls h hw (lv_sub hl [1, 2, 0] rfl)
  have hL2_1 : ∀ (nf : Nat) (x3_20 : Int32) (k_before_21 : (Nat → Int32)) (k_after_22 : (Nat → Int32)) (k_values_23 : (Nat → Int32)) (H : Heap) (locs : List Loc) (ls : Array Slot), f_X10_findPair_L2 N y2 i_this_inputs j82_1 nf x3_20 k_before_21 k_after_22 k_values_23 = some (o_before, o_after, o_values) → Wd D (tyA cI cJ cZ cS) A s [(a_this, .inr (10, [.int i_this_inputs, .int i_this_gates, .ref a_now, .ref a_one, .ref a_other, .ref a_next, .int i_this_readInputs, .int i_this_readGates, .ref a_readOne, .ref a_readOther, .ref a_readNext, .ref a_text, .int i_this_length, .int i_this_paths, .ref a_pathInput, .ref a_pathGates, .ref a_before, .ref a_after, .ref a_values, .ref a_taken, .ref a_waves, .int i_this_acts, .int i_this_turn, .ref a_row, .int i_this_seen, .ref a_seenPair, .ref a_seenTime, .ref a_seenLate, .long i_this_seed, .ref a_isKept, .ref a_kept])), (a_now, .inl (cI, 32, .inl k_now)), (a_other, .inl (cI, 8, .inl k_other)), (a_one, .inl (cI, 8, .inl k_one)), (a_before, .inl (cI, 12, .inl k_before_21)), (a_after, .inl (cI, 12, .inl k_after_22)), (a_values, .inl (cI, 12, .inl k_values_23))] H locs → lv_has ls 6 [(0, .ref a_this), (1, .int y1), (2, .int y2), (3, .int x3_20)] → W p l e rmX10_findPair s m args below meth c H locs 0 0 Q (F0 m 2 ls []) := by
    intro nf
    induction nf with
    | zero =>
      intro x3_20 k_before_21 k_after_22 k_values_23 H locs ls h
      rw [f_X10_findPair_L2] at h
      cases h
    | succ n_2 ih_2 =>
      intro x3_20 k_before_21 k_after_22 k_values_23 H locs ls h hw hl
      rw [f_X10_findPair_L2] at h
      refine lv_iload_n hx hb dX10_findPair_2 rfl (lv_at hl 3 rfl) ?_
      refine lv_aload_n hx hb dX10_findPair_3 rfl (lv_at hl 0 rfl) ?_
      refine z_get S hw F112 0 rfl rfl dX10_findPair_4 ?_
      refine lv_icmp_ge (tgt := 82) hx hb dX10_findPair_7 (by decide) (fun hc => ?_) (fun hc => ?_)
      · replace h := if_t hc h
        exact hj82_1 k_before_21 k_after_22 k_values_23 H locs ls h hw (lv_sub hl [0, 1] rfl)
      · replace h := if_f hc h
        refine lv_aload_n hx hb dX10_findPair_10 rfl (lv_at hl 0 rfl) ?_
        refine z_get S hw F40 0 rfl rfl dX10_findPair_11 ?_
        refine lv_iload_n hx hb dX10_findPair_14 rfl (lv_at hl 3 rfl) ?_
        refine lv_iload_n hx hb dX10_findPair_15 rfl (lv_at hl 2 rfl) ?_
        refine lv_bipush (v := (16 : Int32)) hx hb dX10_findPair_16 (by decide) ?_
        refine lv_idiv hx hb dX10_findPair_18 (by decide) ?_
        refine lv_iload_n hx hb dX10_findPair_19 rfl (lv_at hl 3 rfl) ?_
        refine lv_ishr hx hb dX10_findPair_20 ?_
        refine lv_iconst (v := (1 : Int32)) hx hb dX10_findPair_21 (by decide) ?_
        refine lv_iand hx hb dX10_findPair_22 ?_
        obtain ⟨hg, h⟩ := grd_el h
        obtain ⟨k_before_24, ek_before_24, h⟩ := bnd_ex h
        refine z_iast S hw ek_before_24 4 0 rfl rfl hg dX10_findPair_23 (fun H locs hw => ?_)
        refine lv_aload_n hx hb dX10_findPair_24 rfl (lv_at hl 0 rfl) ?_
        refine z_get S hw F43 0 rfl rfl dX10_findPair_25 ?_
        refine lv_iload_n hx hb dX10_findPair_28 rfl (lv_at hl 3 rfl) ?_
        refine lv_iload_n hx hb dX10_findPair_29 rfl (lv_at hl 2 rfl) ?_
        refine lv_bipush (v := (16 : Int32)) hx hb dX10_findPair_30 (by decide) ?_
        refine lv_irem hx hb dX10_findPair_32 (by decide) ?_
        refine lv_iload_n hx hb dX10_findPair_33 rfl (lv_at hl 3 rfl) ?_
        refine lv_ishr hx hb dX10_findPair_34 ?_
        refine lv_iconst (v := (1 : Int32)) hx hb dX10_findPair_35 (by decide) ?_
        refine lv_iand hx hb dX10_findPair_36 ?_
        obtain ⟨hg, h⟩ := grd_el h
        obtain ⟨k_after_25, ek_after_25, h⟩ := bnd_ex h
        refine z_iast S hw ek_after_25 5 0 rfl rfl hg dX10_findPair_37 (fun H locs hw => ?_)
        refine lv_aload_n hx hb dX10_findPair_38 rfl (lv_at hl 0 rfl) ?_
        refine z_get S hw F46 0 rfl rfl dX10_findPair_39 ?_
        refine lv_iload_n hx hb dX10_findPair_42 rfl (lv_at hl 3 rfl) ?_
        refine lv_aload_n hx hb dX10_findPair_43 rfl (lv_at hl 0 rfl) ?_
        refine z_get S hw F40 0 rfl rfl dX10_findPair_44 ?_
        refine lv_iload_n hx hb dX10_findPair_47 rfl (lv_at hl 3 rfl) ?_
        obtain ⟨hg, h⟩ := grd_el h
        refine z_iald S hw 4 0 rfl rfl hg dX10_findPair_48 ?_
        refine lv_aload_n hx hb dX10_findPair_49 rfl (lv_at hl 0 rfl) ?_
        refine z_get S hw F43 0 rfl rfl dX10_findPair_50 ?_
        refine lv_iload_n hx hb dX10_findPair_53 rfl (lv_at hl 3 rfl) ?_
        obtain ⟨hg, h⟩ := grd_el h
        refine z_iald S hw 5 0 rfl rfl hg dX10_findPair_54 ?_
        obtain ⟨j75_1, ej75_1, h⟩ := bnd_ex h
        have hj75_1 : ∀ (t_26 : Int32) (t_27 : Int32) (H : Heap) (locs : List Loc) (ls : Array Slot), j75_1 t_26 t_27 = some (o_before, o_after, o_values) → Wd D (tyA cI cJ cZ cS) A s [(a_this, .inr (10, [.int i_this_inputs, .int i_this_gates, .ref a_now, .ref a_one, .ref a_other, .ref a_next, .int i_this_readInputs, .int i_this_readGates, .ref a_readOne, .ref a_readOther, .ref a_readNext, .ref a_text, .int i_this_length, .int i_this_paths, .ref a_pathInput, .ref a_pathGates, .ref a_before, .ref a_after, .ref a_values, .ref a_taken, .ref a_waves, .int i_this_acts, .int i_this_turn, .ref a_row, .int i_this_seen, .ref a_seenPair, .ref a_seenTime, .ref a_seenLate, .long i_this_seed, .ref a_isKept, .ref a_kept])), (a_now, .inl (cI, 32, .inl k_now)), (a_other, .inl (cI, 8, .inl k_other)), (a_one, .inl (cI, 8, .inl k_one)), (a_before, .inl (cI, 12, .inl k_before_24)), (a_after, .inl (cI, 12, .inl k_after_25)), (a_values, .inl (cI, 12, .inl k_values_23))] H locs → lv_has ls 6 [(0, .ref a_this), (1, .int y1), (2, .int y2), (3, .int x3_20)] → W p l e rmX10_findPair s m args below meth c H locs 0 0 Q (F0 m 75 ls [.int t_26, .int t_27, .ref a_values]) := by
          intro t_26 t_27 H locs ls h hw hl
          replace h := ap2 ej75_1 h
          obtain ⟨hg, h⟩ := grd_el h
          obtain ⟨k_values_28, ek_values_28, h⟩ := bnd_ex h
          refine z_iast S hw ek_values_28 6 0 rfl rfl hg dX10_findPair_75 (fun H locs hw => ?_)
          obtain ⟨x3_29, ex3_29, h⟩ := bnd_ex h
          refine lv_iinc (v := x3_29) (lv' := [(3, .int x3_29), (0, .ref a_this), (1, .int y1), (2, .int y2)]) hx hb dX10_findPair_76 hl (k := 3) rfl (by rw [ex3_29]; rfl) (by decide) rfl (fun ls hl => ?_)
          refine lv_goto (tgt := 2) hx hb dX10_findPair_79 (by decide) ?_
          exact ih_2 x3_29 k_before_24 k_after_25 k_values_28 H locs ls h hw (lv_sub hl [1, 2, 3, 0] rfl)
        refine lv_icmp_ne (tgt := 67) hx hb dX10_findPair_55 (by decide) (fun hc => ?_) (fun hc => ?_)
        · replace h := if_f hc h
          refine lv_iconst (v := (2 : Int32)) hx hb dX10_findPair_67 (by decide) ?_
          refine lv_aload_n hx hb dX10_findPair_68 rfl (lv_at hl 0 rfl) ?_
          refine z_get S hw F43 0 rfl rfl dX10_findPair_69 ?_
          refine lv_iload_n hx hb dX10_findPair_72 rfl (lv_at hl 3 rfl) ?_
          obtain ⟨hg, h⟩ := grd_el h
          refine z_iald S hw 5 0 rfl rfl hg dX10_findPair_73 ?_
          refine lv_iadd hx hb dX10_findPair_74 ?_
          exact hj75_1 (((2 : Int32) + (k_after_25 x3_20.toNatClampNeg))) x3_20 H locs ls h hw hl
        · replace h := if_t hc h
          refine lv_aload_n hx hb dX10_findPair_58 rfl (lv_at hl 0 rfl) ?_
          refine z_get S hw F43 0 rfl rfl dX10_findPair_59 ?_
          refine lv_iload_n hx hb dX10_findPair_62 rfl (lv_at hl 3 rfl) ?_
          obtain ⟨hg, h⟩ := grd_el h
          refine z_iald S hw 5 0 rfl rfl hg dX10_findPair_63 ?_
          refine lv_goto (tgt := 75) hx hb dX10_findPair_64 (by decide) ?_
          exact hj75_1 ((k_after_25 x3_20.toNatClampNeg)) x3_20 H locs ls h hw hl
  exact hL2_1 N ((0 : Int32)) k_before k_after k_values H locs ls h hw (lv_sub hl [1, 2, 3, 0] rfl)
abbrev rmX10_isPair : Room := { frames := 1, cells := 0, slots := 0, locals := 25 }
theorem dv_X10_isPair : yX10_isPair.cls = RX10 ∧ yX10_isPair.cls ≠ "java/lang/invoke/MethodHandle" ∧ yX10_isPair.cls ≠ "java/lang/invoke/VarHandle" ∧ (parseMethodDescriptor yX10_isPair.desc).map (fun d => d.parameters.length) = some 1 := by decide +kernel
noncomputable def f_X10_isPair (N : Nat) (y1 : Int32) (i_this_inputs : Int32) : Option (Int32) :=
  obd1 (f_X10_in N (y1.toInt64) (0 : Int64) (255 : Int64)) fun (r_1 : Int32) => bnd (α := Option (Int32)) (some ((0 : Int32))) fun (j42_1 : Option (Int32)) => (if r_1 = (0 : Int32) then (j42_1) else ((if ((1 : Int32) <<< (i_this_inputs &&& 31)) ≤ (y1 / (16 : Int32)) then (j42_1) else ((if ((1 : Int32) <<< (i_this_inputs &&& 31)) ≤ (y1 - y1 / (16 : Int32) * (16 : Int32)) then (j42_1) else (some ((1 : Int32))))))))
set_option maxHeartbeats 4000000 in
set_option maxRecDepth 100000 in
theorem c_X10_isPair (l : Launch) (D : va_G) (cI cJ cZ cS : ClassId) (sz N : Nat) (a_this a_now a_one a_other a_next a_readOne a_readOther a_readNext a_text a_pathInput a_pathGates a_before a_after a_values a_taken a_waves a_row a_seenPair a_seenTime a_seenLate a_isKept a_kept : Nat) (i_this_inputs : Int32) (i_this_gates : Int32) (i_this_readInputs : Int32) (i_this_readGates : Int32) (i_this_length : Int32) (i_this_paths : Int32) (i_this_acts : Int32) (i_this_turn : Int32) (i_this_seen : Int32) (i_this_seed : Int64) (y1 : Int32) (rr : Int32) (hf : f_X10_isPair N y1 i_this_inputs = some (rr)) : MetIr l yX10_isPair wsX10_isPair rmX10_isPair D (tyA cI cJ cZ cS) [(a_this, .inr (10, [.int i_this_inputs, .int i_this_gates, .ref a_now, .ref a_one, .ref a_other, .ref a_next, .int i_this_readInputs, .int i_this_readGates, .ref a_readOne, .ref a_readOther, .ref a_readNext, .ref a_text, .int i_this_length, .int i_this_paths, .ref a_pathInput, .ref a_pathGates, .ref a_before, .ref a_after, .ref a_values, .ref a_taken, .ref a_waves, .int i_this_acts, .int i_this_turn, .ref a_row, .int i_this_seen, .ref a_seenPair, .ref a_seenTime, .ref a_seenLate, .long i_this_seed, .ref a_isKept, .ref a_kept]))] sz [.ref a_this, .int y1] rr := by
  refine entZr (cc := cX10_isPair) (maxL := 2) (own := RX10) (by decide) rfl rfl (Nat.le_of_ble_eq_true rfl) ?_
  intro p e s m args below meth c A ls Q S hr hw hl hQ
  have hx := S.1.1
  have hb := S.1.2.1
  have hts := S.1.2.2.2.2
  have hl : lv_has ls 2 [(0, .ref a_this), (1, .int y1)] := hl
  have hinX10 : ∀ w ∈ u_ws RX10 TX10 31, w ∈ wsX10_isPair := (fun _ h => List.mem_cons_of_mem _ (List.mem_append_right _ h))
  have F112 : FLk s args wsX10_isPair RX10 112 RX10 TX10 31 10 0 := ⟨hinX10, rfl, by decide, hts (.fieldLink RX10 112 "SlowPathsModel" "inputs" "I") (List.mem_of_getElem? (i := 2) rfl)⟩
  have h := hf
  rw [f_X10_isPair] at h
  refine lv_iload_n hx hb dX10_isPair_0 rfl (lv_at hl 1 rfl) ?_
  refine lv_i2l hx hb dX10_isPair_1 rfl ?_
  refine lv_lconst (v := (0 : Int64)) hx hb dX10_isPair_2 (by decide) ?_
  refine lv_ldc2 (v := (255 : Int64)) hx hb S.1.2.2.2.1 (hts (.constantLong RX10 74 (255)) (List.mem_of_getElem? (i := 1) rfl)) dX10_isPair_3 ?_
  obtain ⟨r_1, e6_1, h⟩ := obd1_el h
  refine zr_SI (As := [.long (y1.toInt64), .long (0 : Int64), .long (255 : Int64)]) (rest := []) (q0 := 0) (ci := 0) (fs := []) (qc := (RX0, TX0, 4)) S hw (c_X10_in l D cI cJ cZ cS s.heap.size N (y1.toInt64) (0 : Int64) (255 : Int64) r_1 e6_1) (va_cwS 3 hts gX10_isPair_X10_in rfl rfl rfl ds_X10_in ⟨Nat.le_of_ble_eq_true rfl, Nat.le_of_ble_eq_true rfl⟩) [] rfl rfl rfl hl.1 rfl (Nat.le_of_ble_eq_true rfl) dX10_isPair_6 ⟨Nat.zero_le _, Nat.zero_le _⟩ ?_
  obtain ⟨j42_1, ej42_1, h⟩ := bnd_ex h
  have hj42_1 : ∀ (ls : Array Slot), j42_1 = some (rr) → lv_has ls 2 [] → W p l e rmX10_isPair s m args below meth c s.heap [] 0 0 Q (F0 m 42 ls []) := by
    intro ls h hl
    replace h := ap0 ej42_1 h
    refine lv_iconst (v := (0 : Int32)) hx hb dX10_isPair_42 (by decide) ?_
    cases h
    exact z_zretr S hQ hr rfl dX10_isPair_43
  refine lv_if_eq (tgt := 42) hx hb dX10_isPair_9 (by decide) (fun hc => ?_) (fun hc => ?_)
  · replace h := if_t hc h
    exact hj42_1  ls h (lv_sub hl [] rfl)
  · replace h := if_f hc h
    refine lv_iload_n hx hb dX10_isPair_12 rfl (lv_at hl 1 rfl) ?_
    refine lv_bipush (v := (16 : Int32)) hx hb dX10_isPair_13 (by decide) ?_
    refine lv_idiv hx hb dX10_isPair_15 (by decide) ?_
    refine lv_iconst (v := (1 : Int32)) hx hb dX10_isPair_16 (by decide) ?_
    refine lv_aload_n hx hb dX10_isPair_17 rfl (lv_at hl 0 rfl) ?_
    refine z_get S hw F112 0 rfl rfl dX10_isPair_18 ?_
    refine lv_ishl hx hb dX10_isPair_21 ?_
    refine lv_icmp_ge (tgt := 42) hx hb dX10_isPair_22 (by decide) (fun hc => ?_) (fun hc => ?_)
    · replace h := if_t hc h
      exact hj42_1  ls h (lv_sub hl [] rfl)
    · replace h := if_f hc h
      refine lv_iload_n hx hb dX10_isPair_25 rfl (lv_at hl 1 rfl) ?_
      refine lv_bipush (v := (16 : Int32)) hx hb dX10_isPair_26 (by decide) ?_
      refine lv_irem hx hb dX10_isPair_28 (by decide) ?_
      refine lv_iconst (v := (1 : Int32)) hx hb dX10_isPair_29 (by decide) ?_
      refine lv_aload_n hx hb dX10_isPair_30 rfl (lv_at hl 0 rfl) ?_
      refine z_get S hw F112 0 rfl rfl dX10_isPair_31 ?_
      refine lv_ishl hx hb dX10_isPair_34 ?_
      refine lv_icmp_ge (tgt := 42) hx hb dX10_isPair_35 (by decide) (fun hc => ?_) (fun hc => ?_)
      · replace h := if_t hc h
        exact hj42_1  ls h (lv_sub hl [] rfl)
      · replace h := if_f hc h
        refine lv_iconst (v := (1 : Int32)) hx hb dX10_isPair_38 (by decide) ?_
        refine lv_goto (tgt := 43) hx hb dX10_isPair_39 (by decide) ?_
        cases h
        exact z_zretr S hQ hr rfl dX10_isPair_43
abbrev rmX10_value : Room := { frames := 3, cells := 0, slots := 0, locals := 68 }
theorem dv_X10_value : yX10_value.cls = RX10 ∧ yX10_value.cls ≠ "java/lang/invoke/MethodHandle" ∧ yX10_value.cls ≠ "java/lang/invoke/VarHandle" ∧ (parseMethodDescriptor yX10_value.desc).map (fun d => d.parameters.length) = some 2 := by decide +kernel
noncomputable def f_X10_value (N : Nat) (y1 : Int32) (y2 : Int32) (i_this_inputs : Int32) (i_this_gates : Int32) (k_now : (Nat → Int32)) (k_other : (Nat → Int32)) (k_one : (Nat → Int32)) (k_before : (Nat → Int32)) (k_after : (Nat → Int32)) (k_values : (Nat → Int32)) : Option (Int32 × (Nat → Int32) × (Nat → Int32) × (Nat → Int32)) :=
  obd1 (f_X10_isGate N y1 i_this_gates) fun (r_1 : Int32) => (if r_1 = (0 : Int32) then (some ((-1 : Int32), k_before, k_after, k_values)) else (obd1 (f_X10_isPair N y2 i_this_inputs) fun (r_2 : Int32) => (if r_2 = (0 : Int32) then (some ((-2 : Int32), k_before, k_after, k_values)) else (obd3 (f_X10_findPair N (0 : Int32) y2 i_this_inputs i_this_gates k_now k_other k_one k_before k_after k_values) fun (k_before_3 : (Nat → Int32)) (k_after_4 : (Nat → Int32)) (k_values_5 : (Nat → Int32)) => grd (inb ((4 : Int32) + y1) 12) <| some ((k_values_5 ((4 : Int32) + y1).toNatClampNeg), k_before_3, k_after_4, k_values_5)))))
set_option maxHeartbeats 4000000 in
set_option maxRecDepth 100000 in
theorem c_X10_value (l : Launch) (D : va_G) (cI cJ cZ cS : ClassId) (sz N : Nat) (a_this a_now a_other a_one a_before a_after a_values a_next a_readOne a_readOther a_readNext a_text a_pathInput a_pathGates a_taken a_waves a_row a_seenPair a_seenTime a_seenLate a_isKept a_kept : Nat) (i_this_inputs : Int32) (i_this_gates : Int32) (i_this_readInputs : Int32) (i_this_readGates : Int32) (i_this_length : Int32) (i_this_paths : Int32) (i_this_acts : Int32) (i_this_turn : Int32) (i_this_seen : Int32) (i_this_seed : Int64) (k_now : (Nat → Int32)) (k_other : (Nat → Int32)) (k_one : (Nat → Int32)) (k_before : (Nat → Int32)) (k_after : (Nat → Int32)) (k_values : (Nat → Int32)) (y1 : Int32) (y2 : Int32) (rr : Int32) (o_before : (Nat → Int32)) (o_after : (Nat → Int32)) (o_values : (Nat → Int32)) (hf : f_X10_value N y1 y2 i_this_inputs i_this_gates k_now k_other k_one k_before k_after k_values = some (rr, o_before, o_after, o_values)) : MetI l yX10_value wsX10_value rmX10_value D (tyA cI cJ cZ cS) [(a_this, .inr (10, [.int i_this_inputs, .int i_this_gates, .ref a_now, .ref a_one, .ref a_other, .ref a_next, .int i_this_readInputs, .int i_this_readGates, .ref a_readOne, .ref a_readOther, .ref a_readNext, .ref a_text, .int i_this_length, .int i_this_paths, .ref a_pathInput, .ref a_pathGates, .ref a_before, .ref a_after, .ref a_values, .ref a_taken, .ref a_waves, .int i_this_acts, .int i_this_turn, .ref a_row, .int i_this_seen, .ref a_seenPair, .ref a_seenTime, .ref a_seenLate, .long i_this_seed, .ref a_isKept, .ref a_kept])), (a_now, .inl (cI, 32, .inl k_now)), (a_other, .inl (cI, 8, .inl k_other)), (a_one, .inl (cI, 8, .inl k_one)), (a_before, .inl (cI, 12, .inl k_before)), (a_after, .inl (cI, 12, .inl k_after)), (a_values, .inl (cI, 12, .inl k_values))] sz [.ref a_this, .int y1, .int y2] rr [(a_this, .inr (10, [.int i_this_inputs, .int i_this_gates, .ref a_now, .ref a_one, .ref a_other, .ref a_next, .int i_this_readInputs, .int i_this_readGates, .ref a_readOne, .ref a_readOther, .ref a_readNext, .ref a_text, .int i_this_length, .int i_this_paths, .ref a_pathInput, .ref a_pathGates, .ref a_before, .ref a_after, .ref a_values, .ref a_taken, .ref a_waves, .int i_this_acts, .int i_this_turn, .ref a_row, .int i_this_seen, .ref a_seenPair, .ref a_seenTime, .ref a_seenLate, .long i_this_seed, .ref a_isKept, .ref a_kept])), (a_now, .inl (cI, 32, .inl k_now)), (a_other, .inl (cI, 8, .inl k_other)), (a_one, .inl (cI, 8, .inl k_one)), (a_before, .inl (cI, 12, .inl o_before)), (a_after, .inl (cI, 12, .inl o_after)), (a_values, .inl (cI, 12, .inl o_values))] := by
  refine entI (cc := cX10_value) (maxL := 3) (own := RX10) (by decide) rfl rfl (Nat.le_of_ble_eq_true rfl) ?_
  intro p e s m args below meth c A ls Q H locs S hr hw hl hQ
  have hx := S.1.1
  have hb := S.1.2.1
  have hts := S.1.2.2.2.2
  have hl : lv_has ls 3 [(0, .ref a_this), (1, .int y1), (2, .int y2)] := hl
  have hinX10 : ∀ w ∈ u_ws RX10 TX10 31, w ∈ wsX10_value := (fun _ h => List.mem_cons_of_mem _ (List.mem_append_right _ h))
  have F46 : FLk s args wsX10_value RX10 46 RX10 TX10 31 10 18 := ⟨hinX10, rfl, by decide, hts (.fieldLink RX10 46 "SlowPathsModel" "values" "[I") (List.mem_of_getElem? (i := 1) rfl)⟩
  have h := hf
  rw [f_X10_value] at h
  refine lv_aload_n hx hb dX10_value_0 rfl (lv_at hl 0 rfl) ?_
  refine lv_iload_n hx hb dX10_value_1 rfl (lv_at hl 1 rfl) ?_
  obtain ⟨r_1, e2_1, h⟩ := obd1_el h
  refine zr_VI (As := [.int y1]) (rest := []) (q0 := 0) S hw (c_X10_isGate l D cI cJ cZ cS H.size N a_this a_now a_one a_other a_next a_readOne a_readOther a_readNext a_text a_pathInput a_pathGates a_before a_after a_values a_taken a_waves a_row a_seenPair a_seenTime a_seenLate a_isKept a_kept i_this_inputs i_this_gates i_this_readInputs i_this_readGates i_this_length i_this_paths i_this_acts i_this_turn i_this_seen i_this_seed y1 r_1 e2_1) (cwV 1 hts gX10_value_X10_isGate rfl rfl rfl dv_X10_isGate ⟨Nat.le_of_ble_eq_true rfl, Nat.le_of_ble_eq_true rfl⟩) [0] rfl rfl rfl rfl rfl rfl hl.1 rfl (Nat.le_of_ble_eq_true rfl) dX10_value_2 ⟨Nat.zero_le _, Nat.zero_le _⟩ ?_
  refine lv_if_ne (tgt := 10) hx hb dX10_value_5 (by decide) (fun hc => ?_) (fun hc => ?_)
  · replace h := if_f hc h
    refine lv_aload_n hx hb dX10_value_10 rfl (lv_at hl 0 rfl) ?_
    refine lv_iload_n hx hb dX10_value_11 rfl (lv_at hl 2 rfl) ?_
    obtain ⟨r_2, e12_1, h⟩ := obd1_el h
    refine zr_VI (As := [.int y2]) (rest := []) (q0 := 0) S hw (c_X10_isPair l D cI cJ cZ cS H.size N a_this a_now a_one a_other a_next a_readOne a_readOther a_readNext a_text a_pathInput a_pathGates a_before a_after a_values a_taken a_waves a_row a_seenPair a_seenTime a_seenLate a_isKept a_kept i_this_inputs i_this_gates i_this_readInputs i_this_readGates i_this_length i_this_paths i_this_acts i_this_turn i_this_seen i_this_seed y2 r_2 e12_1) (cwV 1 hts gX10_value_X10_isPair rfl rfl rfl dv_X10_isPair ⟨Nat.le_of_ble_eq_true rfl, Nat.le_of_ble_eq_true rfl⟩) [0] rfl rfl rfl rfl rfl rfl hl.1 rfl (Nat.le_of_ble_eq_true rfl) dX10_value_12 ⟨Nat.zero_le _, Nat.zero_le _⟩ ?_
    refine lv_if_ne (tgt := 21) hx hb dX10_value_15 (by decide) (fun hc => ?_) (fun hc => ?_)
    · replace h := if_f hc h
      refine lv_aload_n hx hb dX10_value_21 rfl (lv_at hl 0 rfl) ?_
      refine lv_iconst (v := (0 : Int32)) hx hb dX10_value_22 (by decide) ?_
      refine lv_iload_n hx hb dX10_value_23 rfl (lv_at hl 2 rfl) ?_
      obtain ⟨k_before_3, k_after_4, k_values_5, e24_1, h⟩ := obd3_el h
      refine zc_VV (As := [.int (0 : Int32), .int y2]) (rest := []) (wr := []) (q0 := 0) S hw (c_X10_findPair l D cI cJ cZ cS H.size N a_this a_now a_other a_one a_before a_after a_values a_next a_readOne a_readOther a_readNext a_text a_pathInput a_pathGates a_taken a_waves a_row a_seenPair a_seenTime a_seenLate a_isKept a_kept i_this_inputs i_this_gates i_this_readInputs i_this_readGates i_this_length i_this_paths i_this_acts i_this_turn i_this_seen i_this_seed k_now k_other k_one k_before k_after k_values (0 : Int32) y2 k_before_3 k_after_4 k_values_5 e24_1) (cwV 2 hts gX10_value_X10_findPair rfl rfl rfl dv_X10_findPair ⟨Nat.le_of_ble_eq_true rfl, Nat.le_of_ble_eq_true rfl⟩) [0, 1, 2, 3, 4, 5, 6] [] rfl rfl rfl rfl (by decide) rfl rfl rfl rfl hl.1 rfl (Nat.le_of_ble_eq_true rfl) dX10_value_24 ⟨Nat.zero_le _, Nat.zero_le _⟩ (fun H locs hw => ?_)
      refine lv_aload_n hx hb dX10_value_27 rfl (lv_at hl 0 rfl) ?_
      refine z_get S hw F46 0 rfl rfl dX10_value_28 ?_
      refine lv_iconst (v := (4 : Int32)) hx hb dX10_value_31 (by decide) ?_
      refine lv_iload_n hx hb dX10_value_32 rfl (lv_at hl 1 rfl) ?_
      refine lv_iadd hx hb dX10_value_33 ?_
      obtain ⟨hg, h⟩ := grd_el h
      refine z_iald S hw 6 0 rfl rfl hg dX10_value_34 ?_
      cases h
      exact z_iret S hQ hr hw [0, 1, 2, 3, 4, 5, 6] rfl rfl dX10_value_35
    · replace h := if_t hc h
      refine lv_bipush (v := (-2 : Int32)) hx hb dX10_value_18 (by decide) ?_
      cases h
      exact z_iret S hQ hr hw [0, 1, 2, 3, 4, 5, 6] rfl rfl dX10_value_20
  · replace h := if_t hc h
    refine lv_iconst (v := (-1 : Int32)) hx hb dX10_value_8 (by decide) ?_
    cases h
    exact z_iret S hQ hr hw [0, 1, 2, 3, 4, 5, 6] rfl rfl dX10_value_9
abbrev rmX10_testsOf : Room := { frames := 1, cells := 0, slots := 0, locals := 21 }
theorem dv_X10_testsOf : yX10_testsOf.cls = RX10 ∧ yX10_testsOf.cls ≠ "java/lang/invoke/MethodHandle" ∧ yX10_testsOf.cls ≠ "java/lang/invoke/VarHandle" ∧ (parseMethodDescriptor yX10_testsOf.desc).map (fun d => d.parameters.length) = some 3 := by decide +kernel
noncomputable def f_X10_testsOf_L26 (N : Nat) (y1 : Int32) (y3 : Int32) (i_this_gates : Int32) (k_after : (Nat → Int32)) (k_now : (Nat → Int32)) (k_one : (Nat → Int32)) (k_values : (Nat → Int32)) (k_other : (Nat → Int32)) (j200_1 : Int32 → Option (Int32)) : Nat → Int32 → Int32 → Int32 → Option (Int32)
  | 0, _, _, _ => none
  | n_26 + 1, x4_2, x5_3, x6_4 =>
    (if i_this_gates ≤ x6_4 then (j200_1 x5_3) else (grd (inb ((((16 : Int32) * y1) + (0 : Int32)) + x6_4) 32) <| bnd ((k_now ((((16 : Int32) * y1) + (0 : Int32)) + x6_4).toNatClampNeg)) fun (x7_5 : Int32) => obd1 (f_X10_has N y3 x6_4) fun (r_6 : Int32) => bnd (fun (x5_7 : Int32) => (obd1 (f_X10_has N y3 x6_4) fun (r_8 : Int32) => bnd (fun (t_9 : Int32) => (bnd (x6_4 + (1 : Int32)) fun (x6_10 : Int32) => f_X10_testsOf_L26 N y1 y3 i_this_gates k_after k_now k_one k_values k_other j200_1 n_26 t_9 x5_7 x6_10)) fun (j192_1 : Int32 → Option (Int32)) => (if r_8 = (0 : Int32) then (j192_1 x4_2) else (j192_1 (((4 : Int32) + x6_4)))))) fun (j174_1 : Int32 → Option (Int32)) => (if r_6 = (0 : Int32) then (j174_1 x5_3) else ((if x7_5 = (4 : Int32) then (j174_1 x5_3) else (grd (inb x6_4 8) <| bnd (fun (t_11 : Int32) => (bnd (fun (t_12 : Int32) => (grd (inb t_11 12) <| bnd (fun (t_13 : Int32) => (j174_1 t_13)) fun (j172_1 : Int32 → Option (Int32)) => (if (k_after t_11.toNatClampNeg) = t_12 then (grd (inb x4_2 12) <| bnd (α := Option (Int32)) (j172_1 x5_3) fun (j170_1 : Option (Int32)) => (if (k_after x4_2.toNatClampNeg) = t_12 then (j170_1) else (grd (inb t_11 12) <| (if (k_values t_11.toNatClampNeg) = t_12 then (j170_1) else ((if (1 : Int32) ≤ x5_3 then (j172_1 ((1 : Int32))) else (j172_1 x5_3))))))) else (j172_1 ((0 : Int32)))))) fun (j113_1 : Int32 → Option (Int32)) => bnd (α := Option (Int32)) (j113_1 ((1 : Int32))) fun (j108_1 : Option (Int32)) => (if x7_5 = (0 : Int32) then (j108_1) else ((if x7_5 = (2 : Int32) then (j108_1) else (j113_1 ((0 : Int32)))))))) fun (j95_1 : Int32 → Option (Int32)) => (if (k_one x6_4.toNatClampNeg) = x4_2 then (grd (inb x6_4 8) <| j95_1 ((k_other x6_4.toNatClampNeg))) else (grd (inb x6_4 8) <| j95_1 ((k_one x6_4.toNatClampNeg))))))))))
noncomputable def f_X10_testsOf (N : Nat) (y1 : Int32) (y2 : Int32) (y3 : Int32) (i_this_gates : Int32) (k_before : (Nat → Int32)) (k_after : (Nat → Int32)) (k_now : (Nat → Int32)) (k_one : (Nat → Int32)) (k_values : (Nat → Int32)) (k_other : (Nat → Int32)) : Option (Int32) :=
  grd (inb y2 12) <| grd (inb y2 12) <| (if (k_before y2.toNatClampNeg) = (k_after y2.toNatClampNeg) then (some ((0 : Int32))) else (bnd (fun (x5_1 : Int32) => (some (x5_1))) fun (j200_1 : Int32 → Option (Int32)) => f_X10_testsOf_L26 N y1 y3 i_this_gates k_after k_now k_one k_values k_other j200_1 N y2 ((2 : Int32)) ((0 : Int32))))
set_option maxHeartbeats 4000000 in
set_option maxRecDepth 100000 in
theorem c_X10_testsOf (l : Launch) (D : va_G) (cI cJ cZ cS : ClassId) (sz N : Nat) (a_this a_before a_after a_now a_one a_values a_other a_next a_readOne a_readOther a_readNext a_text a_pathInput a_pathGates a_taken a_waves a_row a_seenPair a_seenTime a_seenLate a_isKept a_kept : Nat) (i_this_inputs : Int32) (i_this_gates : Int32) (i_this_readInputs : Int32) (i_this_readGates : Int32) (i_this_length : Int32) (i_this_paths : Int32) (i_this_acts : Int32) (i_this_turn : Int32) (i_this_seen : Int32) (i_this_seed : Int64) (k_before : (Nat → Int32)) (k_after : (Nat → Int32)) (k_now : (Nat → Int32)) (k_one : (Nat → Int32)) (k_values : (Nat → Int32)) (k_other : (Nat → Int32)) (y1 : Int32) (y2 : Int32) (y3 : Int32) (rr : Int32) (hf : f_X10_testsOf N y1 y2 y3 i_this_gates k_before k_after k_now k_one k_values k_other = some (rr)) : MetIr l yX10_testsOf wsX10_testsOf rmX10_testsOf D (tyA cI cJ cZ cS) [(a_this, .inr (10, [.int i_this_inputs, .int i_this_gates, .ref a_now, .ref a_one, .ref a_other, .ref a_next, .int i_this_readInputs, .int i_this_readGates, .ref a_readOne, .ref a_readOther, .ref a_readNext, .ref a_text, .int i_this_length, .int i_this_paths, .ref a_pathInput, .ref a_pathGates, .ref a_before, .ref a_after, .ref a_values, .ref a_taken, .ref a_waves, .int i_this_acts, .int i_this_turn, .ref a_row, .int i_this_seen, .ref a_seenPair, .ref a_seenTime, .ref a_seenLate, .long i_this_seed, .ref a_isKept, .ref a_kept])), (a_before, .inl (cI, 12, .inl k_before)), (a_after, .inl (cI, 12, .inl k_after)), (a_now, .inl (cI, 32, .inl k_now)), (a_one, .inl (cI, 8, .inl k_one)), (a_values, .inl (cI, 12, .inl k_values)), (a_other, .inl (cI, 8, .inl k_other))] sz [.ref a_this, .int y1, .int y2, .int y3] rr := by
  refine entIr (cc := cX10_testsOf) (maxL := 10) (own := RX10) (by decide) rfl rfl (Nat.le_of_ble_eq_true rfl) ?_
  intro p e s m args below meth c A ls Q S hr hw hl hQ
  have hx := S.1.1
  have hb := S.1.2.1
  have hts := S.1.2.2.2.2
  have hl : lv_has ls 10 [(0, .ref a_this), (1, .int y1), (2, .int y2), (3, .int y3)] := hl
  have hinX10 : ∀ w ∈ u_ws RX10 TX10 31, w ∈ wsX10_testsOf := (fun _ h => List.mem_cons_of_mem _ (List.mem_append_right _ h))
  have F7 : FLk s args wsX10_testsOf RX10 7 RX10 TX10 31 10 2 := ⟨hinX10, rfl, by decide, hts (.fieldLink RX10 7 "SlowPathsModel" "now" "[I") (List.mem_of_getElem? (i := 4) rfl)⟩
  have F13 : FLk s args wsX10_testsOf RX10 13 RX10 TX10 31 10 3 := ⟨hinX10, rfl, by decide, hts (.fieldLink RX10 13 "SlowPathsModel" "one" "[I") (List.mem_of_getElem? (i := 5) rfl)⟩
  have F16 : FLk s args wsX10_testsOf RX10 16 RX10 TX10 31 10 4 := ⟨hinX10, rfl, by decide, hts (.fieldLink RX10 16 "SlowPathsModel" "other" "[I") (List.mem_of_getElem? (i := 6) rfl)⟩
  have F40 : FLk s args wsX10_testsOf RX10 40 RX10 TX10 31 10 16 := ⟨hinX10, rfl, by decide, hts (.fieldLink RX10 40 "SlowPathsModel" "before" "[I") (List.mem_of_getElem? (i := 1) rfl)⟩
  have F43 : FLk s args wsX10_testsOf RX10 43 RX10 TX10 31 10 17 := ⟨hinX10, rfl, by decide, hts (.fieldLink RX10 43 "SlowPathsModel" "after" "[I") (List.mem_of_getElem? (i := 2) rfl)⟩
  have F46 : FLk s args wsX10_testsOf RX10 46 RX10 TX10 31 10 18 := ⟨hinX10, rfl, by decide, hts (.fieldLink RX10 46 "SlowPathsModel" "values" "[I") (List.mem_of_getElem? (i := 7) rfl)⟩
  have F115 : FLk s args wsX10_testsOf RX10 115 RX10 TX10 31 10 1 := ⟨hinX10, rfl, by decide, hts (.fieldLink RX10 115 "SlowPathsModel" "gates" "I") (List.mem_of_getElem? (i := 3) rfl)⟩
  have h := hf
  rw [f_X10_testsOf] at h
  refine lv_aload_n hx hb dX10_testsOf_0 rfl (lv_at hl 0 rfl) ?_
  refine z_get S hw F40 0 rfl rfl dX10_testsOf_1 ?_
  refine lv_iload_n hx hb dX10_testsOf_4 rfl (lv_at hl 2 rfl) ?_
  obtain ⟨hg, h⟩ := grd_el h
  refine z_iald S hw 1 0 rfl rfl hg dX10_testsOf_5 ?_
  refine lv_aload_n hx hb dX10_testsOf_6 rfl (lv_at hl 0 rfl) ?_
  refine z_get S hw F43 0 rfl rfl dX10_testsOf_7 ?_
  refine lv_iload_n hx hb dX10_testsOf_10 rfl (lv_at hl 2 rfl) ?_
  obtain ⟨hg, h⟩ := grd_el h
  refine z_iald S hw 2 0 rfl rfl hg dX10_testsOf_11 ?_
  refine lv_icmp_ne (tgt := 17) hx hb dX10_testsOf_12 (by decide) (fun hc => ?_) (fun hc => ?_)
  · replace h := if_f hc h
    refine lv_iload_n hx hb dX10_testsOf_17 rfl (lv_at hl 2 rfl) ?_
    refine lv_istore (lv' := [(4, .int y2), (0, .ref a_this), (1, .int y1), (2, .int y2), (3, .int y3)]) hx hb dX10_testsOf_18 hl (by decide) rfl (fun ls hl => ?_)
    refine lv_iconst (v := (2 : Int32)) hx hb dX10_testsOf_20 (by decide) ?_
    refine lv_istore (lv' := [(5, .int (2 : Int32)), (4, .int y2), (0, .ref a_this), (1, .int y1), (2, .int y2), (3, .int y3)]) hx hb dX10_testsOf_21 hl (by decide) rfl (fun ls hl => ?_)
    refine lv_iconst (v := (0 : Int32)) hx hb dX10_testsOf_23 (by decide) ?_
    refine lv_istore (lv' := [(6, .int (0 : Int32)), (5, .int (2 : Int32)), (4, .int y2), (0, .ref a_this), (1, .int y1), (2, .int y2), (3, .int y3)]) hx hb dX10_testsOf_24 hl (by decide) rfl (fun ls hl => ?_)
    obtain ⟨j200_1, ej200_1, h⟩ := bnd_ex h
    have hj200_1 : ∀ (x5_1 : Int32) (ls : Array Slot), j200_1 x5_1 = some (rr) → lv_has ls 10 [(5, .int x5_1)] → W p l e rmX10_testsOf s m args below meth c s.heap [] 0 0 Q (F0 m 200 ls []) := by
      intro x5_1 ls h hl
      replace h := ap1 ej200_1 h
      refine lv_iload hx hb dX10_testsOf_200 (lv_at hl 0 rfl) ?_
      cases h
      exact z_iretr S hQ hr dX10_testsOf_202
    have hL26_1 : ∀ (nf : Nat) (x4_2 : Int32) (x5_3 : Int32) (x6_4 : Int32) (ls : Array Slot), f_X10_testsOf_L26 N y1 y3 i_this_gates k_after k_now k_one k_values k_other j200_1 nf x4_2 x5_3 x6_4 = some (rr) → lv_has ls 10 [(0, .ref a_this), (1, .int y1), (3, .int y3), (4, .int x4_2), (5, .int x5_3), (6, .int x6_4)] → W p l e rmX10_testsOf s m args below meth c s.heap [] 0 0 Q (F0 m 26 ls []) := by
      intro nf
      induction nf with
      | zero =>
        intro x4_2 x5_3 x6_4 ls h
        rw [f_X10_testsOf_L26] at h
        cases h
      | succ n_26 ih_26 =>
        intro x4_2 x5_3 x6_4 ls h hl
        rw [f_X10_testsOf_L26] at h
        refine lv_iload hx hb dX10_testsOf_26 (lv_at hl 5 rfl) ?_
        refine lv_aload_n hx hb dX10_testsOf_28 rfl (lv_at hl 0 rfl) ?_
        refine z_get S hw F115 0 rfl rfl dX10_testsOf_29 ?_
        refine lv_icmp_ge (tgt := 200) hx hb dX10_testsOf_32 (by decide) (fun hc => ?_) (fun hc => ?_)
        · replace h := if_t hc h
          exact hj200_1 x5_3 ls h (lv_sub hl [4] rfl)
        · replace h := if_f hc h
          refine lv_aload_n hx hb dX10_testsOf_35 rfl (lv_at hl 0 rfl) ?_
          refine z_get S hw F7 0 rfl rfl dX10_testsOf_36 ?_
          refine lv_bipush (v := (16 : Int32)) hx hb dX10_testsOf_39 (by decide) ?_
          refine lv_iload_n hx hb dX10_testsOf_41 rfl (lv_at hl 1 rfl) ?_
          refine lv_imul hx hb dX10_testsOf_42 ?_
          refine lv_iconst (v := (0 : Int32)) hx hb dX10_testsOf_43 (by decide) ?_
          refine lv_iadd hx hb dX10_testsOf_44 ?_
          refine lv_iload hx hb dX10_testsOf_45 (lv_at hl 5 rfl) ?_
          refine lv_iadd hx hb dX10_testsOf_47 ?_
          obtain ⟨hg, h⟩ := grd_el h
          refine z_iald S hw 3 0 rfl rfl hg dX10_testsOf_48 ?_
          refine lv_topi (fun x7_5 ex7_5 => ?_)
          replace h := bnd_at ex7_5 h
          refine lv_istore (lv' := [(7, .int x7_5), (0, .ref a_this), (1, .int y1), (3, .int y3), (4, .int x4_2), (5, .int x5_3), (6, .int x6_4)]) hx hb dX10_testsOf_49 hl (by decide) rfl (fun ls hl => ?_)
          refine lv_iload_n hx hb dX10_testsOf_51 rfl (lv_at hl 3 rfl) ?_
          refine lv_iload hx hb dX10_testsOf_52 (lv_at hl 6 rfl) ?_
          obtain ⟨r_6, e54_1, h⟩ := obd1_el h
          refine zr_SI (As := [.int y3, .int x6_4]) (rest := []) (q0 := 0) (ci := 0) (fs := []) (qc := (RX0, TX0, 4)) S hw (c_X10_has l D cI cJ cZ cS s.heap.size N y3 x6_4 r_6 e54_1) (va_cwS 2 hts gX10_testsOf_X10_has rfl rfl rfl ds_X10_has ⟨Nat.le_of_ble_eq_true rfl, Nat.le_of_ble_eq_true rfl⟩) [] rfl rfl rfl hl.1 rfl (Nat.le_of_ble_eq_true rfl) dX10_testsOf_54 ⟨Nat.zero_le _, Nat.zero_le _⟩ ?_
          obtain ⟨j174_1, ej174_1, h⟩ := bnd_ex h
          have hj174_1 : ∀ (x5_7 : Int32) (ls : Array Slot), j174_1 x5_7 = some (rr) → lv_has ls 10 [(0, .ref a_this), (1, .int y1), (3, .int y3), (4, .int x4_2), (5, .int x5_7), (6, .int x6_4)] → W p l e rmX10_testsOf s m args below meth c s.heap [] 0 0 Q (F0 m 174 ls []) := by
            intro x5_7 ls h hl
            replace h := ap1 ej174_1 h
            refine lv_iload_n hx hb dX10_testsOf_174 rfl (lv_at hl 2 rfl) ?_
            refine lv_iload hx hb dX10_testsOf_175 (lv_at hl 5 rfl) ?_
            obtain ⟨r_8, e177_1, h⟩ := obd1_el h
            refine zr_SI (As := [.int y3, .int x6_4]) (rest := []) (q0 := 0) (ci := 0) (fs := []) (qc := (RX0, TX0, 4)) S hw (c_X10_has l D cI cJ cZ cS s.heap.size N y3 x6_4 r_8 e177_1) (va_cwS 2 hts gX10_testsOf_X10_has rfl rfl rfl ds_X10_has ⟨Nat.le_of_ble_eq_true rfl, Nat.le_of_ble_eq_true rfl⟩) [] rfl rfl rfl hl.1 rfl (Nat.le_of_ble_eq_true rfl) dX10_testsOf_177 ⟨Nat.zero_le _, Nat.zero_le _⟩ ?_
            obtain ⟨j192_1, ej192_1, h⟩ := bnd_ex h
            have hj192_1 : ∀ (t_9 : Int32) (ls : Array Slot), j192_1 t_9 = some (rr) → lv_has ls 10 [(0, .ref a_this), (1, .int y1), (3, .int y3), (5, .int x5_7), (6, .int x6_4)] → W p l e rmX10_testsOf s m args below meth c s.heap [] 0 0 Q (F0 m 192 ls [.int t_9]) := by
              intro t_9 ls h hl
              replace h := ap1 ej192_1 h
              refine lv_istore (lv' := [(4, .int t_9), (0, .ref a_this), (1, .int y1), (3, .int y3), (5, .int x5_7), (6, .int x6_4)]) hx hb dX10_testsOf_192 hl (by decide) rfl (fun ls hl => ?_)
              obtain ⟨x6_10, ex6_10, h⟩ := bnd_ex h
              refine lv_iinc (v := x6_10) (lv' := [(6, .int x6_10), (4, .int t_9), (0, .ref a_this), (1, .int y1), (3, .int y3), (5, .int x5_7)]) hx hb dX10_testsOf_194 hl (k := 5) rfl (by rw [ex6_10]; rfl) (by decide) rfl (fun ls hl => ?_)
              refine lv_goto (tgt := 26) hx hb dX10_testsOf_197 (by decide) ?_
              exact ih_26 t_9 x5_7 x6_10 ls h (lv_sub hl [2, 3, 4, 1, 5, 0] rfl)
            refine lv_if_eq (tgt := 190) hx hb dX10_testsOf_180 (by decide) (fun hc => ?_) (fun hc => ?_)
            · replace h := if_t hc h
              refine lv_iload hx hb dX10_testsOf_190 (lv_at hl 3 rfl) ?_
              exact hj192_1 x4_2 ls h (lv_sub hl [0, 1, 2, 4, 5] rfl)
            · replace h := if_f hc h
              refine lv_iconst (v := (4 : Int32)) hx hb dX10_testsOf_183 (by decide) ?_
              refine lv_iload hx hb dX10_testsOf_184 (lv_at hl 5 rfl) ?_
              refine lv_iadd hx hb dX10_testsOf_186 ?_
              refine lv_goto (tgt := 192) hx hb dX10_testsOf_187 (by decide) ?_
              exact hj192_1 (((4 : Int32) + x6_4)) ls h (lv_sub hl [0, 1, 2, 4, 5] rfl)
          refine lv_if_eq (tgt := 174) hx hb dX10_testsOf_57 (by decide) (fun hc => ?_) (fun hc => ?_)
          · replace h := if_t hc h
            exact hj174_1 x5_3 ls h (lv_sub hl [1, 2, 3, 4, 5, 6] rfl)
          · replace h := if_f hc h
            refine lv_iload hx hb dX10_testsOf_60 (lv_at hl 0 rfl) ?_
            refine lv_iconst (v := (4 : Int32)) hx hb dX10_testsOf_62 (by decide) ?_
            refine lv_icmp_eq (tgt := 174) hx hb dX10_testsOf_63 (by decide) (fun hc => ?_) (fun hc => ?_)
            · replace h := if_t hc h
              exact hj174_1 x5_3 ls h (lv_sub hl [1, 2, 3, 4, 5, 6] rfl)
            · replace h := if_f hc h
              refine lv_aload_n hx hb dX10_testsOf_66 rfl (lv_at hl 1 rfl) ?_
              refine z_get S hw F13 0 rfl rfl dX10_testsOf_67 ?_
              refine lv_iload hx hb dX10_testsOf_70 (lv_at hl 6 rfl) ?_
              obtain ⟨hg, h⟩ := grd_el h
              refine z_iald S hw 4 0 rfl rfl hg dX10_testsOf_72 ?_
              refine lv_iload hx hb dX10_testsOf_73 (lv_at hl 4 rfl) ?_
              obtain ⟨j95_1, ej95_1, h⟩ := bnd_ex h
              have hj95_1 : ∀ (t_11 : Int32) (ls : Array Slot), j95_1 t_11 = some (rr) → lv_has ls 10 [(0, .ref a_this), (1, .int y1), (3, .int y3), (4, .int x4_2), (5, .int x5_3), (6, .int x6_4), (7, .int x7_5)] → W p l e rmX10_testsOf s m args below meth c s.heap [] 0 0 Q (F0 m 95 ls [.int t_11]) := by
                intro t_11 ls h hl
                replace h := ap1 ej95_1 h
                refine lv_istore (lv' := [(8, .int t_11), (0, .ref a_this), (1, .int y1), (3, .int y3), (4, .int x4_2), (5, .int x5_3), (6, .int x6_4), (7, .int x7_5)]) hx hb dX10_testsOf_95 hl (by decide) rfl (fun ls hl => ?_)
                refine lv_iload hx hb dX10_testsOf_97 (lv_at hl 7 rfl) ?_
                obtain ⟨j113_1, ej113_1, h⟩ := bnd_ex h
                have hj113_1 : ∀ (t_12 : Int32) (ls : Array Slot), j113_1 t_12 = some (rr) → lv_has ls 10 [(0, .ref a_this), (1, .int y1), (3, .int y3), (4, .int x4_2), (5, .int x5_3), (6, .int x6_4), (8, .int t_11)] → W p l e rmX10_testsOf s m args below meth c s.heap [] 0 0 Q (F0 m 113 ls [.int t_12]) := by
                  intro t_12 ls h hl
                  replace h := ap1 ej113_1 h
                  refine lv_istore (lv' := [(9, .int t_12), (0, .ref a_this), (1, .int y1), (3, .int y3), (4, .int x4_2), (5, .int x5_3), (6, .int x6_4), (8, .int t_11)]) hx hb dX10_testsOf_113 hl (by decide) rfl (fun ls hl => ?_)
                  refine lv_aload_n hx hb dX10_testsOf_115 rfl (lv_at hl 1 rfl) ?_
                  refine z_get S hw F43 0 rfl rfl dX10_testsOf_116 ?_
                  refine lv_iload hx hb dX10_testsOf_119 (lv_at hl 7 rfl) ?_
                  obtain ⟨hg, h⟩ := grd_el h
                  refine z_iald S hw 2 0 rfl rfl hg dX10_testsOf_121 ?_
                  refine lv_iload hx hb dX10_testsOf_122 (lv_at hl 0 rfl) ?_
                  obtain ⟨j172_1, ej172_1, h⟩ := bnd_ex h
                  have hj172_1 : ∀ (t_13 : Int32) (ls : Array Slot), j172_1 t_13 = some (rr) → lv_has ls 10 [(0, .ref a_this), (1, .int y1), (3, .int y3), (4, .int x4_2), (6, .int x6_4)] → W p l e rmX10_testsOf s m args below meth c s.heap [] 0 0 Q (F0 m 172 ls [.int t_13]) := by
                    intro t_13 ls h hl
                    replace h := ap1 ej172_1 h
                    refine lv_istore (lv' := [(5, .int t_13), (0, .ref a_this), (1, .int y1), (3, .int y3), (4, .int x4_2), (6, .int x6_4)]) hx hb dX10_testsOf_172 hl (by decide) rfl (fun ls hl => ?_)
                    exact hj174_1 t_13 ls h (lv_sub hl [1, 2, 3, 4, 0, 5] rfl)
                  refine lv_icmp_eq (tgt := 131) hx hb dX10_testsOf_124 (by decide) (fun hc => ?_) (fun hc => ?_)
                  · replace h := if_t hc h
                    refine lv_aload_n hx hb dX10_testsOf_131 rfl (lv_at hl 1 rfl) ?_
                    refine z_get S hw F43 0 rfl rfl dX10_testsOf_132 ?_
                    refine lv_iload hx hb dX10_testsOf_135 (lv_at hl 4 rfl) ?_
                    obtain ⟨hg, h⟩ := grd_el h
                    refine z_iald S hw 2 0 rfl rfl hg dX10_testsOf_137 ?_
                    refine lv_iload hx hb dX10_testsOf_138 (lv_at hl 0 rfl) ?_
                    obtain ⟨j170_1, ej170_1, h⟩ := bnd_ex h
                    have hj170_1 : ∀ (ls : Array Slot), j170_1 = some (rr) → lv_has ls 10 [(0, .ref a_this), (1, .int y1), (3, .int y3), (4, .int x4_2), (5, .int x5_3), (6, .int x6_4)] → W p l e rmX10_testsOf s m args below meth c s.heap [] 0 0 Q (F0 m 170 ls []) := by
                      intro ls h hl
                      replace h := ap0 ej170_1 h
                      refine lv_iload hx hb dX10_testsOf_170 (lv_at hl 4 rfl) ?_
                      exact hj172_1 x5_3 ls h (lv_sub hl [0, 1, 2, 3, 5] rfl)
                    refine lv_icmp_eq (tgt := 170) hx hb dX10_testsOf_140 (by decide) (fun hc => ?_) (fun hc => ?_)
                    · replace h := if_t hc h
                      exact hj170_1  ls h (lv_sub hl [1, 2, 3, 4, 5, 6] rfl)
                    · replace h := if_f hc h
                      refine lv_aload_n hx hb dX10_testsOf_143 rfl (lv_at hl 1 rfl) ?_
                      refine z_get S hw F46 0 rfl rfl dX10_testsOf_144 ?_
                      refine lv_iload hx hb dX10_testsOf_147 (lv_at hl 7 rfl) ?_
                      obtain ⟨hg, h⟩ := grd_el h
                      refine z_iald S hw 5 0 rfl rfl hg dX10_testsOf_149 ?_
                      refine lv_iload hx hb dX10_testsOf_150 (lv_at hl 0 rfl) ?_
                      refine lv_icmp_eq (tgt := 170) hx hb dX10_testsOf_152 (by decide) (fun hc => ?_) (fun hc => ?_)
                      · replace h := if_t hc h
                        exact hj170_1  ls h (lv_sub hl [1, 2, 3, 4, 5, 6] rfl)
                      · replace h := if_f hc h
                        refine lv_iload hx hb dX10_testsOf_155 (lv_at hl 5 rfl) ?_
                        refine lv_iconst (v := (1 : Int32)) hx hb dX10_testsOf_157 (by decide) ?_
                        refine lv_icmp_ge (tgt := 166) hx hb dX10_testsOf_158 (by decide) (fun hc => ?_) (fun hc => ?_)
                        · replace h := if_t hc h
                          refine lv_iconst (v := (1 : Int32)) hx hb dX10_testsOf_166 (by decide) ?_
                          refine lv_goto (tgt := 172) hx hb dX10_testsOf_167 (by decide) ?_
                          exact hj172_1 ((1 : Int32)) ls h (lv_sub hl [1, 2, 3, 4, 6] rfl)
                        · replace h := if_f hc h
                          refine lv_iload hx hb dX10_testsOf_161 (lv_at hl 5 rfl) ?_
                          refine lv_goto (tgt := 172) hx hb dX10_testsOf_163 (by decide) ?_
                          exact hj172_1 x5_3 ls h (lv_sub hl [1, 2, 3, 4, 6] rfl)
                  · replace h := if_f hc h
                    refine lv_iconst (v := (0 : Int32)) hx hb dX10_testsOf_127 (by decide) ?_
                    refine lv_goto (tgt := 172) hx hb dX10_testsOf_128 (by decide) ?_
                    exact hj172_1 ((0 : Int32)) ls h (lv_sub hl [1, 2, 3, 4, 6] rfl)
                obtain ⟨j108_1, ej108_1, h⟩ := bnd_ex h
                have hj108_1 : ∀ (ls : Array Slot), j108_1 = some (rr) → lv_has ls 10 [(0, .ref a_this), (1, .int y1), (3, .int y3), (4, .int x4_2), (5, .int x5_3), (6, .int x6_4), (8, .int t_11)] → W p l e rmX10_testsOf s m args below meth c s.heap [] 0 0 Q (F0 m 108 ls []) := by
                  intro ls h hl
                  replace h := ap0 ej108_1 h
                  refine lv_iconst (v := (1 : Int32)) hx hb dX10_testsOf_108 (by decide) ?_
                  refine lv_goto (tgt := 113) hx hb dX10_testsOf_109 (by decide) ?_
                  exact hj113_1 ((1 : Int32)) ls h hl
                refine lv_if_eq (tgt := 108) hx hb dX10_testsOf_99 (by decide) (fun hc => ?_) (fun hc => ?_)
                · replace h := if_t hc h
                  exact hj108_1  ls h (lv_sub hl [1, 2, 3, 4, 5, 6, 0] rfl)
                · replace h := if_f hc h
                  refine lv_iload hx hb dX10_testsOf_102 (lv_at hl 7 rfl) ?_
                  refine lv_iconst (v := (2 : Int32)) hx hb dX10_testsOf_104 (by decide) ?_
                  refine lv_icmp_ne (tgt := 112) hx hb dX10_testsOf_105 (by decide) (fun hc => ?_) (fun hc => ?_)
                  · replace h := if_f hc h
                    refine lv_iconst (v := (0 : Int32)) hx hb dX10_testsOf_112 (by decide) ?_
                    exact hj113_1 ((0 : Int32)) ls h (lv_sub hl [1, 2, 3, 4, 5, 6, 0] rfl)
                  · replace h := if_t hc h
                    exact hj108_1  ls h (lv_sub hl [1, 2, 3, 4, 5, 6, 0] rfl)
              refine lv_icmp_ne (tgt := 88) hx hb dX10_testsOf_75 (by decide) (fun hc => ?_) (fun hc => ?_)
              · replace h := if_f hc h
                refine lv_aload_n hx hb dX10_testsOf_88 rfl (lv_at hl 1 rfl) ?_
                refine z_get S hw F13 0 rfl rfl dX10_testsOf_89 ?_
                refine lv_iload hx hb dX10_testsOf_92 (lv_at hl 6 rfl) ?_
                obtain ⟨hg, h⟩ := grd_el h
                refine z_iald S hw 4 0 rfl rfl hg dX10_testsOf_94 ?_
                exact hj95_1 ((k_one x6_4.toNatClampNeg)) ls h (lv_sub hl [1, 2, 3, 4, 5, 6, 0] rfl)
              · replace h := if_t hc h
                refine lv_aload_n hx hb dX10_testsOf_78 rfl (lv_at hl 1 rfl) ?_
                refine z_get S hw F16 0 rfl rfl dX10_testsOf_79 ?_
                refine lv_iload hx hb dX10_testsOf_82 (lv_at hl 6 rfl) ?_
                obtain ⟨hg, h⟩ := grd_el h
                refine z_iald S hw 6 0 rfl rfl hg dX10_testsOf_84 ?_
                refine lv_goto (tgt := 95) hx hb dX10_testsOf_85 (by decide) ?_
                exact hj95_1 ((k_other x6_4.toNatClampNeg)) ls h (lv_sub hl [1, 2, 3, 4, 5, 6, 0] rfl)
    exact hL26_1 N y2 ((2 : Int32)) ((0 : Int32)) ls h (lv_sub hl [3, 4, 6, 2, 1, 0] rfl)
  · replace h := if_t hc h
    refine lv_iconst (v := (0 : Int32)) hx hb dX10_testsOf_15 (by decide) ?_
    cases h
    exact z_iretr S hQ hr dX10_testsOf_16
abbrev rmX10_tests : Room := { frames := 3, cells := 0, slots := 0, locals := 68 }
theorem dv_X10_tests : yX10_tests.cls = RX10 ∧ yX10_tests.cls ≠ "java/lang/invoke/MethodHandle" ∧ yX10_tests.cls ≠ "java/lang/invoke/VarHandle" ∧ (parseMethodDescriptor yX10_tests.desc).map (fun d => d.parameters.length) = some 2 := by decide +kernel
noncomputable def f_X10_tests (N : Nat) (y1 : Int32) (y2 : Int32) (i_this_inputs : Int32) (i_this_gates : Int32) (i_this_paths : Int32) (k_now : (Nat → Int32)) (k_other : (Nat → Int32)) (k_one : (Nat → Int32)) (k_before : (Nat → Int32)) (k_after : (Nat → Int32)) (k_values : (Nat → Int32)) (k_pathInput : (Nat → Int32)) (k_pathGates : (Nat → Int32)) : Option (Int32 × (Nat → Int32) × (Nat → Int32) × (Nat → Int32)) :=
  obd1 (f_X10_isPath N y1 i_this_paths) fun (r_1 : Int32) => (if r_1 = (0 : Int32) then (some ((-1 : Int32), k_before, k_after, k_values)) else (obd1 (f_X10_isPair N y2 i_this_inputs) fun (r_2 : Int32) => (if r_2 = (0 : Int32) then (some ((-2 : Int32), k_before, k_after, k_values)) else (obd3 (f_X10_findPair N (0 : Int32) y2 i_this_inputs i_this_gates k_now k_other k_one k_before k_after k_values) fun (k_before_3 : (Nat → Int32)) (k_after_4 : (Nat → Int32)) (k_values_5 : (Nat → Int32)) => grd (inb y1 64) <| grd (inb y1 64) <| obd1 (f_X10_testsOf N (0 : Int32) (k_pathInput y1.toNatClampNeg) (k_pathGates y1.toNatClampNeg) i_this_gates k_before_3 k_after_4 k_now k_one k_values_5 k_other) fun (r_6 : Int32) => some (r_6, k_before_3, k_after_4, k_values_5)))))
set_option maxHeartbeats 4000000 in
set_option maxRecDepth 100000 in
theorem c_X10_tests (l : Launch) (D : va_G) (cI cJ cZ cS : ClassId) (sz N : Nat) (a_this a_now a_other a_one a_before a_after a_values a_pathInput a_pathGates a_next a_readOne a_readOther a_readNext a_text a_taken a_waves a_row a_seenPair a_seenTime a_seenLate a_isKept a_kept : Nat) (i_this_inputs : Int32) (i_this_gates : Int32) (i_this_readInputs : Int32) (i_this_readGates : Int32) (i_this_length : Int32) (i_this_paths : Int32) (i_this_acts : Int32) (i_this_turn : Int32) (i_this_seen : Int32) (i_this_seed : Int64) (k_now : (Nat → Int32)) (k_other : (Nat → Int32)) (k_one : (Nat → Int32)) (k_before : (Nat → Int32)) (k_after : (Nat → Int32)) (k_values : (Nat → Int32)) (k_pathInput : (Nat → Int32)) (k_pathGates : (Nat → Int32)) (y1 : Int32) (y2 : Int32) (rr : Int32) (o_before : (Nat → Int32)) (o_after : (Nat → Int32)) (o_values : (Nat → Int32)) (hf : f_X10_tests N y1 y2 i_this_inputs i_this_gates i_this_paths k_now k_other k_one k_before k_after k_values k_pathInput k_pathGates = some (rr, o_before, o_after, o_values)) : MetI l yX10_tests wsX10_tests rmX10_tests D (tyA cI cJ cZ cS) [(a_this, .inr (10, [.int i_this_inputs, .int i_this_gates, .ref a_now, .ref a_one, .ref a_other, .ref a_next, .int i_this_readInputs, .int i_this_readGates, .ref a_readOne, .ref a_readOther, .ref a_readNext, .ref a_text, .int i_this_length, .int i_this_paths, .ref a_pathInput, .ref a_pathGates, .ref a_before, .ref a_after, .ref a_values, .ref a_taken, .ref a_waves, .int i_this_acts, .int i_this_turn, .ref a_row, .int i_this_seen, .ref a_seenPair, .ref a_seenTime, .ref a_seenLate, .long i_this_seed, .ref a_isKept, .ref a_kept])), (a_now, .inl (cI, 32, .inl k_now)), (a_other, .inl (cI, 8, .inl k_other)), (a_one, .inl (cI, 8, .inl k_one)), (a_before, .inl (cI, 12, .inl k_before)), (a_after, .inl (cI, 12, .inl k_after)), (a_values, .inl (cI, 12, .inl k_values)), (a_pathInput, .inl (cI, 64, .inl k_pathInput)), (a_pathGates, .inl (cI, 64, .inl k_pathGates))] sz [.ref a_this, .int y1, .int y2] rr [(a_this, .inr (10, [.int i_this_inputs, .int i_this_gates, .ref a_now, .ref a_one, .ref a_other, .ref a_next, .int i_this_readInputs, .int i_this_readGates, .ref a_readOne, .ref a_readOther, .ref a_readNext, .ref a_text, .int i_this_length, .int i_this_paths, .ref a_pathInput, .ref a_pathGates, .ref a_before, .ref a_after, .ref a_values, .ref a_taken, .ref a_waves, .int i_this_acts, .int i_this_turn, .ref a_row, .int i_this_seen, .ref a_seenPair, .ref a_seenTime, .ref a_seenLate, .long i_this_seed, .ref a_isKept, .ref a_kept])), (a_now, .inl (cI, 32, .inl k_now)), (a_other, .inl (cI, 8, .inl k_other)), (a_one, .inl (cI, 8, .inl k_one)), (a_before, .inl (cI, 12, .inl o_before)), (a_after, .inl (cI, 12, .inl o_after)), (a_values, .inl (cI, 12, .inl o_values)), (a_pathInput, .inl (cI, 64, .inl k_pathInput)), (a_pathGates, .inl (cI, 64, .inl k_pathGates))] := by
  refine entI (cc := cX10_tests) (maxL := 3) (own := RX10) (by decide) rfl rfl (Nat.le_of_ble_eq_true rfl) ?_
  intro p e s m args below meth c A ls Q H locs S hr hw hl hQ
  have hx := S.1.1
  have hb := S.1.2.1
  have hts := S.1.2.2.2.2
  have hl : lv_has ls 3 [(0, .ref a_this), (1, .int y1), (2, .int y2)] := hl
  have hinX10 : ∀ w ∈ u_ws RX10 TX10 31, w ∈ wsX10_tests := (fun _ h => List.mem_cons_of_mem _ (List.mem_append_right _ h))
  have F34 : FLk s args wsX10_tests RX10 34 RX10 TX10 31 10 14 := ⟨hinX10, rfl, by decide, hts (.fieldLink RX10 34 "SlowPathsModel" "pathInput" "[I") (List.mem_of_getElem? (i := 1) rfl)⟩
  have F37 : FLk s args wsX10_tests RX10 37 RX10 TX10 31 10 15 := ⟨hinX10, rfl, by decide, hts (.fieldLink RX10 37 "SlowPathsModel" "pathGates" "[I") (List.mem_of_getElem? (i := 2) rfl)⟩
  have h := hf
  rw [f_X10_tests] at h
  refine lv_aload_n hx hb dX10_tests_0 rfl (lv_at hl 0 rfl) ?_
  refine lv_iload_n hx hb dX10_tests_1 rfl (lv_at hl 1 rfl) ?_
  obtain ⟨r_1, e2_1, h⟩ := obd1_el h
  refine zr_VI (As := [.int y1]) (rest := []) (q0 := 0) S hw (c_X10_isPath l D cI cJ cZ cS H.size N a_this a_now a_one a_other a_next a_readOne a_readOther a_readNext a_text a_pathInput a_pathGates a_before a_after a_values a_taken a_waves a_row a_seenPair a_seenTime a_seenLate a_isKept a_kept i_this_inputs i_this_gates i_this_readInputs i_this_readGates i_this_length i_this_paths i_this_acts i_this_turn i_this_seen i_this_seed y1 r_1 e2_1) (cwV 1 hts gX10_tests_X10_isPath rfl rfl rfl dv_X10_isPath ⟨Nat.le_of_ble_eq_true rfl, Nat.le_of_ble_eq_true rfl⟩) [0] rfl rfl rfl rfl rfl rfl hl.1 rfl (Nat.le_of_ble_eq_true rfl) dX10_tests_2 ⟨Nat.zero_le _, Nat.zero_le _⟩ ?_
  refine lv_if_ne (tgt := 10) hx hb dX10_tests_5 (by decide) (fun hc => ?_) (fun hc => ?_)
  · replace h := if_f hc h
    refine lv_aload_n hx hb dX10_tests_10 rfl (lv_at hl 0 rfl) ?_
    refine lv_iload_n hx hb dX10_tests_11 rfl (lv_at hl 2 rfl) ?_
    obtain ⟨r_2, e12_1, h⟩ := obd1_el h
    refine zr_VI (As := [.int y2]) (rest := []) (q0 := 0) S hw (c_X10_isPair l D cI cJ cZ cS H.size N a_this a_now a_one a_other a_next a_readOne a_readOther a_readNext a_text a_pathInput a_pathGates a_before a_after a_values a_taken a_waves a_row a_seenPair a_seenTime a_seenLate a_isKept a_kept i_this_inputs i_this_gates i_this_readInputs i_this_readGates i_this_length i_this_paths i_this_acts i_this_turn i_this_seen i_this_seed y2 r_2 e12_1) (cwV 1 hts gX10_tests_X10_isPair rfl rfl rfl dv_X10_isPair ⟨Nat.le_of_ble_eq_true rfl, Nat.le_of_ble_eq_true rfl⟩) [0] rfl rfl rfl rfl rfl rfl hl.1 rfl (Nat.le_of_ble_eq_true rfl) dX10_tests_12 ⟨Nat.zero_le _, Nat.zero_le _⟩ ?_
    refine lv_if_ne (tgt := 21) hx hb dX10_tests_15 (by decide) (fun hc => ?_) (fun hc => ?_)
    · replace h := if_f hc h
      refine lv_aload_n hx hb dX10_tests_21 rfl (lv_at hl 0 rfl) ?_
      refine lv_iconst (v := (0 : Int32)) hx hb dX10_tests_22 (by decide) ?_
      refine lv_iload_n hx hb dX10_tests_23 rfl (lv_at hl 2 rfl) ?_
      obtain ⟨k_before_3, k_after_4, k_values_5, e24_1, h⟩ := obd3_el h
      refine zc_VV (As := [.int (0 : Int32), .int y2]) (rest := []) (wr := [(a_pathInput, .inl (cI, 64, .inl k_pathInput)), (a_pathGates, .inl (cI, 64, .inl k_pathGates))]) (q0 := 0) S hw (c_X10_findPair l D cI cJ cZ cS H.size N a_this a_now a_other a_one a_before a_after a_values a_next a_readOne a_readOther a_readNext a_text a_pathInput a_pathGates a_taken a_waves a_row a_seenPair a_seenTime a_seenLate a_isKept a_kept i_this_inputs i_this_gates i_this_readInputs i_this_readGates i_this_length i_this_paths i_this_acts i_this_turn i_this_seen i_this_seed k_now k_other k_one k_before k_after k_values (0 : Int32) y2 k_before_3 k_after_4 k_values_5 e24_1) (cwV 2 hts gX10_tests_X10_findPair rfl rfl rfl dv_X10_findPair ⟨Nat.le_of_ble_eq_true rfl, Nat.le_of_ble_eq_true rfl⟩) [0, 1, 2, 3, 4, 5, 6] [7, 8] rfl rfl rfl rfl (by decide) rfl rfl rfl rfl hl.1 rfl (Nat.le_of_ble_eq_true rfl) dX10_tests_24 ⟨Nat.zero_le _, Nat.zero_le _⟩ (fun H locs hw => ?_)
      refine lv_aload_n hx hb dX10_tests_27 rfl (lv_at hl 0 rfl) ?_
      refine lv_iconst (v := (0 : Int32)) hx hb dX10_tests_28 (by decide) ?_
      refine lv_aload_n hx hb dX10_tests_29 rfl (lv_at hl 0 rfl) ?_
      refine z_get S hw F34 2 rfl rfl dX10_tests_30 ?_
      refine lv_iload_n hx hb dX10_tests_33 rfl (lv_at hl 1 rfl) ?_
      obtain ⟨hg, h⟩ := grd_el h
      refine z_iald S hw 0 0 rfl rfl hg dX10_tests_34 ?_
      refine lv_aload_n hx hb dX10_tests_35 rfl (lv_at hl 0 rfl) ?_
      refine z_get S hw F37 2 rfl rfl dX10_tests_36 ?_
      refine lv_iload_n hx hb dX10_tests_39 rfl (lv_at hl 1 rfl) ?_
      obtain ⟨hg, h⟩ := grd_el h
      refine z_iald S hw 1 0 rfl rfl hg dX10_tests_40 ?_
      obtain ⟨r_6, e41_1, h⟩ := obd1_el h
      refine zr_VI (As := [.int (0 : Int32), .int (k_pathInput y1.toNatClampNeg), .int (k_pathGates y1.toNatClampNeg)]) (rest := []) (q0 := 0) S hw (c_X10_testsOf l D cI cJ cZ cS H.size N a_this a_before a_after a_now a_one a_values a_other a_next a_readOne a_readOther a_readNext a_text a_pathInput a_pathGates a_taken a_waves a_row a_seenPair a_seenTime a_seenLate a_isKept a_kept i_this_inputs i_this_gates i_this_readInputs i_this_readGates i_this_length i_this_paths i_this_acts i_this_turn i_this_seen i_this_seed k_before_3 k_after_4 k_now k_one k_values_5 k_other (0 : Int32) (k_pathInput y1.toNatClampNeg) (k_pathGates y1.toNatClampNeg) r_6 e41_1) (cwV 3 hts gX10_tests_X10_testsOf rfl rfl rfl dv_X10_testsOf ⟨Nat.le_of_ble_eq_true rfl, Nat.le_of_ble_eq_true rfl⟩) [2, 6, 7, 3, 5, 8, 4] rfl rfl rfl rfl rfl rfl hl.1 rfl (Nat.le_of_ble_eq_true rfl) dX10_tests_41 ⟨Nat.zero_le _, Nat.zero_le _⟩ ?_
      cases h
      exact z_iret S hQ hr hw [2, 3, 4, 5, 6, 7, 8, 0, 1] rfl rfl dX10_tests_44
    · replace h := if_t hc h
      refine lv_bipush (v := (-2 : Int32)) hx hb dX10_tests_18 (by decide) ?_
      cases h
      exact z_iret S hQ hr hw [0, 1, 2, 3, 4, 5, 6, 7, 8] rfl rfl dX10_tests_20
  · replace h := if_t hc h
    refine lv_iconst (v := (-1 : Int32)) hx hb dX10_tests_8 (by decide) ?_
    cases h
    exact z_iret S hQ hr hw [0, 1, 2, 3, 4, 5, 6, 7, 8] rfl rfl dX10_tests_9
