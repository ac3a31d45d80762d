abbrev rmX3_nextPattern : Room := { frames := 0, cells := 0, slots := 0, locals := 0 }
theorem dv_X3_nextPattern : yX3_nextPattern.cls = RX3 ∧ yX3_nextPattern.cls ≠ "java/lang/invoke/MethodHandle" ∧ yX3_nextPattern.cls ≠ "java/lang/invoke/VarHandle" ∧ (parseMethodDescriptor yX3_nextPattern.desc).map (fun d => d.parameters.length) = some 1 := by decide +kernel
noncomputable def f_X3_nextPattern_L4 (N : Nat) (i_p1_inputs : Int32) (k_p1_nexts : (Nat → Int32)) (k_levels_of : (Nat → Int32)) (j37_1 : Int32 → Option (Int32)) : Nat → Int32 → Int32 → Option (Int32)
  | 0, _, _ => none
  | n_4 + 1, x2_2, x3_3 =>
    (if i_p1_inputs ≤ x3_3 then (j37_1 x2_2) else (grd (inb x3_3 4) <| grd (inb (k_p1_nexts x3_3.toNatClampNeg) 18) <| bnd ((x2_2 ||| ((k_levels_of (k_p1_nexts x3_3.toNatClampNeg).toNatClampNeg) <<< (x3_3 &&& 31)))) fun (x2_4 : Int32) => bnd (x3_3 + (1 : Int32)) fun (x3_5 : Int32) => f_X3_nextPattern_L4 N i_p1_inputs k_p1_nexts k_levels_of j37_1 n_4 x2_4 x3_5))
noncomputable def f_X3_nextPattern (N : Nat)  (i_p1_inputs : Int32) (k_p1_nexts : (Nat → Int32)) (k_levels_of : (Nat → Int32)) : Option (Int32) :=
  bnd (fun (x2_1 : Int32) => (some (x2_1))) fun (j37_1 : Int32 → Option (Int32)) => f_X3_nextPattern_L4 N i_p1_inputs k_p1_nexts k_levels_of j37_1 N ((0 : Int32)) ((0 : Int32))
set_option maxHeartbeats 4000000 in
set_option maxRecDepth 100000 in
theorem c_X3_nextPattern (l : Launch) (D : va_G) (cI cJ cZ cS : ClassId) (sz N : Nat) (a_p1 a_this a_levels a_p1_nexts a_levels_of a_p1_told a_p1_lefts a_p1_rights a_p1_starts a_p1_sizes a_p1_steps a_p1_links a_sureLinks a_risers a_fallers a_captured : Nat) (i_p1_inputs : Int32) (i_p1_gates : Int32) (i_p1_paths : Int32) (i_this_madeFor : Int32) (i_levels_links : Int32) (i_levels_sureLinks : Int32) (k_p1_nexts : (Nat → Int32)) (k_levels_of : (Nat → Int32))  (rr : Int32) (hf : f_X3_nextPattern N i_p1_inputs k_p1_nexts k_levels_of = some (rr)) : MetIr l yX3_nextPattern wsX3_nextPattern rmX3_nextPattern D (tyA cI cJ cZ cS) [(a_p1, .inr (2, [.int i_p1_inputs, .int i_p1_gates, .int i_p1_paths, .ref a_p1_told, .ref a_p1_lefts, .ref a_p1_rights, .ref a_p1_nexts, .ref a_p1_starts, .ref a_p1_sizes, .ref a_p1_steps, .ref a_p1_links])), (a_this, .inr (3, [.ref a_levels, .ref a_sureLinks, .ref a_risers, .ref a_fallers, .ref a_captured, .int i_this_madeFor])), (a_levels, .inr (1, [.ref a_levels_of, .int i_levels_links, .int i_levels_sureLinks])), (a_p1_nexts, .inl (cI, 4, .inl k_p1_nexts)), (a_levels_of, .inl (cI, 18, .inl k_levels_of))] sz [.ref a_this, .ref a_p1] rr := by
  refine entIr (cc := cX3_nextPattern) (maxL := 4) (own := RX3) (by decide) rfl rfl (Nat.le_of_ble_eq_true rfl) ?_
  intro p e s m args below meth c A ls Q S hr hw hl hQ
  have hx := S.1.1
  have hb := S.1.2.1
  have hts := S.1.2.2.2.2
  have hl : lv_has ls 4 [(0, .ref a_this), (1, .ref a_p1)] := hl
  have hinX3 : ∀ w ∈ u_ws RX3 TX3 6, w ∈ wsX3_nextPattern := (fun _ h => List.mem_cons_of_mem _ (List.mem_append_left _ (List.mem_append_right _ h)))
  have F12 : FLk s args wsX3_nextPattern RX3 12 RX3 TX3 6 3 0 := ⟨hinX3, rfl, by decide, hts (.fieldLink RX3 12 "SlowPaths$PairTable" "levels" "LSlowPaths$Levels;") (List.mem_of_getElem? (i := 2) rfl)⟩
  have hinX2 : ∀ w ∈ u_ws RX2 TX2 11, w ∈ wsX3_nextPattern := (fun _ h => List.mem_cons_of_mem _ (List.mem_append_left _ (List.mem_append_left _ (List.mem_append_right _ h))))
  have F71 : FLk s args wsX3_nextPattern RX3 71 RX2 TX2 11 2 0 := ⟨hinX2, rfl, by decide, hts (.fieldLink RX3 71 "SlowPaths$Net" "inputs" "I") (List.mem_of_getElem? (i := 1) rfl)⟩
  have hinX1 : ∀ w ∈ u_ws RX1 TX1 3, w ∈ wsX3_nextPattern := (fun _ h => List.mem_cons_of_mem _ (List.mem_append_right _ h))
  have F74 : FLk s args wsX3_nextPattern RX3 74 RX1 TX1 3 1 0 := ⟨hinX1, rfl, by decide, hts (.fieldLink RX3 74 "SlowPaths$Levels" "of" "[I") (List.mem_of_getElem? (i := 3) rfl)⟩
  have F77 : FLk s args wsX3_nextPattern RX3 77 RX2 TX2 11 2 6 := ⟨hinX2, rfl, by decide, hts (.fieldLink RX3 77 "SlowPaths$Net" "nexts" "[I") (List.mem_of_getElem? (i := 4) rfl)⟩
  have h := hf
  rw [f_X3_nextPattern] at h
  refine lv_iconst (v := (0 : Int32)) hx hb dX3_nextPattern_0 (by decide) ?_
  refine lv_istore_n (lv' := [(2, .int (0 : Int32)), (0, .ref a_this), (1, .ref a_p1)]) hx hb dX3_nextPattern_1 rfl hl (by decide) rfl (fun ls hl => ?_)
  refine lv_iconst (v := (0 : Int32)) hx hb dX3_nextPattern_2 (by decide) ?_
  refine lv_istore_n (lv' := [(3, .int (0 : Int32)), (2, .int (0 : Int32)), (0, .ref a_this), (1, .ref a_p1)]) hx hb dX3_nextPattern_3 rfl hl (by decide) rfl (fun ls hl => ?_)
  obtain ⟨j37_1, ej37_1, h⟩ := bnd_ex h
  have hj37_1 : ∀ (x2_1 : Int32) (ls : Array Slot), j37_1 x2_1 = some (rr) → lv_has ls 4 [(2, .int x2_1)] → W p l e rmX3_nextPattern s m args below meth c s.heap [] 0 0 Q (F0 m 37 ls []) := by
    intro x2_1 ls h hl
    replace h := ap1 ej37_1 h
    refine lv_iload_n hx hb dX3_nextPattern_37 rfl (lv_at hl 0 rfl) ?_
    cases h
    exact z_iretr S hQ hr dX3_nextPattern_38
  have hL4_1 : ∀ (nf : Nat) (x2_2 : Int32) (x3_3 : Int32) (ls : Array Slot), f_X3_nextPattern_L4 N i_p1_inputs k_p1_nexts k_levels_of j37_1 nf x2_2 x3_3 = some (rr) → lv_has ls 4 [(0, .ref a_this), (1, .ref a_p1), (2, .int x2_2), (3, .int x3_3)] → W p l e rmX3_nextPattern s m args below meth c s.heap [] 0 0 Q (F0 m 4 ls []) := by
    intro nf
    induction nf with
    | zero =>
      intro x2_2 x3_3 ls h
      rw [f_X3_nextPattern_L4] at h
      cases h
    | succ n_4 ih_4 =>
      intro x2_2 x3_3 ls h hl
      rw [f_X3_nextPattern_L4] at h
      refine lv_iload_n hx hb dX3_nextPattern_4 rfl (lv_at hl 3 rfl) ?_
      refine lv_aload_n hx hb dX3_nextPattern_5 rfl (lv_at hl 1 rfl) ?_
      refine z_get S hw F71 0 rfl rfl dX3_nextPattern_6 ?_
      refine lv_icmp_ge (tgt := 37) hx hb dX3_nextPattern_9 (by decide) (fun hc => ?_) (fun hc => ?_)
      · replace h := if_t hc h
        exact hj37_1 x2_2 ls h (lv_sub hl [2] rfl)
      · replace h := if_f hc h
        refine lv_iload_n hx hb dX3_nextPattern_12 rfl (lv_at hl 2 rfl) ?_
        refine lv_aload_n hx hb dX3_nextPattern_13 rfl (lv_at hl 0 rfl) ?_
        refine z_get S hw F12 1 rfl rfl dX3_nextPattern_14 ?_
        refine z_get S hw F74 2 rfl rfl dX3_nextPattern_17 ?_
        refine lv_aload_n hx hb dX3_nextPattern_20 rfl (lv_at hl 1 rfl) ?_
        refine z_get S hw F77 0 rfl rfl dX3_nextPattern_21 ?_
        refine lv_iload_n hx hb dX3_nextPattern_24 rfl (lv_at hl 3 rfl) ?_
        obtain ⟨hg, h⟩ := grd_el h
        refine z_iald S hw 3 0 rfl rfl hg dX3_nextPattern_25 ?_
        obtain ⟨hg, h⟩ := grd_el h
        refine z_iald S hw 4 0 rfl rfl hg dX3_nextPattern_26 ?_
        refine lv_iload_n hx hb dX3_nextPattern_27 rfl (lv_at hl 3 rfl) ?_
        refine lv_ishl hx hb dX3_nextPattern_28 ?_
        refine lv_ior hx hb dX3_nextPattern_29 ?_
        refine lv_topi (fun x2_4 ex2_4 => ?_)
        replace h := bnd_at ex2_4 h
        refine lv_istore_n (lv' := [(2, .int x2_4), (0, .ref a_this), (1, .ref a_p1), (3, .int x3_3)]) hx hb dX3_nextPattern_30 rfl hl (by decide) rfl (fun ls hl => ?_)
        obtain ⟨x3_5, ex3_5, h⟩ := bnd_ex h
        refine lv_iinc (v := x3_5) (lv' := [(3, .int x3_5), (2, .int x2_4), (0, .ref a_this), (1, .ref a_p1)]) hx hb dX3_nextPattern_31 hl (k := 3) rfl (by rw [ex3_5]; rfl) (by decide) rfl (fun ls hl => ?_)
        refine lv_goto (tgt := 4) hx hb dX3_nextPattern_34 (by decide) ?_
        exact ih_4 x2_4 x3_5 ls h (lv_sub hl [2, 3, 1, 0] rfl)
  exact hL4_1 N ((0 : Int32)) ((0 : Int32)) ls h (lv_sub hl [2, 3, 1, 0] rfl)
abbrev rmX3_makeRow : Room := { frames := 3, cells := 0, slots := 0, locals := 71 }
theorem dv_X3_makeRow : yX3_makeRow.cls = RX3 ∧ yX3_makeRow.cls ≠ "java/lang/invoke/MethodHandle" ∧ yX3_makeRow.cls ≠ "java/lang/invoke/VarHandle" ∧ (parseMethodDescriptor yX3_makeRow.desc).map (fun d => d.parameters.length) = some 3 := by decide +kernel
noncomputable def f_X3_makeRow_L67 (N : Nat) (y3 : Int32) (i_p1_paths : Int32) (k_p1_links : (Nat → Int32)) (k_p1_starts : (Nat → Int32)) (x4_5 : Int32) (x5_6 : Int32) (k_sureLinks_10 : (Nat → Int32)) (j157_1 : (Nat → Int64) → (Nat → Int64) → Option ((Nat → Int32) × (Nat → Int64) × (Nat → Int64) × Int32 × Int32 × (Nat → Int32) × (Nat → Int32))) : Nat → Int32 → (Nat → Int64) → (Nat → Int64) → Option ((Nat → Int32) × (Nat → Int64) × (Nat → Int64) × Int32 × Int32 × (Nat → Int32) × (Nat → Int32))
  | 0, _, _, _ => none
  | n_67 + 1, x6_15, k_risers_16, k_fallers_17 =>
    (if i_p1_paths ≤ x6_15 then (j157_1 k_risers_16 k_fallers_17) else (grd (inb x6_15 55) <| obd1 (f_X3_holds N y3 (k_p1_links x6_15.toNatClampNeg) k_sureLinks_10) fun (r_18 : Int32) => bnd (fun (k_risers_19 : (Nat → Int64)) (k_fallers_20 : (Nat → Int64)) => (bnd (x6_15 + (1 : Int32)) fun (x6_21 : Int32) => f_X3_makeRow_L67 N y3 i_p1_paths k_p1_links k_p1_starts x4_5 x5_6 k_sureLinks_10 j157_1 n_67 x6_21 k_risers_19 k_fallers_20)) fun (j151_1 : (Nat → Int64) → (Nat → Int64) → Option ((Nat → Int32) × (Nat → Int64) × (Nat → Int64) × Int32 × Int32 × (Nat → Int32) × (Nat → Int32))) => (if r_18 = (0 : Int32) then (j151_1 k_risers_16 k_fallers_17) else (grd (inb y3 256) <| grd (inb x6_15 55) <| grd (inb y3 256) <| bnd (vp_updL k_risers_16 y3.toNatClampNeg ((k_risers_16 y3.toNatClampNeg) ||| (((((x5_6 &&& (x4_5 ^^^ (-1 : Int32))) >>> ((k_p1_starts x6_15.toNatClampNeg) &&& 31)) &&& (1 : Int32)).toInt64) <<< (x6_15.toInt64 &&& 63)))) fun (k_risers_22 : (Nat → Int64)) => grd (inb y3 256) <| grd (inb x6_15 55) <| grd (inb y3 256) <| bnd (vp_updL k_fallers_17 y3.toNatClampNeg ((k_fallers_17 y3.toNatClampNeg) ||| (((((x4_5 &&& (x5_6 ^^^ (-1 : Int32))) >>> ((k_p1_starts x6_15.toNatClampNeg) &&& 31)) &&& (1 : Int32)).toInt64) <<< (x6_15.toInt64 &&& 63)))) fun (k_fallers_23 : (Nat → Int64)) => j151_1 k_risers_22 k_fallers_23))))
noncomputable def f_X3_makeRow (N : Nat) (y3 : Int32) (i_p1_inputs : Int32) (i_p1_gates : Int32) (i_p1_paths : Int32) (k_p2 : (Nat → Int32)) (k_sureLinks : (Nat → Int32)) (k_risers : (Nat → Int64)) (k_fallers : (Nat → Int64)) (i_levels_links : Int32) (i_levels_sureLinks : Int32) (k_p1_lefts : (Nat → Int32)) (k_p1_rights : (Nat → Int32)) (k_p1_nexts : (Nat → Int32)) (k_captured : (Nat → Int32)) (k_p1_links : (Nat → Int32)) (k_p1_starts : (Nat → Int32)) (k_levels_of : (Nat → Int32)) : Option ((Nat → Int32) × (Nat → Int64) × (Nat → Int64) × Int32 × Int32 × (Nat → Int32) × (Nat → Int32)) :=
  grd (inb y3 256) <| bnd (upd k_sureLinks y3.toNatClampNeg (0 : Int32)) fun (k_sureLinks_1 : (Nat → Int32)) => grd (inb y3 256) <| bnd (vp_updL k_risers y3.toNatClampNeg (0 : Int64)) fun (k_risers_2 : (Nat → Int64)) => grd (inb y3 256) <| bnd (vp_updL k_fallers y3.toNatClampNeg (0 : Int64)) fun (k_fallers_3 : (Nat → Int64)) => obd1 (f_X2_hasPair N y3 i_p1_inputs) fun (r_4 : Int32) => (if r_4 = (0 : Int32) then (some (k_sureLinks_1, k_risers_2, k_fallers_3, i_levels_links, i_levels_sureLinks, k_captured, k_levels_of)) else (bnd ((y3 >>> ((4 : Int32) &&& 31))) fun (x4_5 : Int32) => bnd ((y3 &&& (15 : Int32))) fun (x5_6 : Int32) => obd3 (f_X1_settle N y3 i_p1_inputs i_p1_gates i_levels_links i_levels_sureLinks k_p2 k_p1_lefts k_levels_of k_p1_rights) fun (i_levels_links_7 : Int32) (i_levels_sureLinks_8 : Int32) (k_levels_of_9 : (Nat → Int32)) => grd (inb y3 256) <| bnd (upd k_sureLinks_1 y3.toNatClampNeg i_levels_sureLinks_8) fun (k_sureLinks_10 : (Nat → Int32)) => bnd (fun (k_risers_11 : (Nat → Int64)) (k_fallers_12 : (Nat → Int64)) => ((if x4_5 = x5_6 then (obd1 (f_X3_nextPattern N i_p1_inputs k_p1_nexts k_levels_of_9) fun (r_13 : Int32) => grd (inb x4_5 16) <| bnd (upd k_captured x4_5.toNatClampNeg r_13) fun (k_captured_14 : (Nat → Int32)) => some (k_sureLinks_10, k_risers_11, k_fallers_12, i_levels_links_7, i_levels_sureLinks_8, k_captured_14, k_levels_of_9)) else (some (k_sureLinks_10, k_risers_11, k_fallers_12, i_levels_links_7, i_levels_sureLinks_8, k_captured, k_levels_of_9))))) fun (j157_1 : (Nat → Int64) → (Nat → Int64) → Option ((Nat → Int32) × (Nat → Int64) × (Nat → Int64) × Int32 × Int32 × (Nat → Int32) × (Nat → Int32))) => f_X3_makeRow_L67 N y3 i_p1_paths k_p1_links k_p1_starts x4_5 x5_6 k_sureLinks_10 j157_1 N ((0 : Int32)) k_risers_2 k_fallers_3))
set_option maxHeartbeats 4000000 in
set_option maxRecDepth 100000 in
theorem c_X3_makeRow (l : Launch) (D : va_G) (cI cJ cZ cS : ClassId) (sz N : Nat) (a_this a_p1 a_p2 a_sureLinks a_risers a_fallers a_levels a_p1_lefts a_p1_rights a_p1_nexts a_captured a_p1_links a_p1_starts a_levels_of a_p1_told a_p1_sizes a_p1_steps : Nat) (i_this_madeFor : Int32) (i_p1_inputs : Int32) (i_p1_gates : Int32) (i_p1_paths : Int32) (k_p2 : (Nat → Int32)) (k_sureLinks : (Nat → Int32)) (k_risers : (Nat → Int64)) (k_fallers : (Nat → Int64)) (i_levels_links : Int32) (i_levels_sureLinks : Int32) (k_p1_lefts : (Nat → Int32)) (k_p1_rights : (Nat → Int32)) (k_p1_nexts : (Nat → Int32)) (k_captured : (Nat → Int32)) (k_p1_links : (Nat → Int32)) (k_p1_starts : (Nat → Int32)) (k_levels_of : (Nat → Int32)) (y3 : Int32) (o_sureLinks : (Nat → Int32)) (o_risers : (Nat → Int64)) (o_fallers : (Nat → Int64)) (o_levels_links : Int32) (o_levels_sureLinks : Int32) (o_captured : (Nat → Int32)) (o_levels_of : (Nat → Int32)) (hf : f_X3_makeRow N y3 i_p1_inputs i_p1_gates i_p1_paths k_p2 k_sureLinks k_risers k_fallers i_levels_links i_levels_sureLinks k_p1_lefts k_p1_rights k_p1_nexts k_captured k_p1_links k_p1_starts k_levels_of = some (o_sureLinks, o_risers, o_fallers, o_levels_links, o_levels_sureLinks, o_captured, o_levels_of)) : MetV l yX3_makeRow wsX3_makeRow rmX3_makeRow D (tyA cI cJ cZ cS) [(a_this, .inr (3, [.ref a_levels, .ref a_sureLinks, .ref a_risers, .ref a_fallers, .ref a_captured, .int i_this_madeFor])), (a_p1, .inr (2, [.int i_p1_inputs, .int i_p1_gates, .int i_p1_paths, .ref a_p1_told, .ref a_p1_lefts, .ref a_p1_rights, .ref a_p1_nexts, .ref a_p1_starts, .ref a_p1_sizes, .ref a_p1_steps, .ref a_p1_links])), (a_p2, .inl (cI, 8, .inl k_p2)), (a_sureLinks, .inl (cI, 256, .inl k_sureLinks)), (a_risers, .inl (cJ, 256, .inr (.inl k_risers))), (a_fallers, .inl (cJ, 256, .inr (.inl k_fallers))), (a_levels, .inr (1, [.ref a_levels_of, .int i_levels_links, .int i_levels_sureLinks])), (a_p1_lefts, .inl (cI, 8, .inl k_p1_lefts)), (a_p1_rights, .inl (cI, 8, .inl k_p1_rights)), (a_p1_nexts, .inl (cI, 4, .inl k_p1_nexts)), (a_captured, .inl (cI, 16, .inl k_captured)), (a_p1_links, .inl (cI, 55, .inl k_p1_links)), (a_p1_starts, .inl (cI, 55, .inl k_p1_starts)), (a_levels_of, .inl (cI, 18, .inl k_levels_of))] sz [.ref a_this, .ref a_p1, .ref a_p2, .int y3] [(a_this, .inr (3, [.ref a_levels, .ref a_sureLinks, .ref a_risers, .ref a_fallers, .ref a_captured, .int i_this_madeFor])), (a_p1, .inr (2, [.int i_p1_inputs, .int i_p1_gates, .int i_p1_paths, .ref a_p1_told, .ref a_p1_lefts, .ref a_p1_rights, .ref a_p1_nexts, .ref a_p1_starts, .ref a_p1_sizes, .ref a_p1_steps, .ref a_p1_links])), (a_p2, .inl (cI, 8, .inl k_p2)), (a_sureLinks, .inl (cI, 256, .inl o_sureLinks)), (a_risers, .inl (cJ, 256, .inr (.inl o_risers))), (a_fallers, .inl (cJ, 256, .inr (.inl o_fallers))), (a_levels, .inr (1, [.ref a_levels_of, .int o_levels_links, .int o_levels_sureLinks])), (a_p1_lefts, .inl (cI, 8, .inl k_p1_lefts)), (a_p1_rights, .inl (cI, 8, .inl k_p1_rights)), (a_p1_nexts, .inl (cI, 4, .inl k_p1_nexts)), (a_captured, .inl (cI, 16, .inl o_captured)), (a_p1_links, .inl (cI, 55, .inl k_p1_links)), (a_p1_starts, .inl (cI, 55, .inl k_p1_starts)), (a_levels_of, .inl (cI, 18, .inl o_levels_of))] := by
  refine entV (cc := cX3_makeRow) (maxL := 7) (own := RX3) (by decide) rfl rfl (Nat.le_of_ble_eq_true rfl) ?_
  intro p e s m args below meth c A ls Q H locs S hr hw hl hQ
  have hx := S.1.1
  have hb := S.1.2.1
  have hts := S.1.2.2.2.2
  have hl : lv_has ls 7 [(0, .ref a_this), (1, .ref a_p1), (2, .ref a_p2), (3, .int y3)] := hl
  have hinX3 : ∀ w ∈ u_ws RX3 TX3 6, w ∈ wsX3_makeRow := (fun _ h => List.mem_cons_of_mem _ (List.mem_append_left _ (List.mem_append_left _ (List.mem_append_right _ h))))
  have F12 : FLk s args wsX3_makeRow RX3 12 RX3 TX3 6 3 0 := ⟨hinX3, rfl, by decide, hts (.fieldLink RX3 12 "SlowPaths$PairTable" "levels" "LSlowPaths$Levels;") (List.mem_of_getElem? (i := 4) rfl)⟩
  have F18 : FLk s args wsX3_makeRow RX3 18 RX3 TX3 6 3 1 := ⟨hinX3, rfl, by decide, hts (.fieldLink RX3 18 "SlowPaths$PairTable" "sureLinks" "[I") (List.mem_of_getElem? (i := 1) rfl)⟩
  have F22 : FLk s args wsX3_makeRow RX3 22 RX3 TX3 6 3 2 := ⟨hinX3, rfl, by decide, hts (.fieldLink RX3 22 "SlowPaths$PairTable" "risers" "[J") (List.mem_of_getElem? (i := 2) rfl)⟩
  have F26 : FLk s args wsX3_makeRow RX3 26 RX3 TX3 6 3 3 := ⟨hinX3, rfl, by decide, hts (.fieldLink RX3 26 "SlowPaths$PairTable" "fallers" "[J") (List.mem_of_getElem? (i := 3) rfl)⟩
  have F29 : FLk s args wsX3_makeRow RX3 29 RX3 TX3 6 3 4 := ⟨hinX3, rfl, by decide, hts (.fieldLink RX3 29 "SlowPaths$PairTable" "captured" "[I") (List.mem_of_getElem? (i := 9) rfl)⟩
  have hinX1 : ∀ w ∈ u_ws RX1 TX1 3, w ∈ wsX3_makeRow := (fun _ h => List.mem_cons_of_mem _ (List.mem_append_left _ (List.mem_append_right _ h)))
  have F52 : FLk s args wsX3_makeRow RX3 52 RX1 TX1 3 1 2 := ⟨hinX1, rfl, by decide, hts (.fieldLink RX3 52 "SlowPaths$Levels" "sureLinks" "I") (List.mem_of_getElem? (i := 5) rfl)⟩
  have hinX2 : ∀ w ∈ u_ws RX2 TX2 11, w ∈ wsX3_makeRow := (fun _ h => List.mem_cons_of_mem _ (List.mem_append_right _ h))
  have F54 : FLk s args wsX3_makeRow RX3 54 RX2 TX2 11 2 2 := ⟨hinX2, rfl, by decide, hts (.fieldLink RX3 54 "SlowPaths$Net" "paths" "I") (List.mem_of_getElem? (i := 6) rfl)⟩
  have F57 : FLk s args wsX3_makeRow RX3 57 RX2 TX2 11 2 10 := ⟨hinX2, rfl, by decide, hts (.fieldLink RX3 57 "SlowPaths$Net" "links" "[I") (List.mem_of_getElem? (i := 7) rfl)⟩
  have F64 : FLk s args wsX3_makeRow RX3 64 RX2 TX2 11 2 7 := ⟨hinX2, rfl, by decide, hts (.fieldLink RX3 64 "SlowPaths$Net" "starts" "[I") (List.mem_of_getElem? (i := 8) rfl)⟩
  have h := hf
  rw [f_X3_makeRow] at h
  refine lv_aload_n hx hb dX3_makeRow_0 rfl (lv_at hl 0 rfl) ?_
  refine z_get S hw F18 0 rfl rfl dX3_makeRow_1 ?_
  refine lv_iload_n hx hb dX3_makeRow_4 rfl (lv_at hl 3 rfl) ?_
  refine lv_iconst (v := (0 : Int32)) hx hb dX3_makeRow_5 (by decide) ?_
  obtain ⟨hg, h⟩ := grd_el h
  obtain ⟨k_sureLinks_1, ek_sureLinks_1, h⟩ := bnd_ex h
  refine z_iast S hw ek_sureLinks_1 3 0 rfl rfl hg dX3_makeRow_6 (fun H locs hw => ?_)
  refine lv_aload_n hx hb dX3_makeRow_7 rfl (lv_at hl 0 rfl) ?_
  refine z_get S hw F22 0 rfl rfl dX3_makeRow_8 ?_
  refine lv_iload_n hx hb dX3_makeRow_11 rfl (lv_at hl 3 rfl) ?_
  refine lv_lconst (v := (0 : Int64)) hx hb dX3_makeRow_12 (by decide) ?_
  obtain ⟨hg, h⟩ := grd_el h
  obtain ⟨k_risers_2, ek_risers_2, h⟩ := bnd_ex h
  refine z_last S hw ek_risers_2 4 1 rfl rfl hg dX3_makeRow_13 (fun H locs hw => ?_)
  refine lv_aload_n hx hb dX3_makeRow_14 rfl (lv_at hl 0 rfl) ?_
  refine z_get S hw F26 0 rfl rfl dX3_makeRow_15 ?_
  refine lv_iload_n hx hb dX3_makeRow_18 rfl (lv_at hl 3 rfl) ?_
  refine lv_lconst (v := (0 : Int64)) hx hb dX3_makeRow_19 (by decide) ?_
  obtain ⟨hg, h⟩ := grd_el h
  obtain ⟨k_fallers_3, ek_fallers_3, h⟩ := bnd_ex h
  refine z_last S hw ek_fallers_3 5 1 rfl rfl hg dX3_makeRow_20 (fun H locs hw => ?_)
  refine lv_aload_n hx hb dX3_makeRow_21 rfl (lv_at hl 1 rfl) ?_
  refine lv_iload_n hx hb dX3_makeRow_22 rfl (lv_at hl 3 rfl) ?_
  obtain ⟨r_4, e23_1, h⟩ := obd1_el h
  refine zr_VI (As := [.int y3]) (rest := []) (q0 := 0) S hw (c_X2_hasPair l D cI cJ cZ cS H.size N a_p1 a_p1_told a_p1_lefts a_p1_rights a_p1_nexts a_p1_starts a_p1_sizes a_p1_steps a_p1_links i_p1_inputs i_p1_gates i_p1_paths y3 r_4 e23_1) (cwV 1 hts gX3_makeRow_X2_hasPair rfl rfl rfl dv_X2_hasPair ⟨Nat.le_of_ble_eq_true rfl, Nat.le_of_ble_eq_true rfl⟩) [1] rfl rfl rfl rfl rfl rfl hl.1 rfl (Nat.le_of_ble_eq_true rfl) dX3_makeRow_23 ⟨Nat.zero_le _, Nat.zero_le _⟩ ?_
  refine lv_if_ne (tgt := 30) hx hb dX3_makeRow_26 (by decide) (fun hc => ?_) (fun hc => ?_)
  · replace h := if_f hc h
    refine lv_iload_n hx hb dX3_makeRow_30 rfl (lv_at hl 3 rfl) ?_
    refine lv_iconst (v := (4 : Int32)) hx hb dX3_makeRow_31 (by decide) ?_
    refine lv_ishr hx hb dX3_makeRow_32 ?_
    refine lv_topi (fun x4_5 ex4_5 => ?_)
    replace h := bnd_at ex4_5 h
    refine lv_istore (lv' := [(4, .int x4_5), (0, .ref a_this), (1, .ref a_p1), (2, .ref a_p2), (3, .int y3)]) hx hb dX3_makeRow_33 hl (by decide) rfl (fun ls hl => ?_)
    refine lv_iload_n hx hb dX3_makeRow_35 rfl (lv_at hl 4 rfl) ?_
    refine lv_bipush (v := (15 : Int32)) hx hb dX3_makeRow_36 (by decide) ?_
    refine lv_iand hx hb dX3_makeRow_38 ?_
    refine lv_topi (fun x5_6 ex5_6 => ?_)
    replace h := bnd_at ex5_6 h
    refine lv_istore (lv' := [(5, .int x5_6), (4, .int x4_5), (0, .ref a_this), (1, .ref a_p1), (2, .ref a_p2), (3, .int y3)]) hx hb dX3_makeRow_39 hl (by decide) rfl (fun ls hl => ?_)
    refine lv_aload_n hx hb dX3_makeRow_41 rfl (lv_at hl 2 rfl) ?_
    refine z_get S hw F12 0 rfl rfl dX3_makeRow_42 ?_
    refine lv_aload_n hx hb dX3_makeRow_45 rfl (lv_at hl 3 rfl) ?_
    refine lv_aload_n hx hb dX3_makeRow_46 rfl (lv_at hl 4 rfl) ?_
    refine lv_iload_n hx hb dX3_makeRow_47 rfl (lv_at hl 5 rfl) ?_
    obtain ⟨i_levels_links_7, i_levels_sureLinks_8, k_levels_of_9, e48_1, h⟩ := obd3_el h
    refine zc_VV (As := [.ref a_p1, .ref a_p2, .int y3]) (rest := []) (wr := [(a_this, .inr (3, [.ref a_levels, .ref a_sureLinks, .ref a_risers, .ref a_fallers, .ref a_captured, .int i_this_madeFor])), (a_sureLinks, .inl (cI, 256, .inl k_sureLinks_1)), (a_risers, .inl (cJ, 256, .inr (.inl k_risers_2))), (a_fallers, .inl (cJ, 256, .inr (.inl k_fallers_3))), (a_p1_nexts, .inl (cI, 4, .inl k_p1_nexts)), (a_captured, .inl (cI, 16, .inl k_captured)), (a_p1_links, .inl (cI, 55, .inl k_p1_links)), (a_p1_starts, .inl (cI, 55, .inl k_p1_starts))]) (q0 := 1) S hw (c_X1_settle l D cI cJ cZ cS H.size N a_p1 a_levels a_p2 a_p1_lefts a_levels_of a_p1_rights a_p1_told a_p1_nexts a_p1_starts a_p1_sizes a_p1_steps a_p1_links i_p1_inputs i_p1_gates i_p1_paths i_levels_links i_levels_sureLinks k_p2 k_p1_lefts k_levels_of k_p1_rights y3 i_levels_links_7 i_levels_sureLinks_8 k_levels_of_9 e48_1) (cwV 3 hts gX3_makeRow_X1_settle rfl rfl rfl dv_X1_settle ⟨Nat.le_of_ble_eq_true rfl, Nat.le_of_ble_eq_true rfl⟩) [1, 6, 2, 7, 13, 8] [0, 3, 4, 5, 9, 10, 11, 12] rfl rfl rfl rfl (by decide) rfl rfl rfl rfl hl.1 rfl (Nat.le_of_ble_eq_true rfl) dX3_makeRow_48 ⟨Nat.zero_le _, Nat.zero_le _⟩ (fun H locs hw => ?_)
    refine lv_aload_n hx hb dX3_makeRow_51 rfl (lv_at hl 2 rfl) ?_
    refine z_get S hw F18 0 rfl rfl dX3_makeRow_52 ?_
    refine lv_iload_n hx hb dX3_makeRow_55 rfl (lv_at hl 5 rfl) ?_
    refine lv_aload_n hx hb dX3_makeRow_56 rfl (lv_at hl 2 rfl) ?_
    refine z_get S hw F12 0 rfl rfl dX3_makeRow_57 ?_
    refine z_get S hw F52 9 rfl rfl dX3_makeRow_60 ?_
    obtain ⟨hg, h⟩ := grd_el h
    obtain ⟨k_sureLinks_10, ek_sureLinks_10, h⟩ := bnd_ex h
    refine z_iast S hw ek_sureLinks_10 1 0 rfl rfl hg dX3_makeRow_63 (fun H locs hw => ?_)
    refine lv_iconst (v := (0 : Int32)) hx hb dX3_makeRow_64 (by decide) ?_
    refine lv_istore (lv' := [(6, .int (0 : Int32)), (5, .int x5_6), (4, .int x4_5), (0, .ref a_this), (1, .ref a_p1), (2, .ref a_p2), (3, .int y3)]) hx hb dX3_makeRow_65 hl (by decide) rfl (fun ls hl => ?_)
    obtain ⟨j157_1, ej157_1, h⟩ := bnd_ex h
    have hj157_1 : ∀ (k_risers_11 : (Nat → Int64)) (k_fallers_12 : (Nat → Int64)) (H : Heap) (locs : List Loc) (ls : Array Slot), j157_1 k_risers_11 k_fallers_12 = some (o_sureLinks, o_risers, o_fallers, o_levels_links, o_levels_sureLinks, o_captured, o_levels_of) → Wd D (tyA cI cJ cZ cS) A s [(a_this, .inr (3, [.ref a_levels, .ref a_sureLinks, .ref a_risers, .ref a_fallers, .ref a_captured, .int i_this_madeFor])), (a_p1, .inr (2, [.int i_p1_inputs, .int i_p1_gates, .int i_p1_paths, .ref a_p1_told, .ref a_p1_lefts, .ref a_p1_rights, .ref a_p1_nexts, .ref a_p1_starts, .ref a_p1_sizes, .ref a_p1_steps, .ref a_p1_links])), (a_p2, .inl (cI, 8, .inl k_p2)), (a_sureLinks, .inl (cI, 256, .inl k_sureLinks_10)), (a_risers, .inl (cJ, 256, .inr (.inl k_risers_11))), (a_fallers, .inl (cJ, 256, .inr (.inl k_fallers_12))), (a_levels, .inr (1, [.ref a_levels_of, .int i_levels_links_7, .int i_levels_sureLinks_8])), (a_p1_lefts, .inl (cI, 8, .inl k_p1_lefts)), (a_p1_rights, .inl (cI, 8, .inl k_p1_rights)), (a_p1_nexts, .inl (cI, 4, .inl k_p1_nexts)), (a_captured, .inl (cI, 16, .inl k_captured)), (a_p1_links, .inl (cI, 55, .inl k_p1_links)), (a_p1_starts, .inl (cI, 55, .inl k_p1_starts)), (a_levels_of, .inl (cI, 18, .inl k_levels_of_9))] H locs → lv_has ls 7 [(0, .ref a_this), (1, .ref a_p1), (4, .int x4_5), (5, .int x5_6)] → W p l e rmX3_makeRow s m args below meth c H locs 0 0 Q (F0 m 157 ls []) := by
      intro k_risers_11 k_fallers_12 H locs ls h hw hl
      replace h := ap2 ej157_1 h
      refine lv_iload hx hb dX3_makeRow_157 (lv_at hl 2 rfl) ?_
      refine lv_iload hx hb dX3_makeRow_159 (lv_at hl 3 rfl) ?_
      refine lv_icmp_ne (tgt := 176) hx hb dX3_makeRow_161 (by decide) (fun hc => ?_) (fun hc => ?_)
      · replace h := if_f hc h
        cases h
        exact z_vret S hQ hr hw [0, 1, 2, 3, 4, 5, 6, 7, 8, 9, 10, 11, 12, 13] rfl rfl dX3_makeRow_176
      · replace h := if_t hc h
        refine lv_aload_n hx hb dX3_makeRow_164 rfl (lv_at hl 0 rfl) ?_
        refine z_get S hw F29 0 rfl rfl dX3_makeRow_165 ?_
        refine lv_iload hx hb dX3_makeRow_168 (lv_at hl 2 rfl) ?_
        refine lv_aload_n hx hb dX3_makeRow_170 rfl (lv_at hl 0 rfl) ?_
        refine lv_aload_n hx hb dX3_makeRow_171 rfl (lv_at hl 1 rfl) ?_
        obtain ⟨r_13, e172_1, h⟩ := obd1_el h
        refine zr_VI (As := [.ref a_p1]) (rest := [.int x4_5, .ref a_captured]) (q0 := 1) S hw (c_X3_nextPattern l D cI cJ cZ cS H.size N a_p1 a_this a_levels a_p1_nexts a_levels_of a_p1_told a_p1_lefts a_p1_rights a_p1_starts a_p1_sizes a_p1_steps a_p1_links a_sureLinks a_risers a_fallers a_captured i_p1_inputs i_p1_gates i_p1_paths i_this_madeFor i_levels_links_7 i_levels_sureLinks_8 k_p1_nexts k_levels_of_9 r_13 e172_1) (cwV 1 hts gX3_makeRow_X3_nextPattern rfl rfl rfl dv_X3_nextPattern ⟨Nat.le_of_ble_eq_true rfl, Nat.le_of_ble_eq_true rfl⟩) [1, 0, 6, 9, 13] rfl rfl rfl rfl rfl rfl hl.1 rfl (Nat.le_of_ble_eq_true rfl) dX3_makeRow_172 ⟨Nat.zero_le _, Nat.zero_le _⟩ ?_
        obtain ⟨hg, h⟩ := grd_el h
        obtain ⟨k_captured_14, ek_captured_14, h⟩ := bnd_ex h
        refine z_iast S hw ek_captured_14 10 0 rfl rfl hg dX3_makeRow_175 (fun H locs hw => ?_)
        cases h
        exact z_vret S hQ hr hw [0, 1, 2, 3, 4, 5, 6, 7, 8, 9, 10, 11, 12, 13] rfl rfl dX3_makeRow_176
    have hL67_1 : ∀ (nf : Nat) (x6_15 : Int32) (k_risers_16 : (Nat → Int64)) (k_fallers_17 : (Nat → Int64)) (H : Heap) (locs : List Loc) (ls : Array Slot), f_X3_makeRow_L67 N y3 i_p1_paths k_p1_links k_p1_starts x4_5 x5_6 k_sureLinks_10 j157_1 nf x6_15 k_risers_16 k_fallers_17 = some (o_sureLinks, o_risers, o_fallers, o_levels_links, o_levels_sureLinks, o_captured, o_levels_of) → Wd D (tyA cI cJ cZ cS) A s [(a_this, .inr (3, [.ref a_levels, .ref a_sureLinks, .ref a_risers, .ref a_fallers, .ref a_captured, .int i_this_madeFor])), (a_p1, .inr (2, [.int i_p1_inputs, .int i_p1_gates, .int i_p1_paths, .ref a_p1_told, .ref a_p1_lefts, .ref a_p1_rights, .ref a_p1_nexts, .ref a_p1_starts, .ref a_p1_sizes, .ref a_p1_steps, .ref a_p1_links])), (a_p2, .inl (cI, 8, .inl k_p2)), (a_sureLinks, .inl (cI, 256, .inl k_sureLinks_10)), (a_risers, .inl (cJ, 256, .inr (.inl k_risers_16))), (a_fallers, .inl (cJ, 256, .inr (.inl k_fallers_17))), (a_levels, .inr (1, [.ref a_levels_of, .int i_levels_links_7, .int i_levels_sureLinks_8])), (a_p1_lefts, .inl (cI, 8, .inl k_p1_lefts)), (a_p1_rights, .inl (cI, 8, .inl k_p1_rights)), (a_p1_nexts, .inl (cI, 4, .inl k_p1_nexts)), (a_captured, .inl (cI, 16, .inl k_captured)), (a_p1_links, .inl (cI, 55, .inl k_p1_links)), (a_p1_starts, .inl (cI, 55, .inl k_p1_starts)), (a_levels_of, .inl (cI, 18, .inl k_levels_of_9))] H locs → lv_has ls 7 [(0, .ref a_this), (1, .ref a_p1), (3, .int y3), (4, .int x4_5), (5, .int x5_6), (6, .int x6_15)] → W p l e rmX3_makeRow s m args below meth c H locs 0 0 Q (F0 m 67 ls []) := by
      intro nf
      induction nf with
      | zero =>
        intro x6_15 k_risers_16 k_fallers_17 H locs ls h
        rw [f_X3_makeRow_L67] at h
        cases h
      | succ n_67 ih_67 =>
        intro x6_15 k_risers_16 k_fallers_17 H locs ls h hw hl
        rw [f_X3_makeRow_L67] at h
        refine lv_iload hx hb dX3_makeRow_67 (lv_at hl 5 rfl) ?_
        refine lv_aload_n hx hb dX3_makeRow_69 rfl (lv_at hl 1 rfl) ?_
        refine z_get S hw F54 1 rfl rfl dX3_makeRow_70 ?_
        refine lv_icmp_ge (tgt := 157) hx hb dX3_makeRow_73 (by decide) (fun hc => ?_) (fun hc => ?_)
        · replace h := if_t hc h
          exact hj157_1 k_risers_16 k_fallers_17 H locs ls h hw (lv_sub hl [0, 1, 3, 4] rfl)
        · replace h := if_f hc h
          refine lv_aload_n hx hb dX3_makeRow_76 rfl (lv_at hl 0 rfl) ?_
          refine lv_iload_n hx hb dX3_makeRow_77 rfl (lv_at hl 2 rfl) ?_
          refine lv_aload_n hx hb dX3_makeRow_78 rfl (lv_at hl 1 rfl) ?_
          refine z_get S hw F57 1 rfl rfl dX3_makeRow_79 ?_
          refine lv_iload hx hb dX3_makeRow_82 (lv_at hl 5 rfl) ?_
          obtain ⟨hg, h⟩ := grd_el h
          refine z_iald S hw 11 0 rfl rfl hg dX3_makeRow_84 ?_
          obtain ⟨r_18, e85_1, h⟩ := obd1_el h
          refine zr_VI (As := [.int y3, .int (k_p1_links x6_15.toNatClampNeg)]) (rest := []) (q0 := 0) S hw (c_X3_holds l D cI cJ cZ cS H.size N a_this a_sureLinks a_levels a_risers a_fallers a_captured i_this_madeFor k_sureLinks_10 y3 (k_p1_links x6_15.toNatClampNeg) r_18 e85_1) (cwV 2 hts gX3_makeRow_X3_holds rfl rfl rfl dv_X3_holds ⟨Nat.le_of_ble_eq_true rfl, Nat.le_of_ble_eq_true rfl⟩) [0, 3] rfl rfl rfl rfl rfl rfl hl.1 rfl (Nat.le_of_ble_eq_true rfl) dX3_makeRow_85 ⟨Nat.zero_le _, Nat.zero_le _⟩ ?_
          obtain ⟨j151_1, ej151_1, h⟩ := bnd_ex h
          have hj151_1 : ∀ (k_risers_19 : (Nat → Int64)) (k_fallers_20 : (Nat → Int64)) (H : Heap) (locs : List Loc) (ls : Array Slot), j151_1 k_risers_19 k_fallers_20 = some (o_sureLinks, o_risers, o_fallers, o_levels_links, o_levels_sureLinks, o_captured, o_levels_of) → Wd D (tyA cI cJ cZ cS) A s [(a_this, .inr (3, [.ref a_levels, .ref a_sureLinks, .ref a_risers, .ref a_fallers, .ref a_captured, .int i_this_madeFor])), (a_p1, .inr (2, [.int i_p1_inputs, .int i_p1_gates, .int i_p1_paths, .ref a_p1_told, .ref a_p1_lefts, .ref a_p1_rights, .ref a_p1_nexts, .ref a_p1_starts, .ref a_p1_sizes, .ref a_p1_steps, .ref a_p1_links])), (a_p2, .inl (cI, 8, .inl k_p2)), (a_sureLinks, .inl (cI, 256, .inl k_sureLinks_10)), (a_risers, .inl (cJ, 256, .inr (.inl k_risers_19))), (a_fallers, .inl (cJ, 256, .inr (.inl k_fallers_20))), (a_levels, .inr (1, [.ref a_levels_of, .int i_levels_links_7, .int i_levels_sureLinks_8])), (a_p1_lefts, .inl (cI, 8, .inl k_p1_lefts)), (a_p1_rights, .inl (cI, 8, .inl k_p1_rights)), (a_p1_nexts, .inl (cI, 4, .inl k_p1_nexts)), (a_captured, .inl (cI, 16, .inl k_captured)), (a_p1_links, .inl (cI, 55, .inl k_p1_links)), (a_p1_starts, .inl (cI, 55, .inl k_p1_starts)), (a_levels_of, .inl (cI, 18, .inl k_levels_of_9))] H locs → lv_has ls 7 [(0, .ref a_this), (1, .ref a_p1), (3, .int y3), (4, .int x4_5), (5, .int x5_6), (6, .int x6_15)] → W p l e rmX3_makeRow s m args below meth c H locs 0 0 Q (F0 m 151 ls []) := by
            intro k_risers_19 k_fallers_20 H locs ls h hw hl
            replace h := ap2 ej151_1 h
            obtain ⟨x6_21, ex6_21, h⟩ := bnd_ex h
            refine lv_iinc (v := x6_21) (lv' := [(6, .int x6_21), (0, .ref a_this), (1, .ref a_p1), (3, .int y3), (4, .int x4_5), (5, .int x5_6)]) hx hb dX3_makeRow_151 hl (k := 5) rfl (by rw [ex6_21]; rfl) (by decide) rfl (fun ls hl => ?_)
            refine lv_goto (tgt := 67) hx hb dX3_makeRow_154 (by decide) ?_
            exact ih_67 x6_21 k_risers_19 k_fallers_20 H locs ls h hw (lv_sub hl [1, 2, 3, 4, 5, 0] rfl)
          refine lv_if_eq (tgt := 151) hx hb dX3_makeRow_88 (by decide) (fun hc => ?_) (fun hc => ?_)
          · replace h := if_t hc h
            exact hj151_1 k_risers_16 k_fallers_17 H locs ls h hw hl
          · replace h := if_f hc h
            refine lv_aload_n hx hb dX3_makeRow_91 rfl (lv_at hl 0 rfl) ?_
            refine z_get S hw F22 0 rfl rfl dX3_makeRow_92 ?_
            refine lv_iload_n hx hb dX3_makeRow_95 rfl (lv_at hl 2 rfl) ?_
            refine lv_dup2_11 hx hb dX3_makeRow_96 rfl rfl ?_
            obtain ⟨hg, h⟩ := grd_el h
            refine z_lald S hw 4 1 rfl rfl hg dX3_makeRow_97 ?_
            refine lv_iload hx hb dX3_makeRow_98 (lv_at hl 4 rfl) ?_
            refine lv_iload hx hb dX3_makeRow_100 (lv_at hl 3 rfl) ?_
            refine lv_iconst (v := (-1 : Int32)) hx hb dX3_makeRow_102 (by decide) ?_
            refine lv_ixor hx hb dX3_makeRow_103 ?_
            refine lv_iand hx hb dX3_makeRow_104 ?_
            refine lv_aload_n hx hb dX3_makeRow_105 rfl (lv_at hl 1 rfl) ?_
            refine z_get S hw F64 1 rfl rfl dX3_makeRow_106 ?_
            refine lv_iload hx hb dX3_makeRow_109 (lv_at hl 5 rfl) ?_
            obtain ⟨hg, h⟩ := grd_el h
            refine z_iald S hw 12 0 rfl rfl hg dX3_makeRow_111 ?_
            refine lv_ishr hx hb dX3_makeRow_112 ?_
            refine lv_iconst (v := (1 : Int32)) hx hb dX3_makeRow_113 (by decide) ?_
            refine lv_iand hx hb dX3_makeRow_114 ?_
            refine lv_i2l hx hb dX3_makeRow_115 rfl ?_
            refine lv_iload hx hb dX3_makeRow_116 (lv_at hl 5 rfl) ?_
            refine lv_lshl hx hb dX3_makeRow_118 rfl ?_
            refine lv_lor hx hb dX3_makeRow_119 ?_
            obtain ⟨hg, h⟩ := grd_el h
            obtain ⟨k_risers_22, ek_risers_22, h⟩ := bnd_ex h
            refine z_last S hw ek_risers_22 4 1 rfl rfl hg dX3_makeRow_120 (fun H locs hw => ?_)
            refine lv_aload_n hx hb dX3_makeRow_121 rfl (lv_at hl 0 rfl) ?_
            refine z_get S hw F26 0 rfl rfl dX3_makeRow_122 ?_
            refine lv_iload_n hx hb dX3_makeRow_125 rfl (lv_at hl 2 rfl) ?_
            refine lv_dup2_11 hx hb dX3_makeRow_126 rfl rfl ?_
            obtain ⟨hg, h⟩ := grd_el h
            refine z_lald S hw 5 1 rfl rfl hg dX3_makeRow_127 ?_
            refine lv_iload hx hb dX3_makeRow_128 (lv_at hl 3 rfl) ?_
            refine lv_iload hx hb dX3_makeRow_130 (lv_at hl 4 rfl) ?_
            refine lv_iconst (v := (-1 : Int32)) hx hb dX3_makeRow_132 (by decide) ?_
            refine lv_ixor hx hb dX3_makeRow_133 ?_
            refine lv_iand hx hb dX3_makeRow_134 ?_
            refine lv_aload_n hx hb dX3_makeRow_135 rfl (lv_at hl 1 rfl) ?_
            refine z_get S hw F64 1 rfl rfl dX3_makeRow_136 ?_
            refine lv_iload hx hb dX3_makeRow_139 (lv_at hl 5 rfl) ?_
            obtain ⟨hg, h⟩ := grd_el h
            refine z_iald S hw 12 0 rfl rfl hg dX3_makeRow_141 ?_
            refine lv_ishr hx hb dX3_makeRow_142 ?_
            refine lv_iconst (v := (1 : Int32)) hx hb dX3_makeRow_143 (by decide) ?_
            refine lv_iand hx hb dX3_makeRow_144 ?_
            refine lv_i2l hx hb dX3_makeRow_145 rfl ?_
            refine lv_iload hx hb dX3_makeRow_146 (lv_at hl 5 rfl) ?_
            refine lv_lshl hx hb dX3_makeRow_148 rfl ?_
            refine lv_lor hx hb dX3_makeRow_149 ?_
            obtain ⟨hg, h⟩ := grd_el h
            obtain ⟨k_fallers_23, ek_fallers_23, h⟩ := bnd_ex h
            refine z_last S hw ek_fallers_23 5 1 rfl rfl hg dX3_makeRow_150 (fun H locs hw => ?_)
            exact hj151_1 k_risers_22 k_fallers_23 H locs ls h hw hl
    exact hL67_1 N ((0 : Int32)) k_risers_2 k_fallers_3 H locs ls h (hw.sub [0, 8, 10, 1, 2, 3, 9, 11, 13, 4, 5, 6, 7, 12] rfl rfl) (lv_sub hl [3, 4, 6, 2, 1, 0] rfl)
  · replace h := if_t hc h
    cases h
    exact z_vret S hQ hr hw [0, 1, 2, 3, 4, 5, 6, 7, 8, 9, 10, 11, 12, 13] rfl rfl dX3_makeRow_29
abbrev rmX3_fitTo : Room := { frames := 4, cells := 0, slots := 0, locals := 97 }
theorem dv_X3_fitTo : yX3_fitTo.cls = RX3 ∧ yX3_fitTo.cls ≠ "java/lang/invoke/MethodHandle" ∧ yX3_fitTo.cls ≠ "java/lang/invoke/VarHandle" ∧ (parseMethodDescriptor yX3_fitTo.desc).map (fun d => d.parameters.length) = some 2 := by decide +kernel
noncomputable def f_X3_fitTo_L49 (N : Nat) (i_p1_inputs : Int32) (i_p1_gates : Int32) (i_p1_paths : Int32) (k_p2 : (Nat → Int32)) (k_p1_lefts : (Nat → Int32)) (k_p1_rights : (Nat → Int32)) (k_p1_nexts : (Nat → Int32)) (k_p1_links : (Nat → Int32)) (k_p1_starts : (Nat → Int32)) (j71_1 : Int32 → Int32 → (Nat → Int32) → (Nat → Int64) → (Nat → Int64) → (Nat → Int32) → (Nat → Int32) → Option (Int32 × Int32 × Int32 × (Nat → Int32) × (Nat → Int64) × (Nat → Int64) × (Nat → Int32) × (Nat → Int32))) : Nat → Int32 → Int32 → Int32 → (Nat → Int32) → (Nat → Int64) → (Nat → Int64) → (Nat → Int32) → (Nat → Int32) → Option (Int32 × Int32 × Int32 × (Nat → Int32) × (Nat → Int64) × (Nat → Int64) × (Nat → Int32) × (Nat → Int32))
  | 0, _, _, _, _, _, _, _, _ => none
  | n_49 + 1, x4_9, i_levels_links_10, i_levels_sureLinks_11, k_sureLinks_12, k_risers_13, k_fallers_14, k_captured_15, k_levels_of_16 =>
    (if (256 : Int32) ≤ x4_9 then (j71_1 i_levels_links_10 i_levels_sureLinks_11 k_sureLinks_12 k_risers_13 k_fallers_14 k_captured_15 k_levels_of_16) else (obd7 (f_X3_makeRow N x4_9 i_p1_inputs i_p1_gates i_p1_paths k_p2 k_sureLinks_12 k_risers_13 k_fallers_14 i_levels_links_10 i_levels_sureLinks_11 k_p1_lefts k_p1_rights k_p1_nexts k_captured_15 k_p1_links k_p1_starts k_levels_of_16) fun (k_sureLinks_17 : (Nat → Int32)) (k_risers_18 : (Nat → Int64)) (k_fallers_19 : (Nat → Int64)) (i_levels_links_20 : Int32) (i_levels_sureLinks_21 : Int32) (k_captured_22 : (Nat → Int32)) (k_levels_of_23 : (Nat → Int32)) => bnd (x4_9 + (1 : Int32)) fun (x4_24 : Int32) => f_X3_fitTo_L49 N i_p1_inputs i_p1_gates i_p1_paths k_p2 k_p1_lefts k_p1_rights k_p1_nexts k_p1_links k_p1_starts j71_1 n_49 x4_24 i_levels_links_20 i_levels_sureLinks_21 k_sureLinks_17 k_risers_18 k_fallers_19 k_captured_22 k_levels_of_23))
noncomputable def f_X3_fitTo_L5 (N : Nat) (i_p1_gates : Int32) (k_p2 : (Nat → Int32)) (j32_1 : Int32 → Option (Int32 × Int32 × Int32 × (Nat → Int32) × (Nat → Int64) × (Nat → Int64) × (Nat → Int32) × (Nat → Int32))) : Nat → Int32 → Int32 → Option (Int32 × Int32 × Int32 × (Nat → Int32) × (Nat → Int64) × (Nat → Int64) × (Nat → Int32) × (Nat → Int32))
  | 0, _, _ => none
  | n_5 + 1, x3_25, x4_26 =>
    (if i_p1_gates ≤ x4_26 then (j32_1 x3_25) else (grd (inb x4_26 8) <| bnd ((x3_25 ||| ((k_p2 x4_26.toNatClampNeg) <<< (((3 : Int32) * x4_26) &&& 31)))) fun (x3_27 : Int32) => bnd (x4_26 + (1 : Int32)) fun (x4_28 : Int32) => f_X3_fitTo_L5 N i_p1_gates k_p2 j32_1 n_5 x3_27 x4_28))
noncomputable def f_X3_fitTo (N : Nat)  (i_p1_inputs : Int32) (i_p1_gates : Int32) (i_p1_paths : Int32) (i_this_madeFor : Int32) (k_p2 : (Nat → Int32)) (i_levels_links : Int32) (i_levels_sureLinks : Int32) (k_sureLinks : (Nat → Int32)) (k_risers : (Nat → Int64)) (k_fallers : (Nat → Int64)) (k_p1_lefts : (Nat → Int32)) (k_p1_rights : (Nat → Int32)) (k_p1_nexts : (Nat → Int32)) (k_captured : (Nat → Int32)) (k_p1_links : (Nat → Int32)) (k_p1_starts : (Nat → Int32)) (k_levels_of : (Nat → Int32)) : Option (Int32 × Int32 × Int32 × (Nat → Int32) × (Nat → Int64) × (Nat → Int64) × (Nat → Int32) × (Nat → Int32)) :=
  bnd (fun (x3_1 : Int32) => ((if x3_1 = i_this_madeFor then (some (i_this_madeFor, i_levels_links, i_levels_sureLinks, k_sureLinks, k_risers, k_fallers, k_captured, k_levels_of)) else (bnd (fun (i_levels_links_2 : Int32) (i_levels_sureLinks_3 : Int32) (k_sureLinks_4 : (Nat → Int32)) (k_risers_5 : (Nat → Int64)) (k_fallers_6 : (Nat → Int64)) (k_captured_7 : (Nat → Int32)) (k_levels_of_8 : (Nat → Int32)) => (some (x3_1, i_levels_links_2, i_levels_sureLinks_3, k_sureLinks_4, k_risers_5, k_fallers_6, k_captured_7, k_levels_of_8))) fun (j71_1 : Int32 → Int32 → (Nat → Int32) → (Nat → Int64) → (Nat → Int64) → (Nat → Int32) → (Nat → Int32) → Option (Int32 × Int32 × Int32 × (Nat → Int32) × (Nat → Int64) × (Nat → Int64) × (Nat → Int32) × (Nat → Int32))) => f_X3_fitTo_L49 N i_p1_inputs i_p1_gates i_p1_paths k_p2 k_p1_lefts k_p1_rights k_p1_nexts k_p1_links k_p1_starts j71_1 N ((0 : Int32)) i_levels_links i_levels_sureLinks k_sureLinks k_risers k_fallers k_captured k_levels_of)))) fun (j32_1 : Int32 → Option (Int32 × Int32 × Int32 × (Nat → Int32) × (Nat → Int64) × (Nat → Int64) × (Nat → Int32) × (Nat → Int32))) => f_X3_fitTo_L5 N i_p1_gates k_p2 j32_1 N ((0 : Int32)) ((0 : Int32))
set_option maxHeartbeats 4000000 in
set_option maxRecDepth 100000 in
theorem c_X3_fitTo (l : Launch) (D : va_G) (cI cJ cZ cS : ClassId) (sz N : Nat) (a_p1 a_this a_p2 a_levels a_sureLinks a_risers a_fallers a_p1_lefts a_p1_rights a_p1_nexts a_captured a_p1_links a_p1_starts a_levels_of a_p1_told a_p1_sizes a_p1_steps : Nat) (i_p1_inputs : Int32) (i_p1_gates : Int32) (i_p1_paths : Int32) (i_this_madeFor : Int32) (k_p2 : (Nat → Int32)) (i_levels_links : Int32) (i_levels_sureLinks : Int32) (k_sureLinks : (Nat → Int32)) (k_risers : (Nat → Int64)) (k_fallers : (Nat → Int64)) (k_p1_lefts : (Nat → Int32)) (k_p1_rights : (Nat → Int32)) (k_p1_nexts : (Nat → Int32)) (k_captured : (Nat → Int32)) (k_p1_links : (Nat → Int32)) (k_p1_starts : (Nat → Int32)) (k_levels_of : (Nat → Int32))  (o_this_madeFor : Int32) (o_levels_links : Int32) (o_levels_sureLinks : Int32) (o_sureLinks : (Nat → Int32)) (o_risers : (Nat → Int64)) (o_fallers : (Nat → Int64)) (o_captured : (Nat → Int32)) (o_levels_of : (Nat → Int32)) (hf : f_X3_fitTo N i_p1_inputs i_p1_gates i_p1_paths i_this_madeFor k_p2 i_levels_links i_levels_sureLinks k_sureLinks k_risers k_fallers k_p1_lefts k_p1_rights k_p1_nexts k_captured k_p1_links k_p1_starts k_levels_of = some (o_this_madeFor, o_levels_links, o_levels_sureLinks, o_sureLinks, o_risers, o_fallers, o_captured, o_levels_of)) : MetV l yX3_fitTo wsX3_fitTo rmX3_fitTo D (tyA cI cJ cZ cS) [(a_p1, .inr (2, [.int i_p1_inputs, .int i_p1_gates, .int i_p1_paths, .ref a_p1_told, .ref a_p1_lefts, .ref a_p1_rights, .ref a_p1_nexts, .ref a_p1_starts, .ref a_p1_sizes, .ref a_p1_steps, .ref a_p1_links])), (a_this, .inr (3, [.ref a_levels, .ref a_sureLinks, .ref a_risers, .ref a_fallers, .ref a_captured, .int i_this_madeFor])), (a_p2, .inl (cI, 8, .inl k_p2)), (a_levels, .inr (1, [.ref a_levels_of, .int i_levels_links, .int i_levels_sureLinks])), (a_sureLinks, .inl (cI, 256, .inl k_sureLinks)), (a_risers, .inl (cJ, 256, .inr (.inl k_risers))), (a_fallers, .inl (cJ, 256, .inr (.inl k_fallers))), (a_p1_lefts, .inl (cI, 8, .inl k_p1_lefts)), (a_p1_rights, .inl (cI, 8, .inl k_p1_rights)), (a_p1_nexts, .inl (cI, 4, .inl k_p1_nexts)), (a_captured, .inl (cI, 16, .inl k_captured)), (a_p1_links, .inl (cI, 55, .inl k_p1_links)), (a_p1_starts, .inl (cI, 55, .inl k_p1_starts)), (a_levels_of, .inl (cI, 18, .inl k_levels_of))] sz [.ref a_this, .ref a_p1, .ref a_p2] [(a_p1, .inr (2, [.int i_p1_inputs, .int i_p1_gates, .int i_p1_paths, .ref a_p1_told, .ref a_p1_lefts, .ref a_p1_rights, .ref a_p1_nexts, .ref a_p1_starts, .ref a_p1_sizes, .ref a_p1_steps, .ref a_p1_links])), (a_this, .inr (3, [.ref a_levels, .ref a_sureLinks, .ref a_risers, .ref a_fallers, .ref a_captured, .int o_this_madeFor])), (a_p2, .inl (cI, 8, .inl k_p2)), (a_levels, .inr (1, [.ref a_levels_of, .int o_levels_links, .int o_levels_sureLinks])), (a_sureLinks, .inl (cI, 256, .inl o_sureLinks)), (a_risers, .inl (cJ, 256, .inr (.inl o_risers))), (a_fallers, .inl (cJ, 256, .inr (.inl o_fallers))), (a_p1_lefts, .inl (cI, 8, .inl k_p1_lefts)), (a_p1_rights, .inl (cI, 8, .inl k_p1_rights)), (a_p1_nexts, .inl (cI, 4, .inl k_p1_nexts)), (a_captured, .inl (cI, 16, .inl o_captured)), (a_p1_links, .inl (cI, 55, .inl k_p1_links)), (a_p1_starts, .inl (cI, 55, .inl k_p1_starts)), (a_levels_of, .inl (cI, 18, .inl o_levels_of))] := by
  refine entV (cc := cX3_fitTo) (maxL := 5) (own := RX3) (by decide) rfl rfl (Nat.le_of_ble_eq_true rfl) ?_
  intro p e s m args below meth c A ls Q H locs S hr hw hl hQ
  have hx := S.1.1
  have hb := S.1.2.1
  have hts := S.1.2.2.2.2
  have hl : lv_has ls 5 [(0, .ref a_this), (1, .ref a_p1), (2, .ref a_p2)] := hl
  have hinX3 : ∀ w ∈ u_ws RX3 TX3 6, w ∈ wsX3_fitTo := (fun _ h => List.mem_cons_of_mem _ (List.mem_append_left _ (List.mem_append_right _ h)))
  have F32 : FLk s args wsX3_fitTo RX3 32 RX3 TX3 6 3 5 := ⟨hinX3, rfl, by decide, hts (.fieldLink RX3 32 "SlowPaths$PairTable" "madeFor" "I") (List.mem_of_getElem? (i := 2) rfl)⟩
  have hinX2 : ∀ w ∈ u_ws RX2 TX2 11, w ∈ wsX3_fitTo := (fun _ h => List.mem_cons_of_mem _ (List.mem_append_left _ (List.mem_append_left _ (List.mem_append_right _ h))))
  have F36 : FLk s args wsX3_fitTo RX3 36 RX2 TX2 11 2 1 := ⟨hinX2, rfl, by decide, hts (.fieldLink RX3 36 "SlowPaths$Net" "gates" "I") (List.mem_of_getElem? (i := 1) rfl)⟩
  have P32 : PLk TX3 6 5 tyX3 false .int := ⟨tyX3_ok, nmX3, rfl, rfl⟩
  have h := hf
  rw [f_X3_fitTo] at h
  refine lv_iconst (v := (0 : Int32)) hx hb dX3_fitTo_0 (by decide) ?_
  refine lv_istore_n (lv' := [(3, .int (0 : Int32)), (0, .ref a_this), (1, .ref a_p1), (2, .ref a_p2)]) hx hb dX3_fitTo_1 rfl hl (by decide) rfl (fun ls hl => ?_)
  refine lv_iconst (v := (0 : Int32)) hx hb dX3_fitTo_2 (by decide) ?_
  refine lv_istore (lv' := [(4, .int (0 : Int32)), (3, .int (0 : Int32)), (0, .ref a_this), (1, .ref a_p1), (2, .ref a_p2)]) hx hb dX3_fitTo_3 hl (by decide) rfl (fun ls hl => ?_)
  obtain ⟨j32_1, ej32_1, h⟩ := bnd_ex h
  have hj32_1 : ∀ (x3_1 : Int32) (H : Heap) (locs : List Loc) (ls : Array Slot), j32_1 x3_1 = some (o_this_madeFor, o_levels_links, o_levels_sureLinks, o_sureLinks, o_risers, o_fallers, o_captured, o_levels_of) → Wd D (tyA cI cJ cZ cS) A s [(a_p1, .inr (2, [.int i_p1_inputs, .int i_p1_gates, .int i_p1_paths, .ref a_p1_told, .ref a_p1_lefts, .ref a_p1_rights, .ref a_p1_nexts, .ref a_p1_starts, .ref a_p1_sizes, .ref a_p1_steps, .ref a_p1_links])), (a_this, .inr (3, [.ref a_levels, .ref a_sureLinks, .ref a_risers, .ref a_fallers, .ref a_captured, .int i_this_madeFor])), (a_p2, .inl (cI, 8, .inl k_p2)), (a_levels, .inr (1, [.ref a_levels_of, .int i_levels_links, .int i_levels_sureLinks])), (a_sureLinks, .inl (cI, 256, .inl k_sureLinks)), (a_risers, .inl (cJ, 256, .inr (.inl k_risers))), (a_fallers, .inl (cJ, 256, .inr (.inl k_fallers))), (a_p1_lefts, .inl (cI, 8, .inl k_p1_lefts)), (a_p1_rights, .inl (cI, 8, .inl k_p1_rights)), (a_p1_nexts, .inl (cI, 4, .inl k_p1_nexts)), (a_captured, .inl (cI, 16, .inl k_captured)), (a_p1_links, .inl (cI, 55, .inl k_p1_links)), (a_p1_starts, .inl (cI, 55, .inl k_p1_starts)), (a_levels_of, .inl (cI, 18, .inl k_levels_of))] H locs → lv_has ls 5 [(0, .ref a_this), (1, .ref a_p1), (2, .ref a_p2), (3, .int x3_1)] → W p l e rmX3_fitTo s m args below meth c H locs 0 0 Q (F0 m 32 ls []) := by
    intro x3_1 H locs ls h hw hl
    replace h := ap1 ej32_1 h
    refine lv_iload_n hx hb dX3_fitTo_32 rfl (lv_at hl 3 rfl) ?_
    refine lv_aload_n hx hb dX3_fitTo_33 rfl (lv_at hl 0 rfl) ?_
    refine z_get S hw F32 1 rfl rfl dX3_fitTo_34 ?_
    refine lv_icmp_ne (tgt := 41) hx hb dX3_fitTo_37 (by decide) (fun hc => ?_) (fun hc => ?_)
    · replace h := if_f hc h
      refine lv_aload_n hx hb dX3_fitTo_41 rfl (lv_at hl 0 rfl) ?_
      refine lv_iload_n hx hb dX3_fitTo_42 rfl (lv_at hl 3 rfl) ?_
      refine z_put S hw F32 P32 rfl rfl 1 rfl (Nat.le_of_ble_eq_true rfl) dX3_fitTo_43 (fun H locs hw => ?_)
      refine lv_iconst (v := (0 : Int32)) hx hb dX3_fitTo_46 (by decide) ?_
      refine lv_istore (lv' := [(4, .int (0 : Int32)), (0, .ref a_this), (1, .ref a_p1), (2, .ref a_p2), (3, .int x3_1)]) hx hb dX3_fitTo_47 hl (by decide) rfl (fun ls hl => ?_)
      obtain ⟨j71_1, ej71_1, h⟩ := bnd_ex h
      have hj71_1 : ∀ (i_levels_links_2 : Int32) (i_levels_sureLinks_3 : Int32) (k_sureLinks_4 : (Nat → Int32)) (k_risers_5 : (Nat → Int64)) (k_fallers_6 : (Nat → Int64)) (k_captured_7 : (Nat → Int32)) (k_levels_of_8 : (Nat → Int32)) (H : Heap) (locs : List Loc) (ls : Array Slot), j71_1 i_levels_links_2 i_levels_sureLinks_3 k_sureLinks_4 k_risers_5 k_fallers_6 k_captured_7 k_levels_of_8 = some (o_this_madeFor, o_levels_links, o_levels_sureLinks, o_sureLinks, o_risers, o_fallers, o_captured, o_levels_of) → Wd D (tyA cI cJ cZ cS) A s [(a_p1, .inr (2, [.int i_p1_inputs, .int i_p1_gates, .int i_p1_paths, .ref a_p1_told, .ref a_p1_lefts, .ref a_p1_rights, .ref a_p1_nexts, .ref a_p1_starts, .ref a_p1_sizes, .ref a_p1_steps, .ref a_p1_links])), (a_this, .inr (3, [.ref a_levels, .ref a_sureLinks, .ref a_risers, .ref a_fallers, .ref a_captured, .int x3_1])), (a_p2, .inl (cI, 8, .inl k_p2)), (a_levels, .inr (1, [.ref a_levels_of, .int i_levels_links_2, .int i_levels_sureLinks_3])), (a_sureLinks, .inl (cI, 256, .inl k_sureLinks_4)), (a_risers, .inl (cJ, 256, .inr (.inl k_risers_5))), (a_fallers, .inl (cJ, 256, .inr (.inl k_fallers_6))), (a_p1_lefts, .inl (cI, 8, .inl k_p1_lefts)), (a_p1_rights, .inl (cI, 8, .inl k_p1_rights)), (a_p1_nexts, .inl (cI, 4, .inl k_p1_nexts)), (a_captured, .inl (cI, 16, .inl k_captured_7)), (a_p1_links, .inl (cI, 55, .inl k_p1_links)), (a_p1_starts, .inl (cI, 55, .inl k_p1_starts)), (a_levels_of, .inl (cI, 18, .inl k_levels_of_8))] H locs → lv_has ls 5 [] → W p l e rmX3_fitTo s m args below meth c H locs 0 0 Q (F0 m 71 ls []) := by
        intro i_levels_links_2 i_levels_sureLinks_3 k_sureLinks_4 k_risers_5 k_fallers_6 k_captured_7 k_levels_of_8 H locs ls h hw hl
        replace h := ap7 ej71_1 h
        cases h
        exact z_vret S hQ hr hw [0, 1, 2, 3, 4, 5, 6, 7, 8, 9, 10, 11, 12, 13] rfl rfl dX3_fitTo_71
      have hL49_1 : ∀ (nf : Nat) (x4_9 : Int32) (i_levels_links_10 : Int32) (i_levels_sureLinks_11 : Int32) (k_sureLinks_12 : (Nat → Int32)) (k_risers_13 : (Nat → Int64)) (k_fallers_14 : (Nat → Int64)) (k_captured_15 : (Nat → Int32)) (k_levels_of_16 : (Nat → Int32)) (H : Heap) (locs : List Loc) (ls : Array Slot), f_X3_fitTo_L49 N i_p1_inputs i_p1_gates i_p1_paths k_p2 k_p1_lefts k_p1_rights k_p1_nexts k_p1_links k_p1_starts j71_1 nf x4_9 i_levels_links_10 i_levels_sureLinks_11 k_sureLinks_12 k_risers_13 k_fallers_14 k_captured_15 k_levels_of_16 = some (o_this_madeFor, o_levels_links, o_levels_sureLinks, o_sureLinks, o_risers, o_fallers, o_captured, o_levels_of) → Wd D (tyA cI cJ cZ cS) A s [(a_p1, .inr (2, [.int i_p1_inputs, .int i_p1_gates, .int i_p1_paths, .ref a_p1_told, .ref a_p1_lefts, .ref a_p1_rights, .ref a_p1_nexts, .ref a_p1_starts, .ref a_p1_sizes, .ref a_p1_steps, .ref a_p1_links])), (a_this, .inr (3, [.ref a_levels, .ref a_sureLinks, .ref a_risers, .ref a_fallers, .ref a_captured, .int x3_1])), (a_p2, .inl (cI, 8, .inl k_p2)), (a_levels, .inr (1, [.ref a_levels_of, .int i_levels_links_10, .int i_levels_sureLinks_11])), (a_sureLinks, .inl (cI, 256, .inl k_sureLinks_12)), (a_risers, .inl (cJ, 256, .inr (.inl k_risers_13))), (a_fallers, .inl (cJ, 256, .inr (.inl k_fallers_14))), (a_p1_lefts, .inl (cI, 8, .inl k_p1_lefts)), (a_p1_rights, .inl (cI, 8, .inl k_p1_rights)), (a_p1_nexts, .inl (cI, 4, .inl k_p1_nexts)), (a_captured, .inl (cI, 16, .inl k_captured_15)), (a_p1_links, .inl (cI, 55, .inl k_p1_links)), (a_p1_starts, .inl (cI, 55, .inl k_p1_starts)), (a_levels_of, .inl (cI, 18, .inl k_levels_of_16))] H locs → lv_has ls 5 [(0, .ref a_this), (1, .ref a_p1), (2, .ref a_p2), (4, .int x4_9)] → W p l e rmX3_fitTo s m args below meth c H locs 0 0 Q (F0 m 49 ls []) := by
        intro nf
        induction nf with
        | zero =>
          intro x4_9 i_levels_links_10 i_levels_sureLinks_11 k_sureLinks_12 k_risers_13 k_fallers_14 k_captured_15 k_levels_of_16 H locs ls h
          rw [f_X3_fitTo_L49] at h
          cases h
        | succ n_49 ih_49 =>
          intro x4_9 i_levels_links_10 i_levels_sureLinks_11 k_sureLinks_12 k_risers_13 k_fallers_14 k_captured_15 k_levels_of_16 H locs ls h hw hl
          rw [f_X3_fitTo_L49] at h
          refine lv_iload hx hb dX3_fitTo_49 (lv_at hl 3 rfl) ?_
          refine lv_sipush (v := (256 : Int32)) hx hb dX3_fitTo_51 (by decide) ?_
          refine lv_icmp_ge (tgt := 71) hx hb dX3_fitTo_54 (by decide) (fun hc => ?_) (fun hc => ?_)
          · replace h := if_t hc h
            exact hj71_1 i_levels_links_10 i_levels_sureLinks_11 k_sureLinks_12 k_risers_13 k_fallers_14 k_captured_15 k_levels_of_16 H locs ls h hw (lv_sub hl [] rfl)
          · replace h := if_f hc h
            refine lv_aload_n hx hb dX3_fitTo_57 rfl (lv_at hl 0 rfl) ?_
            refine lv_aload_n hx hb dX3_fitTo_58 rfl (lv_at hl 1 rfl) ?_
            refine lv_aload_n hx hb dX3_fitTo_59 rfl (lv_at hl 2 rfl) ?_
            refine lv_iload hx hb dX3_fitTo_60 (lv_at hl 3 rfl) ?_
            obtain ⟨k_sureLinks_17, k_risers_18, k_fallers_19, i_levels_links_20, i_levels_sureLinks_21, k_captured_22, k_levels_of_23, e62_1, h⟩ := obd7_el h
            refine zc_VV (As := [.ref a_p1, .ref a_p2, .int x4_9]) (rest := []) (wr := []) (q0 := 0) S hw (c_X3_makeRow l D cI cJ cZ cS H.size N a_this a_p1 a_p2 a_sureLinks a_risers a_fallers a_levels a_p1_lefts a_p1_rights a_p1_nexts a_captured a_p1_links a_p1_starts a_levels_of a_p1_told a_p1_sizes a_p1_steps x3_1 i_p1_inputs i_p1_gates i_p1_paths k_p2 k_sureLinks_12 k_risers_13 k_fallers_14 i_levels_links_10 i_levels_sureLinks_11 k_p1_lefts k_p1_rights k_p1_nexts k_captured_15 k_p1_links k_p1_starts k_levels_of_16 x4_9 k_sureLinks_17 k_risers_18 k_fallers_19 i_levels_links_20 i_levels_sureLinks_21 k_captured_22 k_levels_of_23 e62_1) (cwV 3 hts gX3_fitTo_X3_makeRow rfl rfl rfl dv_X3_makeRow ⟨Nat.le_of_ble_eq_true rfl, Nat.le_of_ble_eq_true rfl⟩) [1, 0, 2, 4, 5, 6, 3, 7, 8, 9, 10, 11, 12, 13] [] rfl rfl rfl rfl (by decide) rfl rfl rfl rfl hl.1 rfl (Nat.le_of_ble_eq_true rfl) dX3_fitTo_62 ⟨Nat.zero_le _, Nat.zero_le _⟩ (fun H locs hw => ?_)
            obtain ⟨x4_24, ex4_24, h⟩ := bnd_ex h
            refine lv_iinc (v := x4_24) (lv' := [(4, .int x4_24), (0, .ref a_this), (1, .ref a_p1), (2, .ref a_p2)]) hx hb dX3_fitTo_65 hl (k := 3) rfl (by rw [ex4_24]; rfl) (by decide) rfl (fun ls hl => ?_)
            refine lv_goto (tgt := 49) hx hb dX3_fitTo_68 (by decide) ?_
            exact ih_49 x4_24 i_levels_links_20 i_levels_sureLinks_21 k_sureLinks_17 k_risers_18 k_fallers_19 k_captured_22 k_levels_of_23 H locs ls h (hw.sub [1, 0, 2, 6, 3, 4, 5, 7, 8, 9, 10, 11, 12, 13] rfl rfl) (lv_sub hl [1, 2, 3, 0] rfl)
      exact hL49_1 N ((0 : Int32)) i_levels_links i_levels_sureLinks k_sureLinks k_risers k_fallers k_captured k_levels_of H locs ls h hw (lv_sub hl [1, 2, 3, 0] rfl)
    · replace h := if_t hc h
      cases h
      exact z_vret S hQ hr hw [0, 1, 2, 3, 4, 5, 6, 7, 8, 9, 10, 11, 12, 13] rfl rfl dX3_fitTo_40
  have hL5_1 : ∀ (nf : Nat) (x3_25 : Int32) (x4_26 : Int32) (H : Heap) (locs : List Loc) (ls : Array Slot), f_X3_fitTo_L5 N i_p1_gates k_p2 j32_1 nf x3_25 x4_26 = some (o_this_madeFor, o_levels_links, o_levels_sureLinks, o_sureLinks, o_risers, o_fallers, o_captured, o_levels_of) → Wd D (tyA cI cJ cZ cS) A s [(a_p1, .inr (2, [.int i_p1_inputs, .int i_p1_gates, .int i_p1_paths, .ref a_p1_told, .ref a_p1_lefts, .ref a_p1_rights, .ref a_p1_nexts, .ref a_p1_starts, .ref a_p1_sizes, .ref a_p1_steps, .ref a_p1_links])), (a_this, .inr (3, [.ref a_levels, .ref a_sureLinks, .ref a_risers, .ref a_fallers, .ref a_captured, .int i_this_madeFor])), (a_p2, .inl (cI, 8, .inl k_p2)), (a_levels, .inr (1, [.ref a_levels_of, .int i_levels_links, .int i_levels_sureLinks])), (a_sureLinks, .inl (cI, 256, .inl k_sureLinks)), (a_risers, .inl (cJ, 256, .inr (.inl k_risers))), (a_fallers, .inl (cJ, 256, .inr (.inl k_fallers))), (a_p1_lefts, .inl (cI, 8, .inl k_p1_lefts)), (a_p1_rights, .inl (cI, 8, .inl k_p1_rights)), (a_p1_nexts, .inl (cI, 4, .inl k_p1_nexts)), (a_captured, .inl (cI, 16, .inl k_captured)), (a_p1_links, .inl (cI, 55, .inl k_p1_links)), (a_p1_starts, .inl (cI, 55, .inl k_p1_starts)), (a_levels_of, .inl (cI, 18, .inl k_levels_of))] H locs → lv_has ls 5 [(0, .ref a_this), (1, .ref a_p1), (2, .ref a_p2), (3, .int x3_25), (4, .int x4_26)] → W p l e rmX3_fitTo s m args below meth c H locs 0 0 Q (F0 m 5 ls []) := by
    intro nf
    induction nf with
    | zero =>
      intro x3_25 x4_26 H locs ls h
      rw [f_X3_fitTo_L5] at h
      cases h
    | succ n_5 ih_5 =>
      intro x3_25 x4_26 H locs ls h hw hl
      rw [f_X3_fitTo_L5] at h
      refine lv_iload hx hb dX3_fitTo_5 (lv_at hl 4 rfl) ?_
      refine lv_aload_n hx hb dX3_fitTo_7 rfl (lv_at hl 1 rfl) ?_
      refine z_get S hw F36 0 rfl rfl dX3_fitTo_8 ?_
      refine lv_icmp_ge (tgt := 32) hx hb dX3_fitTo_11 (by decide) (fun hc => ?_) (fun hc => ?_)
      · replace h := if_t hc h
        exact hj32_1 x3_25 H locs ls h hw (lv_sub hl [0, 1, 2, 3] rfl)
      · replace h := if_f hc h
        refine lv_iload_n hx hb dX3_fitTo_14 rfl (lv_at hl 3 rfl) ?_
        refine lv_aload_n hx hb dX3_fitTo_15 rfl (lv_at hl 2 rfl) ?_
        refine lv_iload hx hb dX3_fitTo_16 (lv_at hl 4 rfl) ?_
        obtain ⟨hg, h⟩ := grd_el h
        refine z_iald S hw 2 0 rfl rfl hg dX3_fitTo_18 ?_
        refine lv_iconst (v := (3 : Int32)) hx hb dX3_fitTo_19 (by decide) ?_
        refine lv_iload hx hb dX3_fitTo_20 (lv_at hl 4 rfl) ?_
        refine lv_imul hx hb dX3_fitTo_22 ?_
        refine lv_ishl hx hb dX3_fitTo_23 ?_
        refine lv_ior hx hb dX3_fitTo_24 ?_
        refine lv_topi (fun x3_27 ex3_27 => ?_)
        replace h := bnd_at ex3_27 h
        refine lv_istore_n (lv' := [(3, .int x3_27), (0, .ref a_this), (1, .ref a_p1), (2, .ref a_p2), (4, .int x4_26)]) hx hb dX3_fitTo_25 rfl hl (by decide) rfl (fun ls hl => ?_)
        obtain ⟨x4_28, ex4_28, h⟩ := bnd_ex h
        refine lv_iinc (v := x4_28) (lv' := [(4, .int x4_28), (3, .int x3_27), (0, .ref a_this), (1, .ref a_p1), (2, .ref a_p2)]) hx hb dX3_fitTo_26 hl (k := 4) rfl (by rw [ex4_28]; rfl) (by decide) rfl (fun ls hl => ?_)
        refine lv_goto (tgt := 5) hx hb dX3_fitTo_29 (by decide) ?_
        exact ih_5 x3_27 x4_28 H locs ls h hw (lv_sub hl [2, 3, 4, 1, 0] rfl)
  exact hL5_1 N ((0 : Int32)) ((0 : Int32)) H locs ls h hw (lv_sub hl [2, 3, 4, 1, 0] rfl)
abbrev rmX3_goesOver : Room := { frames := 0, cells := 0, slots := 0, locals := 0 }
theorem ds_X3_goesOver : yX3_goesOver.cls ≠ "java/lang/invoke/MethodHandle" ∧ yX3_goesOver.cls ≠ "java/lang/invoke/VarHandle" ∧ (parseMethodDescriptor yX3_goesOver.desc).map (fun d => d.parameters.length) = some 3 := by decide +kernel
noncomputable def f_X3_goesOver (N : Nat) (y0 : Int32) (y1 : Int32) (y2 : Int32)  : Option (Int32) :=
  bnd (α := Option (Int32)) (some ((0 : Int32))) fun (j24_1 : Option (Int32)) => (if ((y0 >>> (((4 : Int32) + y1) &&& 31)) &&& (1 : Int32)) = y2 then (j24_1) else ((if ((y0 >>> (y1 &&& 31)) &&& (1 : Int32)) = y2 then (some ((1 : Int32))) else (j24_1))))
set_option maxHeartbeats 4000000 in
set_option maxRecDepth 100000 in
theorem c_X3_goesOver (l : Launch) (D : va_G) (cI cJ cZ cS : ClassId) (sz N : Nat)   (y0 : Int32) (y1 : Int32) (y2 : Int32) (rr : Int32) (hf : f_X3_goesOver N y0 y1 y2 = some (rr)) : MetIr l yX3_goesOver wsX3_goesOver rmX3_goesOver D (tyA cI cJ cZ cS) [] sz [.int y0, .int y1, .int y2] rr := by
  refine entZr (cc := cX3_goesOver) (maxL := 3) (own := RX3) (by decide) rfl rfl (Nat.le_of_ble_eq_true rfl) ?_
  intro p e s m args below meth c A ls Q S hr hw hl hQ
  have hx := S.1.1
  have hb := S.1.2.1
  have hts := S.1.2.2.2.2
  have hl : lv_has ls 3 [(0, .int y0), (1, .int y1), (2, .int y2)] := hl
  have h := hf
  rw [f_X3_goesOver] at h
  refine lv_iload_n hx hb dX3_goesOver_0 rfl (lv_at hl 0 rfl) ?_
  refine lv_iconst (v := (4 : Int32)) hx hb dX3_goesOver_1 (by decide) ?_
  refine lv_iload_n hx hb dX3_goesOver_2 rfl (lv_at hl 1 rfl) ?_
  refine lv_iadd hx hb dX3_goesOver_3 ?_
  refine lv_ishr hx hb dX3_goesOver_4 ?_
  refine lv_iconst (v := (1 : Int32)) hx hb dX3_goesOver_5 (by decide) ?_
  refine lv_iand hx hb dX3_goesOver_6 ?_
  refine lv_iload_n hx hb dX3_goesOver_7 rfl (lv_at hl 2 rfl) ?_
  obtain ⟨j24_1, ej24_1, h⟩ := bnd_ex h
  have hj24_1 : ∀ (ls : Array Slot), j24_1 = some (rr) → lv_has ls 3 [] → W p l e rmX3_goesOver s m args below meth c s.heap [] 0 0 Q (F0 m 24 ls []) := by
    intro ls h hl
    replace h := ap0 ej24_1 h
    refine lv_iconst (v := (0 : Int32)) hx hb dX3_goesOver_24 (by decide) ?_
    cases h
    exact z_zretr S hQ hr rfl dX3_goesOver_25
  refine lv_icmp_eq (tgt := 24) hx hb dX3_goesOver_8 (by decide) (fun hc => ?_) (fun hc => ?_)
  · replace h := if_t hc h
    exact hj24_1  ls h (lv_sub hl [] rfl)
  · replace h := if_f hc h
    refine lv_iload_n hx hb dX3_goesOver_11 rfl (lv_at hl 0 rfl) ?_
    refine lv_iload_n hx hb dX3_goesOver_12 rfl (lv_at hl 1 rfl) ?_
    refine lv_ishr hx hb dX3_goesOver_13 ?_
    refine lv_iconst (v := (1 : Int32)) hx hb dX3_goesOver_14 (by decide) ?_
    refine lv_iand hx hb dX3_goesOver_15 ?_
    refine lv_iload_n hx hb dX3_goesOver_16 rfl (lv_at hl 2 rfl) ?_
    refine lv_icmp_ne (tgt := 24) hx hb dX3_goesOver_17 (by decide) (fun hc => ?_) (fun hc => ?_)
    · replace h := if_f hc h
      exact hj24_1  ls h (lv_sub hl [] rfl)
    · replace h := if_t hc h
      refine lv_iconst (v := (1 : Int32)) hx hb dX3_goesOver_20 (by decide) ?_
      refine lv_goto (tgt := 25) hx hb dX3_goesOver_21 (by decide) ?_
      cases h
      exact z_zretr S hQ hr rfl dX3_goesOver_25
abbrev rmX3_provesPath : Room := { frames := 0, cells := 0, slots := 0, locals := 0 }
theorem dv_X3_provesPath : yX3_provesPath.cls = RX3 ∧ yX3_provesPath.cls ≠ "java/lang/invoke/MethodHandle" ∧ yX3_provesPath.cls ≠ "java/lang/invoke/VarHandle" ∧ (parseMethodDescriptor yX3_provesPath.desc).map (fun d => d.parameters.length) = some 3 := by decide +kernel
noncomputable def f_X3_provesPath (N : Nat) (y1 : Int32) (y2 : Int32) (y3 : Int32) (k_fallers : (Nat → Int64)) (k_risers : (Nat → Int64)) : Option (Int32) :=
  bnd (fun (t_1 : Int64) => ((if (lg_cmp ((t_1 >>> (y2.toInt64 &&& 63)) &&& (1 : Int64)) (1 : Int64)) = (0 : Int32) then (some ((1 : Int32))) else (some ((0 : Int32)))))) fun (j20_1 : Int64 → Option (Int32)) => (if y3 = (1 : Int32) then (grd (inb y1 256) <| j20_1 ((k_risers y1.toNatClampNeg))) else (grd (inb y1 256) <| j20_1 ((k_fallers y1.toNatClampNeg))))
set_option maxHeartbeats 4000000 in
set_option maxRecDepth 100000 in
theorem c_X3_provesPath (l : Launch) (D : va_G) (cI cJ cZ cS : ClassId) (sz N : Nat) (a_this a_fallers a_risers a_levels a_sureLinks a_captured : Nat) (i_this_madeFor : Int32) (k_fallers : (Nat → Int64)) (k_risers : (Nat → Int64)) (y1 : Int32) (y2 : Int32) (y3 : Int32) (rr : Int32) (hf : f_X3_provesPath N y1 y2 y3 k_fallers k_risers = some (rr)) : MetIr l yX3_provesPath wsX3_provesPath rmX3_provesPath D (tyA cI cJ cZ cS) [(a_this, .inr (3, [.ref a_levels, .ref a_sureLinks, .ref a_risers, .ref a_fallers, .ref a_captured, .int i_this_madeFor])), (a_fallers, .inl (cJ, 256, .inr (.inl k_fallers))), (a_risers, .inl (cJ, 256, .inr (.inl k_risers)))] sz [.ref a_this, .int y1, .int y2, .int y3] rr := by
  refine entZr (cc := cX3_provesPath) (maxL := 6) (own := RX3) (by decide) rfl rfl (Nat.le_of_ble_eq_true rfl) ?_
  intro p e s m args below meth c A ls Q S hr hw hl hQ
  have hx := S.1.1
  have hb := S.1.2.1
  have hts := S.1.2.2.2.2
  have hl : lv_has ls 6 [(0, .ref a_this), (1, .int y1), (2, .int y2), (3, .int y3)] := hl
  have hinX3 : ∀ w ∈ u_ws RX3 TX3 6, w ∈ wsX3_provesPath := (fun _ h => List.mem_cons_of_mem _ (List.mem_append_right _ h))
  have F22 : FLk s args wsX3_provesPath RX3 22 RX3 TX3 6 3 2 := ⟨hinX3, rfl, by decide, hts (.fieldLink RX3 22 "SlowPaths$PairTable" "risers" "[J") (List.mem_of_getElem? (i := 1) rfl)⟩
  have F26 : FLk s args wsX3_provesPath RX3 26 RX3 TX3 6 3 3 := ⟨hinX3, rfl, by decide, hts (.fieldLink RX3 26 "SlowPaths$PairTable" "fallers" "[J") (List.mem_of_getElem? (i := 2) rfl)⟩
  have h := hf
  rw [f_X3_provesPath] at h
  refine lv_iload_n hx hb dX3_provesPath_0 rfl (lv_at hl 3 rfl) ?_
  refine lv_iconst (v := (1 : Int32)) hx hb dX3_provesPath_1 (by decide) ?_
  obtain ⟨j20_1, ej20_1, h⟩ := bnd_ex h
  have hj20_1 : ∀ (t_1 : Int64) (ls : Array Slot), j20_1 t_1 = some (rr) → lv_has ls 6 [(2, .int y2)] → W p l e rmX3_provesPath s m args below meth c s.heap [] 0 0 Q (F0 m 20 ls [.long t_1]) := by
    intro t_1 ls h hl
    replace h := ap1 ej20_1 h
    refine lv_lstore (lv' := [(4, .long t_1), (2, .int y2)]) hx hb dX3_provesPath_20 hl (by decide) rfl (fun ls hl => ?_)
    refine lv_lload hx hb dX3_provesPath_22 (lv_at hl 0 rfl) ?_
    refine lv_iload_n hx hb dX3_provesPath_24 rfl (lv_at hl 1 rfl) ?_
    refine lv_lshr hx hb dX3_provesPath_25 rfl ?_
    refine lv_lconst (v := (1 : Int64)) hx hb dX3_provesPath_26 (by decide) ?_
    refine lv_land hx hb dX3_provesPath_27 ?_
    refine lv_lconst (v := (1 : Int64)) hx hb dX3_provesPath_28 (by decide) ?_
    refine W.lcmp hx hb dX3_provesPath_29 ?_
    refine lv_if_ne (tgt := 37) hx hb dX3_provesPath_30 (by decide) (fun hc => ?_) (fun hc => ?_)
    · replace h := if_f hc h
      refine lv_iconst (v := (0 : Int32)) hx hb dX3_provesPath_37 (by decide) ?_
      cases h
      exact z_zretr S hQ hr rfl dX3_provesPath_38
    · replace h := if_t hc h
      refine lv_iconst (v := (1 : Int32)) hx hb dX3_provesPath_33 (by decide) ?_
      refine lv_goto (tgt := 38) hx hb dX3_provesPath_34 (by decide) ?_
      cases h
      exact z_zretr S hQ hr rfl dX3_provesPath_38
  refine lv_icmp_ne (tgt := 14) hx hb dX3_provesPath_2 (by decide) (fun hc => ?_) (fun hc => ?_)
  · replace h := if_f hc h
    refine lv_aload_n hx hb dX3_provesPath_14 rfl (lv_at hl 0 rfl) ?_
    refine z_get S hw F26 0 rfl rfl dX3_provesPath_15 ?_
    refine lv_iload_n hx hb dX3_provesPath_18 rfl (lv_at hl 1 rfl) ?_
    obtain ⟨hg, h⟩ := grd_el h
    refine z_lald S hw 1 1 rfl rfl hg dX3_provesPath_19 ?_
    exact hj20_1 ((k_fallers y1.toNatClampNeg)) ls h (lv_sub hl [2] rfl)
  · replace h := if_t hc h
    refine lv_aload_n hx hb dX3_provesPath_5 rfl (lv_at hl 0 rfl) ?_
    refine z_get S hw F22 0 rfl rfl dX3_provesPath_6 ?_
    refine lv_iload_n hx hb dX3_provesPath_9 rfl (lv_at hl 1 rfl) ?_
    obtain ⟨hg, h⟩ := grd_el h
    refine z_lald S hw 2 1 rfl rfl hg dX3_provesPath_10 ?_
    refine lv_goto (tgt := 20) hx hb dX3_provesPath_11 (by decide) ?_
    exact hj20_1 ((k_risers y1.toNatClampNeg)) ls h (lv_sub hl [2] rfl)
abbrev rmX3_canProve : Room := { frames := 1, cells := 0, slots := 0, locals := 25 }
theorem dv_X3_canProve : yX3_canProve.cls = RX3 ∧ yX3_canProve.cls ≠ "java/lang/invoke/MethodHandle" ∧ yX3_canProve.cls ≠ "java/lang/invoke/VarHandle" ∧ (parseMethodDescriptor yX3_canProve.desc).map (fun d => d.parameters.length) = some 2 := by decide +kernel
noncomputable def f_X3_canProve_L2 (N : Nat) (y1 : Int32) (y2 : Int32) (k_fallers : (Nat → Int64)) (k_risers : (Nat → Int64)) (j27_1 : Option (Int32)) : Nat → Int32 → Option (Int32)
  | 0, _ => none
  | n_2 + 1, x3_1 =>
    (if (256 : Int32) ≤ x3_1 then (j27_1) else (obd1 (f_X3_provesPath N x3_1 y1 y2 k_fallers k_risers) fun (r_2 : Int32) => (if r_2 = (0 : Int32) then (bnd (x3_1 + (1 : Int32)) fun (x3_3 : Int32) => f_X3_canProve_L2 N y1 y2 k_fallers k_risers j27_1 n_2 x3_3) else (some ((1 : Int32))))))
noncomputable def f_X3_canProve (N : Nat) (y1 : Int32) (y2 : Int32) (k_fallers : (Nat → Int64)) (k_risers : (Nat → Int64)) : Option (Int32) :=
  bnd (α := Option (Int32)) (some ((0 : Int32))) fun (j27_1 : Option (Int32)) => f_X3_canProve_L2 N y1 y2 k_fallers k_risers j27_1 N ((0 : Int32))
set_option maxHeartbeats 4000000 in
set_option maxRecDepth 100000 in
theorem c_X3_canProve (l : Launch) (D : va_G) (cI cJ cZ cS : ClassId) (sz N : Nat) (a_this a_fallers a_risers a_levels a_sureLinks a_captured : Nat) (i_this_madeFor : Int32) (k_fallers : (Nat → Int64)) (k_risers : (Nat → Int64)) (y1 : Int32) (y2 : Int32) (rr : Int32) (hf : f_X3_canProve N y1 y2 k_fallers k_risers = some (rr)) : MetIr l yX3_canProve wsX3_canProve rmX3_canProve D (tyA cI cJ cZ cS) [(a_this, .inr (3, [.ref a_levels, .ref a_sureLinks, .ref a_risers, .ref a_fallers, .ref a_captured, .int i_this_madeFor])), (a_fallers, .inl (cJ, 256, .inr (.inl k_fallers))), (a_risers, .inl (cJ, 256, .inr (.inl k_risers)))] sz [.ref a_this, .int y1, .int y2] rr := by
  refine entZr (cc := cX3_canProve) (maxL := 4) (own := RX3) (by decide) rfl rfl (Nat.le_of_ble_eq_true rfl) ?_
  intro p e s m args below meth c A ls Q S hr hw hl hQ
  have hx := S.1.1
  have hb := S.1.2.1
  have hts := S.1.2.2.2.2
  have hl : lv_has ls 4 [(0, .ref a_this), (1, .int y1), (2, .int y2)] := hl
  have h := hf
  rw [f_X3_canProve] at h
  refine lv_iconst (v := (0 : Int32)) hx hb dX3_canProve_0 (by decide) ?_
  refine lv_istore_n (lv' := [(3, .int (0 : Int32)), (0, .ref a_this), (1, .int y1), (2, .int y2)]) hx hb dX3_canProve_1 rfl hl (by decide) rfl (fun ls hl => ?_)
  obtain ⟨j27_1, ej27_1, h⟩ := bnd_ex h
  have hj27_1 : ∀ (ls : Array Slot), j27_1 = some (rr) → lv_has ls 4 [] → W p l e rmX3_canProve s m args below meth c s.heap [] 0 0 Q (F0 m 27 ls []) := by
    intro ls h hl
    replace h := ap0 ej27_1 h
    refine lv_iconst (v := (0 : Int32)) hx hb dX3_canProve_27 (by decide) ?_
    cases h
    exact z_zretr S hQ hr rfl dX3_canProve_28
  have hL2_1 : ∀ (nf : Nat) (x3_1 : Int32) (ls : Array Slot), f_X3_canProve_L2 N y1 y2 k_fallers k_risers j27_1 nf x3_1 = some (rr) → lv_has ls 4 [(0, .ref a_this), (1, .int y1), (2, .int y2), (3, .int x3_1)] → W p l e rmX3_canProve s m args below meth c s.heap [] 0 0 Q (F0 m 2 ls []) := by
    intro nf
    induction nf with
    | zero =>
      intro x3_1 ls h
      rw [f_X3_canProve_L2] at h
      cases h
    | succ n_2 ih_2 =>
      intro x3_1 ls h hl
      rw [f_X3_canProve_L2] at h
      refine lv_iload_n hx hb dX3_canProve_2 rfl (lv_at hl 3 rfl) ?_
      refine lv_sipush (v := (256 : Int32)) hx hb dX3_canProve_3 (by decide) ?_
      refine lv_icmp_ge (tgt := 27) hx hb dX3_canProve_6 (by decide) (fun hc => ?_) (fun hc => ?_)
      · replace h := if_t hc h
        exact hj27_1  ls h (lv_sub hl [] rfl)
      · replace h := if_f hc h
        refine lv_aload_n hx hb dX3_canProve_9 rfl (lv_at hl 0 rfl) ?_
        refine lv_iload_n hx hb dX3_canProve_10 rfl (lv_at hl 3 rfl) ?_
        refine lv_iload_n hx hb dX3_canProve_11 rfl (lv_at hl 1 rfl) ?_
        refine lv_iload_n hx hb dX3_canProve_12 rfl (lv_at hl 2 rfl) ?_
        obtain ⟨r_2, e13_1, h⟩ := obd1_el h
        refine zr_VI (As := [.int x3_1, .int y1, .int y2]) (rest := []) (q0 := 0) S hw (c_X3_provesPath l D cI cJ cZ cS s.heap.size N a_this a_fallers a_risers a_levels a_sureLinks a_captured i_this_madeFor k_fallers k_risers x3_1 y1 y2 r_2 e13_1) (cwV 3 hts gX3_canProve_X3_provesPath rfl rfl rfl dv_X3_provesPath ⟨Nat.le_of_ble_eq_true rfl, Nat.le_of_ble_eq_true rfl⟩) [0, 1, 2] rfl rfl rfl rfl rfl rfl hl.1 rfl (Nat.le_of_ble_eq_true rfl) dX3_canProve_13 ⟨Nat.zero_le _, Nat.zero_le _⟩ ?_
        refine lv_if_eq (tgt := 21) hx hb dX3_canProve_16 (by decide) (fun hc => ?_) (fun hc => ?_)
        · replace h := if_t hc h
          obtain ⟨x3_3, ex3_3, h⟩ := bnd_ex h
          refine lv_iinc (v := x3_3) (lv' := [(3, .int x3_3), (0, .ref a_this), (1, .int y1), (2, .int y2)]) hx hb dX3_canProve_21 hl (k := 3) rfl (by rw [ex3_3]; rfl) (by decide) rfl (fun ls hl => ?_)
          refine lv_goto (tgt := 2) hx hb dX3_canProve_24 (by decide) ?_
          exact ih_2 x3_3 ls h (lv_sub hl [1, 2, 3, 0] rfl)
        · replace h := if_f hc h
          refine lv_iconst (v := (1 : Int32)) hx hb dX3_canProve_19 (by decide) ?_
          cases h
          exact z_zretr S hQ hr rfl dX3_canProve_20
  exact hL2_1 N ((0 : Int32)) ls h (lv_sub hl [1, 2, 3, 0] rfl)
abbrev rmJ13_bitCount_95d88 : Room := { frames := 0, cells := 0, slots := 0, locals := 0 }
theorem ds_J13_bitCount_95d88 : yJ13_bitCount_95d88.cls ≠ "java/lang/invoke/MethodHandle" ∧ yJ13_bitCount_95d88.cls ≠ "java/lang/invoke/VarHandle" ∧ (parseMethodDescriptor yJ13_bitCount_95d88.desc).map (fun d => d.parameters.length) = some 1 := by decide +kernel
noncomputable def f_J13_bitCount_95d88 (N : Nat) (y0 : Int64)  : Option (Int32) :=
  bnd ((y0 - (((y0.toUInt64 >>> ((1 : Int32).toInt64.toUInt64 &&& Int64.toUInt64 63)).toInt64) &&& (6148914691236517205 : Int64)))) fun (x0_1 : Int64) => bnd (((x0_1 &&& (3689348814741910323 : Int64)) + (((x0_1.toUInt64 >>> ((2 : Int32).toInt64.toUInt64 &&& Int64.toUInt64 63)).toInt64) &&& (3689348814741910323 : Int64)))) fun (x0_2 : Int64) => bnd (((x0_2 + ((x0_2.toUInt64 >>> ((4 : Int32).toInt64.toUInt64 &&& Int64.toUInt64 63)).toInt64)) &&& (1085102592571150095 : Int64))) fun (x0_3 : Int64) => bnd ((x0_3 + ((x0_3.toUInt64 >>> ((8 : Int32).toInt64.toUInt64 &&& Int64.toUInt64 63)).toInt64))) fun (x0_4 : Int64) => bnd ((x0_4 + ((x0_4.toUInt64 >>> ((16 : Int32).toInt64.toUInt64 &&& Int64.toUInt64 63)).toInt64))) fun (x0_5 : Int64) => bnd ((x0_5 + ((x0_5.toUInt64 >>> ((32 : Int32).toInt64.toUInt64 &&& Int64.toUInt64 63)).toInt64))) fun (x0_6 : Int64) => some (((x0_6.toInt32) &&& (127 : Int32)))
set_option maxHeartbeats 4000000 in
set_option maxRecDepth 100000 in
theorem c_J13_bitCount_95d88 (l : Launch) (D : va_G) (cI cJ cZ cS : ClassId) (sz N : Nat)   (y0 : Int64) (rr : Int32) (hf : f_J13_bitCount_95d88 N y0 = some (rr)) : MetIr l yJ13_bitCount_95d88 wsJ13_bitCount_95d88 rmJ13_bitCount_95d88 D (tyA cI cJ cZ cS) [] sz [.long y0] rr := by
  refine entIr (cc := cJ13_bitCount_95d88) (maxL := 2) (own := RJ13) (by decide) rfl rfl (Nat.le_of_ble_eq_true rfl) ?_
  intro p e s m args below meth c A ls Q S hr hw hl hQ
  have hx := S.1.1
  have hb := S.1.2.1
  have hts := S.1.2.2.2.2
  have hl : lv_has ls 2 [(0, .long y0)] := hl
  have h := hf
  rw [f_J13_bitCount_95d88] at h
  refine lv_lload_n hx hb dJ13_bitCount_95d88_0 rfl (lv_at hl 0 rfl) ?_
  refine lv_lload_n hx hb dJ13_bitCount_95d88_1 rfl (lv_at hl 0 rfl) ?_
  refine lv_iconst (v := (1 : Int32)) hx hb dJ13_bitCount_95d88_2 (by decide) ?_
  refine lv_lushr hx hb dJ13_bitCount_95d88_3 rfl ?_
  refine lv_ldc2 (v := (6148914691236517205 : Int64)) hx hb S.1.2.2.2.1 (hts (.constantLong RJ13 314 (6148914691236517205)) (List.mem_of_getElem? (i := 1) rfl)) dJ13_bitCount_95d88_4 ?_
  refine lv_land hx hb dJ13_bitCount_95d88_7 ?_
  refine lv_lsub hx hb dJ13_bitCount_95d88_8 ?_
  refine lv_topl (fun x0_1 ex0_1 => ?_)
  replace h := bnd_at ex0_1 h
  refine lv_lstore_n (lv' := [(0, .long x0_1)]) hx hb dJ13_bitCount_95d88_9 rfl hl (by decide) rfl (fun ls hl => ?_)
  refine lv_lload_n hx hb dJ13_bitCount_95d88_10 rfl (lv_at hl 0 rfl) ?_
  refine lv_ldc2 (v := (3689348814741910323 : Int64)) hx hb S.1.2.2.2.1 (hts (.constantLong RJ13 316 (3689348814741910323)) (List.mem_of_getElem? (i := 2) rfl)) dJ13_bitCount_95d88_11 ?_
  refine lv_land hx hb dJ13_bitCount_95d88_14 ?_
  refine lv_lload_n hx hb dJ13_bitCount_95d88_15 rfl (lv_at hl 0 rfl) ?_
  refine lv_iconst (v := (2 : Int32)) hx hb dJ13_bitCount_95d88_16 (by decide) ?_
  refine lv_lushr hx hb dJ13_bitCount_95d88_17 rfl ?_
  refine lv_ldc2 (v := (3689348814741910323 : Int64)) hx hb S.1.2.2.2.1 (hts (.constantLong RJ13 316 (3689348814741910323)) (List.mem_of_getElem? (i := 2) rfl)) dJ13_bitCount_95d88_18 ?_
  refine lv_land hx hb dJ13_bitCount_95d88_21 ?_
  refine lv_ladd hx hb dJ13_bitCount_95d88_22 ?_
  refine lv_topl (fun x0_2 ex0_2 => ?_)
  replace h := bnd_at ex0_2 h
  refine lv_lstore_n (lv' := [(0, .long x0_2)]) hx hb dJ13_bitCount_95d88_23 rfl hl (by decide) rfl (fun ls hl => ?_)
  refine lv_lload_n hx hb dJ13_bitCount_95d88_24 rfl (lv_at hl 0 rfl) ?_
  refine lv_lload_n hx hb dJ13_bitCount_95d88_25 rfl (lv_at hl 0 rfl) ?_
  refine lv_iconst (v := (4 : Int32)) hx hb dJ13_bitCount_95d88_26 (by decide) ?_
  refine lv_lushr hx hb dJ13_bitCount_95d88_27 rfl ?_
  refine lv_ladd hx hb dJ13_bitCount_95d88_28 ?_
  refine lv_ldc2 (v := (1085102592571150095 : Int64)) hx hb S.1.2.2.2.1 (hts (.constantLong RJ13 318 (1085102592571150095)) (List.mem_of_getElem? (i := 3) rfl)) dJ13_bitCount_95d88_29 ?_
  refine lv_land hx hb dJ13_bitCount_95d88_32 ?_
  refine lv_topl (fun x0_3 ex0_3 => ?_)
  replace h := bnd_at ex0_3 h
  refine lv_lstore_n (lv' := [(0, .long x0_3)]) hx hb dJ13_bitCount_95d88_33 rfl hl (by decide) rfl (fun ls hl => ?_)
  refine lv_lload_n hx hb dJ13_bitCount_95d88_34 rfl (lv_at hl 0 rfl) ?_
  refine lv_lload_n hx hb dJ13_bitCount_95d88_35 rfl (lv_at hl 0 rfl) ?_
  refine lv_bipush (v := (8 : Int32)) hx hb dJ13_bitCount_95d88_36 (by decide) ?_
  refine lv_lushr hx hb dJ13_bitCount_95d88_38 rfl ?_
  refine lv_ladd hx hb dJ13_bitCount_95d88_39 ?_
  refine lv_topl (fun x0_4 ex0_4 => ?_)
  replace h := bnd_at ex0_4 h
  refine lv_lstore_n (lv' := [(0, .long x0_4)]) hx hb dJ13_bitCount_95d88_40 rfl hl (by decide) rfl (fun ls hl => ?_)
  refine lv_lload_n hx hb dJ13_bitCount_95d88_41 rfl (lv_at hl 0 rfl) ?_
  refine lv_lload_n hx hb dJ13_bitCount_95d88_42 rfl (lv_at hl 0 rfl) ?_
  refine lv_bipush (v := (16 : Int32)) hx hb dJ13_bitCount_95d88_43 (by decide) ?_
  refine lv_lushr hx hb dJ13_bitCount_95d88_45 rfl ?_
  refine lv_ladd hx hb dJ13_bitCount_95d88_46 ?_
  refine lv_topl (fun x0_5 ex0_5 => ?_)
  replace h := bnd_at ex0_5 h
  refine lv_lstore_n (lv' := [(0, .long x0_5)]) hx hb dJ13_bitCount_95d88_47 rfl hl (by decide) rfl (fun ls hl => ?_)
  refine lv_lload_n hx hb dJ13_bitCount_95d88_48 rfl (lv_at hl 0 rfl) ?_
  refine lv_lload_n hx hb dJ13_bitCount_95d88_49 rfl (lv_at hl 0 rfl) ?_
  refine lv_bipush (v := (32 : Int32)) hx hb dJ13_bitCount_95d88_50 (by decide) ?_
  refine lv_lushr hx hb dJ13_bitCount_95d88_52 rfl ?_
  refine lv_ladd hx hb dJ13_bitCount_95d88_53 ?_
  refine lv_topl (fun x0_6 ex0_6 => ?_)
  replace h := bnd_at ex0_6 h
  refine lv_lstore_n (lv' := [(0, .long x0_6)]) hx hb dJ13_bitCount_95d88_54 rfl hl (by decide) rfl (fun ls hl => ?_)
  refine lv_lload_n hx hb dJ13_bitCount_95d88_55 rfl (lv_at hl 0 rfl) ?_
  refine lv_l2i hx hb dJ13_bitCount_95d88_56 rfl ?_
  refine lv_bipush (v := (127 : Int32)) hx hb dJ13_bitCount_95d88_57 (by decide) ?_
  refine lv_iand hx hb dJ13_bitCount_95d88_59 ?_
  cases h
  exact z_iretr S hQ hr dJ13_bitCount_95d88_60
abbrev rmX3_provenPaths : Room := { frames := 1, cells := 0, slots := 0, locals := 21 }
theorem dv_X3_provenPaths : yX3_provenPaths.cls = RX3 ∧ yX3_provenPaths.cls ≠ "java/lang/invoke/MethodHandle" ∧ yX3_provenPaths.cls ≠ "java/lang/invoke/VarHandle" ∧ (parseMethodDescriptor yX3_provenPaths.desc).map (fun d => d.parameters.length) = some 0 := by decide +kernel
noncomputable def f_X3_provenPaths_L7 (N : Nat) (k_risers : (Nat → Int64)) (k_fallers : (Nat → Int64)) (j41_1 : Int64 → Int64 → Option (Int32)) : Nat → Int64 → Int64 → Int32 → Option (Int32)
  | 0, _, _, _ => none
  | n_7 + 1, x1_5, x3_6, x5_7 =>
    (if (256 : Int32) ≤ x5_7 then (j41_1 x1_5 x3_6) else (grd (inb x5_7 256) <| bnd ((x1_5 ||| (k_risers x5_7.toNatClampNeg))) fun (x1_8 : Int64) => grd (inb x5_7 256) <| bnd ((x3_6 ||| (k_fallers x5_7.toNatClampNeg))) fun (x3_9 : Int64) => bnd (x5_7 + (1 : Int32)) fun (x5_10 : Int32) => f_X3_provenPaths_L7 N k_risers k_fallers j41_1 n_7 x1_8 x3_9 x5_10))
noncomputable def f_X3_provenPaths (N : Nat)  (k_risers : (Nat → Int64)) (k_fallers : (Nat → Int64)) : Option (Int32) :=
  bnd (fun (x1_1 : Int64) (x3_2 : Int64) => (obd1 (f_J13_bitCount_95d88 N x1_1) fun (r_3 : Int32) => obd1 (f_J13_bitCount_95d88 N x3_2) fun (r_4 : Int32) => some ((r_3 + r_4)))) fun (j41_1 : Int64 → Int64 → Option (Int32)) => f_X3_provenPaths_L7 N k_risers k_fallers j41_1 N ((0 : Int64)) ((0 : Int64)) ((0 : Int32))
set_option maxHeartbeats 4000000 in
set_option maxRecDepth 100000 in
theorem c_X3_provenPaths (l : Launch) (D : va_G) (cI cJ cZ cS : ClassId) (sz N : Nat) (a_this a_risers a_fallers a_levels a_sureLinks a_captured : Nat) (i_this_madeFor : Int32) (k_risers : (Nat → Int64)) (k_fallers : (Nat → Int64))  (rr : Int32) (hf : f_X3_provenPaths N k_risers k_fallers = some (rr)) : MetIr l yX3_provenPaths wsX3_provenPaths rmX3_provenPaths D (tyA cI cJ cZ cS) [(a_this, .inr (3, [.ref a_levels, .ref a_sureLinks, .ref a_risers, .ref a_fallers, .ref a_captured, .int i_this_madeFor])), (a_risers, .inl (cJ, 256, .inr (.inl k_risers))), (a_fallers, .inl (cJ, 256, .inr (.inl k_fallers)))] sz [.ref a_this] rr := by
  refine entIr (cc := cX3_provenPaths) (maxL := 6) (own := RX3) (by decide) rfl rfl (Nat.le_of_ble_eq_true rfl) ?_
  intro p e s m args below meth c A ls Q S hr hw hl hQ
  have hx := S.1.1
  have hb := S.1.2.1
  have hts := S.1.2.2.2.2
  have hl : lv_has ls 6 [(0, .ref a_this)] := hl
  have hinX3 : ∀ w ∈ u_ws RX3 TX3 6, w ∈ wsX3_provenPaths := (fun _ h => List.mem_cons_of_mem _ (List.mem_append_right _ h))
  have F22 : FLk s args wsX3_provenPaths RX3 22 RX3 TX3 6 3 2 := ⟨hinX3, rfl, by decide, hts (.fieldLink RX3 22 "SlowPaths$PairTable" "risers" "[J") (List.mem_of_getElem? (i := 1) rfl)⟩
  have F26 : FLk s args wsX3_provenPaths RX3 26 RX3 TX3 6 3 3 := ⟨hinX3, rfl, by decide, hts (.fieldLink RX3 26 "SlowPaths$PairTable" "fallers" "[J") (List.mem_of_getElem? (i := 2) rfl)⟩
  have h := hf
  rw [f_X3_provenPaths] at h
  refine lv_lconst (v := (0 : Int64)) hx hb dX3_provenPaths_0 (by decide) ?_
  refine lv_lstore_n (lv' := [(1, .long (0 : Int64)), (0, .ref a_this)]) hx hb dX3_provenPaths_1 rfl hl (by decide) rfl (fun ls hl => ?_)
  refine lv_lconst (v := (0 : Int64)) hx hb dX3_provenPaths_2 (by decide) ?_
  refine lv_lstore_n (lv' := [(3, .long (0 : Int64)), (1, .long (0 : Int64)), (0, .ref a_this)]) hx hb dX3_provenPaths_3 rfl hl (by decide) rfl (fun ls hl => ?_)
  refine lv_iconst (v := (0 : Int32)) hx hb dX3_provenPaths_4 (by decide) ?_
  refine lv_istore (lv' := [(5, .int (0 : Int32)), (3, .long (0 : Int64)), (1, .long (0 : Int64)), (0, .ref a_this)]) hx hb dX3_provenPaths_5 hl (by decide) rfl (fun ls hl => ?_)
  obtain ⟨j41_1, ej41_1, h⟩ := bnd_ex h
  have hj41_1 : ∀ (x1_1 : Int64) (x3_2 : Int64) (ls : Array Slot), j41_1 x1_1 x3_2 = some (rr) → lv_has ls 6 [(1, .long x1_1), (3, .long x3_2)] → W p l e rmX3_provenPaths s m args below meth c s.heap [] 0 0 Q (F0 m 41 ls []) := by
    intro x1_1 x3_2 ls h hl
    replace h := ap2 ej41_1 h
    refine lv_lload_n hx hb dX3_provenPaths_41 rfl (lv_at hl 0 rfl) ?_
    obtain ⟨r_3, e42_1, h⟩ := obd1_el h
    refine zr_SI (As := [.long x1_1]) (rest := []) (q0 := 0) (ci := 0) (fs := []) (qc := (RX0, TX0, 4)) S hw (c_J13_bitCount_95d88 l D cI cJ cZ cS s.heap.size N x1_1 r_3 e42_1) (va_cwS 1 hts gX3_provenPaths_J13_bitCount_95d88 rfl rfl rfl ds_J13_bitCount_95d88 ⟨Nat.le_of_ble_eq_true rfl, Nat.le_of_ble_eq_true rfl⟩) [] rfl rfl rfl hl.1 rfl (Nat.le_of_ble_eq_true rfl) dX3_provenPaths_42 ⟨Nat.zero_le _, Nat.zero_le _⟩ ?_
    refine lv_lload_n hx hb dX3_provenPaths_45 rfl (lv_at hl 1 rfl) ?_
    obtain ⟨r_4, e46_1, h⟩ := obd1_el h
    refine zr_SI (As := [.long x3_2]) (rest := [.int r_3]) (q0 := 0) (ci := 0) (fs := []) (qc := (RX0, TX0, 4)) S hw (c_J13_bitCount_95d88 l D cI cJ cZ cS s.heap.size N x3_2 r_4 e46_1) (va_cwS 1 hts gX3_provenPaths_J13_bitCount_95d88 rfl rfl rfl ds_J13_bitCount_95d88 ⟨Nat.le_of_ble_eq_true rfl, Nat.le_of_ble_eq_true rfl⟩) [] rfl rfl rfl hl.1 rfl (Nat.le_of_ble_eq_true rfl) dX3_provenPaths_46 ⟨Nat.zero_le _, Nat.zero_le _⟩ ?_
    refine lv_iadd hx hb dX3_provenPaths_49 ?_
    cases h
    exact z_iretr S hQ hr dX3_provenPaths_50
  have hL7_1 : ∀ (nf : Nat) (x1_5 : Int64) (x3_6 : Int64) (x5_7 : Int32) (ls : Array Slot), f_X3_provenPaths_L7 N k_risers k_fallers j41_1 nf x1_5 x3_6 x5_7 = some (rr) → lv_has ls 6 [(0, .ref a_this), (1, .long x1_5), (3, .long x3_6), (5, .int x5_7)] → W p l e rmX3_provenPaths s m args below meth c s.heap [] 0 0 Q (F0 m 7 ls []) := by
    intro nf
    induction nf with
    | zero =>
      intro x1_5 x3_6 x5_7 ls h
      rw [f_X3_provenPaths_L7] at h
      cases h
    | succ n_7 ih_7 =>
      intro x1_5 x3_6 x5_7 ls h hl
      rw [f_X3_provenPaths_L7] at h
      refine lv_iload hx hb dX3_provenPaths_7 (lv_at hl 3 rfl) ?_
      refine lv_sipush (v := (256 : Int32)) hx hb dX3_provenPaths_9 (by decide) ?_
      refine lv_icmp_ge (tgt := 41) hx hb dX3_provenPaths_12 (by decide) (fun hc => ?_) (fun hc => ?_)
      · replace h := if_t hc h
        exact hj41_1 x1_5 x3_6 ls h (lv_sub hl [1, 2] rfl)
      · replace h := if_f hc h
        refine lv_lload_n hx hb dX3_provenPaths_15 rfl (lv_at hl 1 rfl) ?_
        refine lv_aload_n hx hb dX3_provenPaths_16 rfl (lv_at hl 0 rfl) ?_
        refine z_get S hw F22 0 rfl rfl dX3_provenPaths_17 ?_
        refine lv_iload hx hb dX3_provenPaths_20 (lv_at hl 3 rfl) ?_
        obtain ⟨hg, h⟩ := grd_el h
        refine z_lald S hw 1 1 rfl rfl hg dX3_provenPaths_22 ?_
        refine lv_lor hx hb dX3_provenPaths_23 ?_
        refine lv_topl (fun x1_8 ex1_8 => ?_)
        replace h := bnd_at ex1_8 h
        refine lv_lstore_n (lv' := [(1, .long x1_8), (0, .ref a_this), (3, .long x3_6), (5, .int x5_7)]) hx hb dX3_provenPaths_24 rfl hl (by decide) rfl (fun ls hl => ?_)
        refine lv_lload_n hx hb dX3_provenPaths_25 rfl (lv_at hl 2 rfl) ?_
        refine lv_aload_n hx hb dX3_provenPaths_26 rfl (lv_at hl 1 rfl) ?_
        refine z_get S hw F26 0 rfl rfl dX3_provenPaths_27 ?_
        refine lv_iload hx hb dX3_provenPaths_30 (lv_at hl 3 rfl) ?_
        obtain ⟨hg, h⟩ := grd_el h
        refine z_lald S hw 2 1 rfl rfl hg dX3_provenPaths_32 ?_
        refine lv_lor hx hb dX3_provenPaths_33 ?_
        refine lv_topl (fun x3_9 ex3_9 => ?_)
        replace h := bnd_at ex3_9 h
        refine lv_lstore_n (lv' := [(3, .long x3_9), (1, .long x1_8), (0, .ref a_this), (5, .int x5_7)]) hx hb dX3_provenPaths_34 rfl hl (by decide) rfl (fun ls hl => ?_)
        obtain ⟨x5_10, ex5_10, h⟩ := bnd_ex h
        refine lv_iinc (v := x5_10) (lv' := [(5, .int x5_10), (3, .long x3_9), (1, .long x1_8), (0, .ref a_this)]) hx hb dX3_provenPaths_35 hl (k := 3) rfl (by rw [ex5_10]; rfl) (by decide) rfl (fun ls hl => ?_)
        refine lv_goto (tgt := 7) hx hb dX3_provenPaths_38 (by decide) ?_
        exact ih_7 x1_8 x3_9 x5_10 ls h (lv_sub hl [3, 2, 1, 0] rfl)
  exact hL7_1 N ((0 : Int64)) ((0 : Int64)) ((0 : Int32)) ls h (lv_sub hl [3, 2, 1, 0] rfl)
