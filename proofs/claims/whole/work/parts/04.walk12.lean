abbrev rmX10_feeds : Room := { frames := 0, cells := 0, slots := 0, locals := 0 }
theorem dv_X10_feeds : yX10_feeds.cls = RX10 ∧ yX10_feeds.cls ≠ "java/lang/invoke/MethodHandle" ∧ yX10_feeds.cls ≠ "java/lang/invoke/VarHandle" ∧ (parseMethodDescriptor yX10_feeds.desc).map (fun d => d.parameters.length) = some 2 := by decide +kernel
noncomputable def f_X10_feeds (N : Nat) (y1 : Int32) (y2 : Int32) (k_one : (Nat → Int32)) (k_other : (Nat → Int32)) : Option (Int32) :=
  grd (inb y2 8) <| bnd (α := Option (Int32)) (some ((1 : Int32))) fun (j20_1 : Option (Int32)) => (if (k_one y2.toNatClampNeg) = y1 then (j20_1) else (grd (inb y2 8) <| (if (k_other y2.toNatClampNeg) = y1 then (j20_1) else (some ((0 : Int32))))))
set_option maxHeartbeats 4000000 in
set_option maxRecDepth 100000 in
theorem c_X10_feeds (l : Launch) (D : va_G) (cI cJ cZ cS : ClassId) (sz N : Nat) (a_this a_one a_other a_now a_next a_readOne a_readOther a_readNext a_text a_pathInput a_pathGates a_before a_after a_values a_taken a_waves a_row a_seenPair a_seenTime a_seenLate a_isKept a_kept : Nat) (i_this_inputs : Int32) (i_this_gates : Int32) (i_this_readInputs : Int32) (i_this_readGates : Int32) (i_this_length : Int32) (i_this_paths : Int32) (i_this_acts : Int32) (i_this_turn : Int32) (i_this_seen : Int32) (i_this_seed : Int64) (k_one : (Nat → Int32)) (k_other : (Nat → Int32)) (y1 : Int32) (y2 : Int32) (rr : Int32) (hf : f_X10_feeds N y1 y2 k_one k_other = some (rr)) : MetIr l yX10_feeds wsX10_feeds rmX10_feeds D (tyA cI cJ cZ cS) [(a_this, .inr (10, [.int i_this_inputs, .int i_this_gates, .ref a_now, .ref a_one, .ref a_other, .ref a_next, .int i_this_readInputs, .int i_this_readGates, .ref a_readOne, .ref a_readOther, .ref a_readNext, .ref a_text, .int i_this_length, .int i_this_paths, .ref a_pathInput, .ref a_pathGates, .ref a_before, .ref a_after, .ref a_values, .ref a_taken, .ref a_waves, .int i_this_acts, .int i_this_turn, .ref a_row, .int i_this_seen, .ref a_seenPair, .ref a_seenTime, .ref a_seenLate, .long i_this_seed, .ref a_isKept, .ref a_kept])), (a_one, .inl (cI, 8, .inl k_one)), (a_other, .inl (cI, 8, .inl k_other))] sz [.ref a_this, .int y1, .int y2] rr := by
  refine entZr (cc := cX10_feeds) (maxL := 3) (own := RX10) (by decide) rfl rfl (Nat.le_of_ble_eq_true rfl) ?_
  intro p e s m args below meth c A ls Q S hr hw hl hQ
  have hx := S.1.1
  have hb := S.1.2.1
  have hts := S.1.2.2.2.2
  have hl : lv_has ls 3 [(0, .ref a_this), (1, .int y1), (2, .int y2)] := hl
  have hinX10 : ∀ w ∈ u_ws RX10 TX10 31, w ∈ wsX10_feeds := (fun _ h => List.mem_cons_of_mem _ (List.mem_append_right _ h))
  have F13 : FLk s args wsX10_feeds RX10 13 RX10 TX10 31 10 3 := ⟨hinX10, rfl, by decide, hts (.fieldLink RX10 13 "SlowPathsModel" "one" "[I") (List.mem_of_getElem? (i := 1) rfl)⟩
  have F16 : FLk s args wsX10_feeds RX10 16 RX10 TX10 31 10 4 := ⟨hinX10, rfl, by decide, hts (.fieldLink RX10 16 "SlowPathsModel" "other" "[I") (List.mem_of_getElem? (i := 2) rfl)⟩
  have h := hf
  rw [f_X10_feeds] at h
  refine lv_aload_n hx hb dX10_feeds_0 rfl (lv_at hl 0 rfl) ?_
  refine z_get S hw F13 0 rfl rfl dX10_feeds_1 ?_
  refine lv_iload_n hx hb dX10_feeds_4 rfl (lv_at hl 2 rfl) ?_
  obtain ⟨hg, h⟩ := grd_el h
  refine z_iald S hw 1 0 rfl rfl hg dX10_feeds_5 ?_
  refine lv_iload_n hx hb dX10_feeds_6 rfl (lv_at hl 1 rfl) ?_
  obtain ⟨j20_1, ej20_1, h⟩ := bnd_ex h
  have hj20_1 : ∀ (ls : Array Slot), j20_1 = some (rr) → lv_has ls 3 [] → W p l e rmX10_feeds s m args below meth c s.heap [] 0 0 Q (F0 m 20 ls []) := by
    intro ls h hl
    replace h := ap0 ej20_1 h
    refine lv_iconst (v := (1 : Int32)) hx hb dX10_feeds_20 (by decide) ?_
    refine lv_goto (tgt := 25) hx hb dX10_feeds_21 (by decide) ?_
    cases h
    exact z_zretr S hQ hr rfl dX10_feeds_25
  refine lv_icmp_eq (tgt := 20) hx hb dX10_feeds_7 (by decide) (fun hc => ?_) (fun hc => ?_)
  · replace h := if_t hc h
    exact hj20_1  ls h (lv_sub hl [] rfl)
  · replace h := if_f hc h
    refine lv_aload_n hx hb dX10_feeds_10 rfl (lv_at hl 0 rfl) ?_
    refine z_get S hw F16 0 rfl rfl dX10_feeds_11 ?_
    refine lv_iload_n hx hb dX10_feeds_14 rfl (lv_at hl 2 rfl) ?_
    obtain ⟨hg, h⟩ := grd_el h
    refine z_iald S hw 2 0 rfl rfl hg dX10_feeds_15 ?_
    refine lv_iload_n hx hb dX10_feeds_16 rfl (lv_at hl 1 rfl) ?_
    refine lv_icmp_ne (tgt := 24) hx hb dX10_feeds_17 (by decide) (fun hc => ?_) (fun hc => ?_)
    · replace h := if_f hc h
      refine lv_iconst (v := (0 : Int32)) hx hb dX10_feeds_24 (by decide) ?_
      cases h
      exact z_zretr S hQ hr rfl dX10_feeds_25
    · replace h := if_t hc h
      exact hj20_1  ls h (lv_sub hl [] rfl)
abbrev rmX10_follows : Room := { frames := 1, cells := 0, slots := 0, locals := 22 }
theorem dv_X10_follows : yX10_follows.cls = RX10 ∧ yX10_follows.cls ≠ "java/lang/invoke/MethodHandle" ∧ yX10_follows.cls ≠ "java/lang/invoke/VarHandle" ∧ (parseMethodDescriptor yX10_follows.desc).map (fun d => d.parameters.length) = some 2 := by decide +kernel
noncomputable def f_X10_follows_L8 (N : Nat) (y2 : Int32) (i_this_gates : Int32) (k_one : (Nat → Int32)) (k_other : (Nat → Int32)) (j59_1 : Int32 → Option (Int32)) : Nat → Int32 → Int32 → Int32 → Option (Int32)
  | 0, _, _, _ => none
  | n_8 + 1, x3_2, x4_3, x5_4 =>
    (if i_this_gates ≤ x5_4 then (j59_1 x4_3) else (obd1 (f_X10_has N y2 x5_4) fun (r_5 : Int32) => bnd (fun (x3_6 : Int32) (x4_7 : Int32) => (bnd (x5_4 + (1 : Int32)) fun (x5_8 : Int32) => f_X10_follows_L8 N y2 i_this_gates k_one k_other j59_1 n_8 x3_6 x4_7 x5_8)) fun (j53_1 : Int32 → Int32 → Option (Int32)) => (if r_5 = (0 : Int32) then (j53_1 x3_2 x4_3) else (bnd (fun (t_9 : Int32) => (bnd (((4 : Int32) + x5_4)) fun (x3_10 : Int32) => j53_1 x3_10 t_9)) fun (j46_1 : Int32 → Option (Int32)) => bnd (α := Option (Int32)) (j46_1 ((0 : Int32))) fun (j45_1 : Option (Int32)) => (if x4_3 = (0 : Int32) then (j45_1) else (obd1 (f_X10_feeds N x3_2 x5_4 k_one k_other) fun (r_11 : Int32) => (if r_11 = (0 : Int32) then (j45_1) else (j46_1 ((1 : Int32))))))))))
noncomputable def f_X10_follows (N : Nat) (y1 : Int32) (y2 : Int32) (i_this_gates : Int32) (k_one : (Nat → Int32)) (k_other : (Nat → Int32)) : Option (Int32) :=
  bnd (fun (x4_1 : Int32) => (grd (isZ x4_1) (some (x4_1)))) fun (j59_1 : Int32 → Option (Int32)) => f_X10_follows_L8 N y2 i_this_gates k_one k_other j59_1 N y1 ((1 : Int32)) ((0 : Int32))
set_option maxHeartbeats 4000000 in
set_option maxRecDepth 100000 in
theorem c_X10_follows (l : Launch) (D : va_G) (cI cJ cZ cS : ClassId) (sz N : Nat) (a_this a_one a_other a_now a_next a_readOne a_readOther a_readNext a_text a_pathInput a_pathGates a_before a_after a_values a_taken a_waves a_row a_seenPair a_seenTime a_seenLate a_isKept a_kept : Nat) (i_this_inputs : Int32) (i_this_gates : Int32) (i_this_readInputs : Int32) (i_this_readGates : Int32) (i_this_length : Int32) (i_this_paths : Int32) (i_this_acts : Int32) (i_this_turn : Int32) (i_this_seen : Int32) (i_this_seed : Int64) (k_one : (Nat → Int32)) (k_other : (Nat → Int32)) (y1 : Int32) (y2 : Int32) (rr : Int32) (hf : f_X10_follows N y1 y2 i_this_gates k_one k_other = some (rr)) : MetIr l yX10_follows wsX10_follows rmX10_follows D (tyA cI cJ cZ cS) [(a_this, .inr (10, [.int i_this_inputs, .int i_this_gates, .ref a_now, .ref a_one, .ref a_other, .ref a_next, .int i_this_readInputs, .int i_this_readGates, .ref a_readOne, .ref a_readOther, .ref a_readNext, .ref a_text, .int i_this_length, .int i_this_paths, .ref a_pathInput, .ref a_pathGates, .ref a_before, .ref a_after, .ref a_values, .ref a_taken, .ref a_waves, .int i_this_acts, .int i_this_turn, .ref a_row, .int i_this_seen, .ref a_seenPair, .ref a_seenTime, .ref a_seenLate, .long i_this_seed, .ref a_isKept, .ref a_kept])), (a_one, .inl (cI, 8, .inl k_one)), (a_other, .inl (cI, 8, .inl k_other))] sz [.ref a_this, .int y1, .int y2] rr := by
  refine entZr (cc := cX10_follows) (maxL := 6) (own := RX10) (by decide) rfl rfl (Nat.le_of_ble_eq_true rfl) ?_
  intro p e s m args below meth c A ls Q S hr hw hl hQ
  have hx := S.1.1
  have hb := S.1.2.1
  have hts := S.1.2.2.2.2
  have hl : lv_has ls 6 [(0, .ref a_this), (1, .int y1), (2, .int y2)] := hl
  have hinX10 : ∀ w ∈ u_ws RX10 TX10 31, w ∈ wsX10_follows := (fun _ h => List.mem_cons_of_mem _ (List.mem_append_right _ h))
  have F115 : FLk s args wsX10_follows RX10 115 RX10 TX10 31 10 1 := ⟨hinX10, rfl, by decide, hts (.fieldLink RX10 115 "SlowPathsModel" "gates" "I") (List.mem_of_getElem? (i := 1) rfl)⟩
  have h := hf
  rw [f_X10_follows] at h
  refine lv_iload_n hx hb dX10_follows_0 rfl (lv_at hl 1 rfl) ?_
  refine lv_istore_n (lv' := [(3, .int y1), (0, .ref a_this), (1, .int y1), (2, .int y2)]) hx hb dX10_follows_1 rfl hl (by decide) rfl (fun ls hl => ?_)
  refine lv_iconst (v := (1 : Int32)) hx hb dX10_follows_2 (by decide) ?_
  refine lv_istore (lv' := [(4, .int (1 : Int32)), (3, .int y1), (0, .ref a_this), (1, .int y1), (2, .int y2)]) hx hb dX10_follows_3 hl (by decide) rfl (fun ls hl => ?_)
  refine lv_iconst (v := (0 : Int32)) hx hb dX10_follows_5 (by decide) ?_
  refine lv_istore (lv' := [(5, .int (0 : Int32)), (4, .int (1 : Int32)), (3, .int y1), (0, .ref a_this), (1, .int y1), (2, .int y2)]) hx hb dX10_follows_6 hl (by decide) rfl (fun ls hl => ?_)
  obtain ⟨j59_1, ej59_1, h⟩ := bnd_ex h
  have hj59_1 : ∀ (x4_1 : Int32) (ls : Array Slot), j59_1 x4_1 = some (rr) → lv_has ls 6 [(4, .int x4_1)] → W p l e rmX10_follows s m args below meth c s.heap [] 0 0 Q (F0 m 59 ls []) := by
    intro x4_1 ls h hl
    replace h := ap1 ej59_1 h
    refine lv_iload hx hb dX10_follows_59 (lv_at hl 0 rfl) ?_
    obtain ⟨hz, h⟩ := grd_el h
    cases h
    exact z_zretr S hQ hr (isZ_narrow hz) dX10_follows_61
  have hL8_1 : ∀ (nf : Nat) (x3_2 : Int32) (x4_3 : Int32) (x5_4 : Int32) (ls : Array Slot), f_X10_follows_L8 N y2 i_this_gates k_one k_other j59_1 nf x3_2 x4_3 x5_4 = some (rr) → lv_has ls 6 [(0, .ref a_this), (2, .int y2), (3, .int x3_2), (4, .int x4_3), (5, .int x5_4)] → W p l e rmX10_follows s m args below meth c s.heap [] 0 0 Q (F0 m 8 ls []) := by
    intro nf
    induction nf with
    | zero =>
      intro x3_2 x4_3 x5_4 ls h
      rw [f_X10_follows_L8] at h
      cases h
    | succ n_8 ih_8 =>
      intro x3_2 x4_3 x5_4 ls h hl
      rw [f_X10_follows_L8] at h
      refine lv_iload hx hb dX10_follows_8 (lv_at hl 4 rfl) ?_
      refine lv_aload_n hx hb dX10_follows_10 rfl (lv_at hl 0 rfl) ?_
      refine z_get S hw F115 0 rfl rfl dX10_follows_11 ?_
      refine lv_icmp_ge (tgt := 59) hx hb dX10_follows_14 (by decide) (fun hc => ?_) (fun hc => ?_)
      · replace h := if_t hc h
        exact hj59_1 x4_3 ls h (lv_sub hl [3] rfl)
      · replace h := if_f hc h
        refine lv_iload_n hx hb dX10_follows_17 rfl (lv_at hl 1 rfl) ?_
        refine lv_iload hx hb dX10_follows_18 (lv_at hl 4 rfl) ?_
        obtain ⟨r_5, e20_1, h⟩ := obd1_el h
        refine zr_SI (As := [.int y2, .int x5_4]) (rest := []) (q0 := 0) (ci := 0) (fs := []) (qc := (RX0, TX0, 4)) S hw (c_X10_has l D cI cJ cZ cS s.heap.size N y2 x5_4 r_5 e20_1) (va_cwS 2 hts gX10_follows_X10_has rfl rfl rfl ds_X10_has ⟨Nat.le_of_ble_eq_true rfl, Nat.le_of_ble_eq_true rfl⟩) [] rfl rfl rfl hl.1 rfl (Nat.le_of_ble_eq_true rfl) dX10_follows_20 ⟨Nat.zero_le _, Nat.zero_le _⟩ ?_
        obtain ⟨j53_1, ej53_1, h⟩ := bnd_ex h
        have hj53_1 : ∀ (x3_6 : Int32) (x4_7 : Int32) (ls : Array Slot), j53_1 x3_6 x4_7 = some (rr) → lv_has ls 6 [(0, .ref a_this), (2, .int y2), (3, .int x3_6), (4, .int x4_7), (5, .int x5_4)] → W p l e rmX10_follows s m args below meth c s.heap [] 0 0 Q (F0 m 53 ls []) := by
          intro x3_6 x4_7 ls h hl
          replace h := ap2 ej53_1 h
          obtain ⟨x5_8, ex5_8, h⟩ := bnd_ex h
          refine lv_iinc (v := x5_8) (lv' := [(5, .int x5_8), (0, .ref a_this), (2, .int y2), (3, .int x3_6), (4, .int x4_7)]) hx hb dX10_follows_53 hl (k := 4) rfl (by rw [ex5_8]; rfl) (by decide) rfl (fun ls hl => ?_)
          refine lv_goto (tgt := 8) hx hb dX10_follows_56 (by decide) ?_
          exact ih_8 x3_6 x4_7 x5_8 ls h (lv_sub hl [1, 2, 3, 4, 0] rfl)
        refine lv_if_eq (tgt := 53) hx hb dX10_follows_23 (by decide) (fun hc => ?_) (fun hc => ?_)
        · replace h := if_t hc h
          exact hj53_1 x3_2 x4_3 ls h hl
        · replace h := if_f hc h
          refine lv_iload hx hb dX10_follows_26 (lv_at hl 3 rfl) ?_
          obtain ⟨j46_1, ej46_1, h⟩ := bnd_ex h
          have hj46_1 : ∀ (t_9 : Int32) (ls : Array Slot), j46_1 t_9 = some (rr) → lv_has ls 6 [(0, .ref a_this), (2, .int y2), (5, .int x5_4)] → W p l e rmX10_follows s m args below meth c s.heap [] 0 0 Q (F0 m 46 ls [.int t_9]) := by
            intro t_9 ls h hl
            replace h := ap1 ej46_1 h
            refine lv_istore (lv' := [(4, .int t_9), (0, .ref a_this), (2, .int y2), (5, .int x5_4)]) hx hb dX10_follows_46 hl (by decide) rfl (fun ls hl => ?_)
            refine lv_iconst (v := (4 : Int32)) hx hb dX10_follows_48 (by decide) ?_
            refine lv_iload hx hb dX10_follows_49 (lv_at hl 3 rfl) ?_
            refine lv_iadd hx hb dX10_follows_51 ?_
            refine lv_topi (fun x3_10 ex3_10 => ?_)
            replace h := bnd_at ex3_10 h
            refine lv_istore_n (lv' := [(3, .int x3_10), (4, .int t_9), (0, .ref a_this), (2, .int y2), (5, .int x5_4)]) hx hb dX10_follows_52 rfl hl (by decide) rfl (fun ls hl => ?_)
            exact hj53_1 x3_10 t_9 ls h (lv_sub hl [2, 3, 0, 1, 4] rfl)
          obtain ⟨j45_1, ej45_1, h⟩ := bnd_ex h
          have hj45_1 : ∀ (ls : Array Slot), j45_1 = some (rr) → lv_has ls 6 [(0, .ref a_this), (2, .int y2), (5, .int x5_4)] → W p l e rmX10_follows s m args below meth c s.heap [] 0 0 Q (F0 m 45 ls []) := by
            intro ls h hl
            replace h := ap0 ej45_1 h
            refine lv_iconst (v := (0 : Int32)) hx hb dX10_follows_45 (by decide) ?_
            exact hj46_1 ((0 : Int32)) ls h hl
          refine lv_if_eq (tgt := 45) hx hb dX10_follows_28 (by decide) (fun hc => ?_) (fun hc => ?_)
          · replace h := if_t hc h
            exact hj45_1  ls h (lv_sub hl [0, 1, 4] rfl)
          · replace h := if_f hc h
            refine lv_aload_n hx hb dX10_follows_31 rfl (lv_at hl 0 rfl) ?_
            refine lv_iload_n hx hb dX10_follows_32 rfl (lv_at hl 2 rfl) ?_
            refine lv_iload hx hb dX10_follows_33 (lv_at hl 4 rfl) ?_
            obtain ⟨r_11, e35_1, h⟩ := obd1_el h
            refine zr_VI (As := [.int x3_2, .int x5_4]) (rest := []) (q0 := 0) S hw (c_X10_feeds l D cI cJ cZ cS s.heap.size N a_this a_one a_other a_now a_next a_readOne a_readOther a_readNext a_text a_pathInput a_pathGates a_before a_after a_values a_taken a_waves a_row a_seenPair a_seenTime a_seenLate a_isKept a_kept i_this_inputs i_this_gates i_this_readInputs i_this_readGates i_this_length i_this_paths i_this_acts i_this_turn i_this_seen i_this_seed k_one k_other x3_2 x5_4 r_11 e35_1) (cwV 2 hts gX10_follows_X10_feeds rfl rfl rfl dv_X10_feeds ⟨Nat.le_of_ble_eq_true rfl, Nat.le_of_ble_eq_true rfl⟩) [0, 1, 2] rfl rfl rfl rfl rfl rfl hl.1 rfl (Nat.le_of_ble_eq_true rfl) dX10_follows_35 ⟨Nat.zero_le _, Nat.zero_le _⟩ ?_
            refine lv_if_eq (tgt := 45) hx hb dX10_follows_38 (by decide) (fun hc => ?_) (fun hc => ?_)
            · replace h := if_t hc h
              exact hj45_1  ls h (lv_sub hl [0, 1, 4] rfl)
            · replace h := if_f hc h
              refine lv_iconst (v := (1 : Int32)) hx hb dX10_follows_41 (by decide) ?_
              refine lv_goto (tgt := 46) hx hb dX10_follows_42 (by decide) ?_
              exact hj46_1 ((1 : Int32)) ls h (lv_sub hl [0, 1, 4] rfl)
  exact hL8_1 N y1 ((1 : Int32)) ((0 : Int32)) ls h (lv_sub hl [3, 5, 2, 1, 0] rfl)
abbrev rmX10_findPaths : Room := { frames := 2, cells := 0, slots := 0, locals := 47 }
theorem dv_X10_findPaths : yX10_findPaths.cls = RX10 ∧ yX10_findPaths.cls ≠ "java/lang/invoke/MethodHandle" ∧ yX10_findPaths.cls ≠ "java/lang/invoke/VarHandle" ∧ (parseMethodDescriptor yX10_findPaths.desc).map (fun d => d.parameters.length) = some 0 := by decide +kernel
noncomputable def f_X10_findPaths_L19 (N : Nat) (i_this_gates : Int32) (k_one : (Nat → Int32)) (k_other : (Nat → Int32)) (x1_4 : Int32) (j97_1 : Int32 → (Nat → Int32) → (Nat → Int32) → Option (Int32 × (Nat → Int32) × (Nat → Int32))) : Nat → Int32 → Int32 → (Nat → Int32) → (Nat → Int32) → Option (Int32 × (Nat → Int32) × (Nat → Int32))
  | 0, _, _, _, _ => none
  | n_19 + 1, x2_12, i_this_paths_13, k_pathInput_14, k_pathGates_15 =>
    (if x2_12 ≤ (0 : Int32) then (j97_1 i_this_paths_13 k_pathInput_14 k_pathGates_15) else (obd1 (f_X10_turned N x2_12) fun (r_16 : Int32) => bnd (fun (t_17 : Int32) => (bnd (fun (i_this_paths_18 : Int32) (k_pathInput_19 : (Nat → Int32)) (k_pathGates_20 : (Nat → Int32)) => (bnd (x2_12 + (-1 : Int32)) fun (x2_21 : Int32) => f_X10_findPaths_L19 N i_this_gates k_one k_other x1_4 j97_1 n_19 x2_21 i_this_paths_18 k_pathInput_19 k_pathGates_20)) fun (j91_1 : Int32 → (Nat → Int32) → (Nat → Int32) → Option (Int32 × (Nat → Int32) × (Nat → Int32))) => (if t_17 = (0 : Int32) then (j91_1 i_this_paths_13 k_pathInput_14 k_pathGates_15) else (obd1 (f_X10_follows N x1_4 r_16 i_this_gates k_one k_other) fun (r_22 : Int32) => (if r_22 = (0 : Int32) then (j91_1 i_this_paths_13 k_pathInput_14 k_pathGates_15) else (grd (inb i_this_paths_13 64) <| bnd (upd k_pathInput_14 i_this_paths_13.toNatClampNeg x1_4) fun (k_pathInput_23 : (Nat → Int32)) => grd (inb i_this_paths_13 64) <| bnd (upd k_pathGates_15 i_this_paths_13.toNatClampNeg r_16) fun (k_pathGates_24 : (Nat → Int32)) => bnd ((i_this_paths_13 + (1 : Int32))) fun (i_paths_25 : Int32) => j91_1 i_paths_25 k_pathInput_23 k_pathGates_24)))))) fun (j45_1 : Int32 → Option (Int32 × (Nat → Int32) × (Nat → Int32))) => (if (r_16 >>> ((i_this_gates - (1 : Int32)) &&& 31)) = (1 : Int32) then (j45_1 ((1 : Int32))) else (j45_1 ((0 : Int32))))))
noncomputable def f_X10_findPaths_L7 (N : Nat) (i_this_inputs : Int32) (i_this_gates : Int32) (k_one : (Nat → Int32)) (k_other : (Nat → Int32)) (j103_1 : Int32 → (Nat → Int32) → (Nat → Int32) → Option (Int32 × (Nat → Int32) × (Nat → Int32))) : Nat → Int32 → Int32 → (Nat → Int32) → (Nat → Int32) → Option (Int32 × (Nat → Int32) × (Nat → Int32))
  | 0, _, _, _, _ => none
  | n_7 + 1, x1_4, i_this_paths_5, k_pathInput_6, k_pathGates_7 =>
    (if i_this_inputs ≤ x1_4 then (j103_1 i_this_paths_5 k_pathInput_6 k_pathGates_7) else (bnd (fun (i_this_paths_8 : Int32) (k_pathInput_9 : (Nat → Int32)) (k_pathGates_10 : (Nat → Int32)) => (bnd (x1_4 + (1 : Int32)) fun (x1_11 : Int32) => f_X10_findPaths_L7 N i_this_inputs i_this_gates k_one k_other j103_1 n_7 x1_11 i_this_paths_8 k_pathInput_9 k_pathGates_10)) fun (j97_1 : Int32 → (Nat → Int32) → (Nat → Int32) → Option (Int32 × (Nat → Int32) × (Nat → Int32))) => f_X10_findPaths_L19 N i_this_gates k_one k_other x1_4 j97_1 N ((255 : Int32)) i_this_paths_5 k_pathInput_6 k_pathGates_7))
noncomputable def f_X10_findPaths (N : Nat)  (i_this_inputs : Int32) (i_this_gates : Int32) (i_this_paths : Int32) (k_one : (Nat → Int32)) (k_other : (Nat → Int32)) (k_pathInput : (Nat → Int32)) (k_pathGates : (Nat → Int32)) : Option (Int32 × (Nat → Int32) × (Nat → Int32)) :=
  bnd (fun (i_this_paths_1 : Int32) (k_pathInput_2 : (Nat → Int32)) (k_pathGates_3 : (Nat → Int32)) => (some (i_this_paths_1, k_pathInput_2, k_pathGates_3))) fun (j103_1 : Int32 → (Nat → Int32) → (Nat → Int32) → Option (Int32 × (Nat → Int32) × (Nat → Int32))) => f_X10_findPaths_L7 N i_this_inputs i_this_gates k_one k_other j103_1 N ((0 : Int32)) ((0 : Int32)) k_pathInput k_pathGates
set_option maxHeartbeats 4000000 in
set_option maxRecDepth 100000 in
theorem c_X10_findPaths (l : Launch) (D : va_G) (cI cJ cZ cS : ClassId) (sz N : Nat) (a_this a_one a_other a_pathInput a_pathGates a_now a_next a_readOne a_readOther a_readNext a_text a_before a_after a_values a_taken a_waves a_row a_seenPair a_seenTime a_seenLate a_isKept a_kept : Nat) (i_this_inputs : Int32) (i_this_gates : Int32) (i_this_readInputs : Int32) (i_this_readGates : Int32) (i_this_length : Int32) (i_this_paths : Int32) (i_this_acts : Int32) (i_this_turn : Int32) (i_this_seen : Int32) (i_this_seed : Int64) (k_one : (Nat → Int32)) (k_other : (Nat → Int32)) (k_pathInput : (Nat → Int32)) (k_pathGates : (Nat → Int32))  (o_this_paths : Int32) (o_pathInput : (Nat → Int32)) (o_pathGates : (Nat → Int32)) (hf : f_X10_findPaths N i_this_inputs i_this_gates i_this_paths k_one k_other k_pathInput k_pathGates = some (o_this_paths, o_pathInput, o_pathGates)) : MetV l yX10_findPaths wsX10_findPaths rmX10_findPaths D (tyA cI cJ cZ cS) [(a_this, .inr (10, [.int i_this_inputs, .int i_this_gates, .ref a_now, .ref a_one, .ref a_other, .ref a_next, .int i_this_readInputs, .int i_this_readGates, .ref a_readOne, .ref a_readOther, .ref a_readNext, .ref a_text, .int i_this_length, .int i_this_paths, .ref a_pathInput, .ref a_pathGates, .ref a_before, .ref a_after, .ref a_values, .ref a_taken, .ref a_waves, .int i_this_acts, .int i_this_turn, .ref a_row, .int i_this_seen, .ref a_seenPair, .ref a_seenTime, .ref a_seenLate, .long i_this_seed, .ref a_isKept, .ref a_kept])), (a_one, .inl (cI, 8, .inl k_one)), (a_other, .inl (cI, 8, .inl k_other)), (a_pathInput, .inl (cI, 64, .inl k_pathInput)), (a_pathGates, .inl (cI, 64, .inl k_pathGates))] sz [.ref a_this] [(a_this, .inr (10, [.int i_this_inputs, .int i_this_gates, .ref a_now, .ref a_one, .ref a_other, .ref a_next, .int i_this_readInputs, .int i_this_readGates, .ref a_readOne, .ref a_readOther, .ref a_readNext, .ref a_text, .int i_this_length, .int o_this_paths, .ref a_pathInput, .ref a_pathGates, .ref a_before, .ref a_after, .ref a_values, .ref a_taken, .ref a_waves, .int i_this_acts, .int i_this_turn, .ref a_row, .int i_this_seen, .ref a_seenPair, .ref a_seenTime, .ref a_seenLate, .long i_this_seed, .ref a_isKept, .ref a_kept])), (a_one, .inl (cI, 8, .inl k_one)), (a_other, .inl (cI, 8, .inl k_other)), (a_pathInput, .inl (cI, 64, .inl o_pathInput)), (a_pathGates, .inl (cI, 64, .inl o_pathGates))] := by
  refine entV (cc := cX10_findPaths) (maxL := 5) (own := RX10) (by decide) rfl rfl (Nat.le_of_ble_eq_true rfl) ?_
  intro p e s m args below meth c A ls Q H locs S hr hw hl hQ
  have hx := S.1.1
  have hb := S.1.2.1
  have hts := S.1.2.2.2.2
  have hl : lv_has ls 5 [(0, .ref a_this)] := hl
  have hinX10 : ∀ w ∈ u_ws RX10 TX10 31, w ∈ wsX10_findPaths := (fun _ h => List.mem_cons_of_mem _ (List.mem_append_right _ h))
  have F34 : FLk s args wsX10_findPaths RX10 34 RX10 TX10 31 10 14 := ⟨hinX10, rfl, by decide, hts (.fieldLink RX10 34 "SlowPathsModel" "pathInput" "[I") (List.mem_of_getElem? (i := 4) rfl)⟩
  have F37 : FLk s args wsX10_findPaths RX10 37 RX10 TX10 31 10 15 := ⟨hinX10, rfl, by decide, hts (.fieldLink RX10 37 "SlowPathsModel" "pathGates" "[I") (List.mem_of_getElem? (i := 5) rfl)⟩
  have F112 : FLk s args wsX10_findPaths RX10 112 RX10 TX10 31 10 0 := ⟨hinX10, rfl, by decide, hts (.fieldLink RX10 112 "SlowPathsModel" "inputs" "I") (List.mem_of_getElem? (i := 2) rfl)⟩
  have F115 : FLk s args wsX10_findPaths RX10 115 RX10 TX10 31 10 1 := ⟨hinX10, rfl, by decide, hts (.fieldLink RX10 115 "SlowPathsModel" "gates" "I") (List.mem_of_getElem? (i := 3) rfl)⟩
  have F124 : FLk s args wsX10_findPaths RX10 124 RX10 TX10 31 10 13 := ⟨hinX10, rfl, by decide, hts (.fieldLink RX10 124 "SlowPathsModel" "paths" "I") (List.mem_of_getElem? (i := 1) rfl)⟩
  have P124 : PLk TX10 31 13 tyX10 false .int := ⟨tyX10_ok, nmX10, rfl, rfl⟩
  have h := hf
  rw [f_X10_findPaths] at h
  refine lv_aload_n hx hb dX10_findPaths_0 rfl (lv_at hl 0 rfl) ?_
  refine lv_iconst (v := (0 : Int32)) hx hb dX10_findPaths_1 (by decide) ?_
  refine z_put S hw F124 P124 rfl rfl 0 rfl (Nat.le_of_ble_eq_true rfl) dX10_findPaths_2 (fun H locs hw => ?_)
  refine lv_iconst (v := (0 : Int32)) hx hb dX10_findPaths_5 (by decide) ?_
  refine lv_istore_n (lv' := [(1, .int (0 : Int32)), (0, .ref a_this)]) hx hb dX10_findPaths_6 rfl hl (by decide) rfl (fun ls hl => ?_)
  obtain ⟨j103_1, ej103_1, h⟩ := bnd_ex h
  have hj103_1 : ∀ (i_this_paths_1 : Int32) (k_pathInput_2 : (Nat → Int32)) (k_pathGates_3 : (Nat → Int32)) (H : Heap) (locs : List Loc) (ls : Array Slot), j103_1 i_this_paths_1 k_pathInput_2 k_pathGates_3 = some (o_this_paths, o_pathInput, o_pathGates) → Wd D (tyA cI cJ cZ cS) A s [(a_this, .inr (10, [.int i_this_inputs, .int i_this_gates, .ref a_now, .ref a_one, .ref a_other, .ref a_next, .int i_this_readInputs, .int i_this_readGates, .ref a_readOne, .ref a_readOther, .ref a_readNext, .ref a_text, .int i_this_length, .int i_this_paths_1, .ref a_pathInput, .ref a_pathGates, .ref a_before, .ref a_after, .ref a_values, .ref a_taken, .ref a_waves, .int i_this_acts, .int i_this_turn, .ref a_row, .int i_this_seen, .ref a_seenPair, .ref a_seenTime, .ref a_seenLate, .long i_this_seed, .ref a_isKept, .ref a_kept])), (a_one, .inl (cI, 8, .inl k_one)), (a_other, .inl (cI, 8, .inl k_other)), (a_pathInput, .inl (cI, 64, .inl k_pathInput_2)), (a_pathGates, .inl (cI, 64, .inl k_pathGates_3))] H locs → lv_has ls 5 [] → W p l e rmX10_findPaths s m args below meth c H locs 0 0 Q (F0 m 103 ls []) := by
    intro i_this_paths_1 k_pathInput_2 k_pathGates_3 H locs ls h hw hl
    replace h := ap3 ej103_1 h
    cases h
    exact z_vret S hQ hr hw [0, 1, 2, 3, 4] rfl rfl dX10_findPaths_103
  have hL7_1 : ∀ (nf : Nat) (x1_4 : Int32) (i_this_paths_5 : Int32) (k_pathInput_6 : (Nat → Int32)) (k_pathGates_7 : (Nat → Int32)) (H : Heap) (locs : List Loc) (ls : Array Slot), f_X10_findPaths_L7 N i_this_inputs i_this_gates k_one k_other j103_1 nf x1_4 i_this_paths_5 k_pathInput_6 k_pathGates_7 = some (o_this_paths, o_pathInput, o_pathGates) → Wd D (tyA cI cJ cZ cS) A s [(a_this, .inr (10, [.int i_this_inputs, .int i_this_gates, .ref a_now, .ref a_one, .ref a_other, .ref a_next, .int i_this_readInputs, .int i_this_readGates, .ref a_readOne, .ref a_readOther, .ref a_readNext, .ref a_text, .int i_this_length, .int i_this_paths_5, .ref a_pathInput, .ref a_pathGates, .ref a_before, .ref a_after, .ref a_values, .ref a_taken, .ref a_waves, .int i_this_acts, .int i_this_turn, .ref a_row, .int i_this_seen, .ref a_seenPair, .ref a_seenTime, .ref a_seenLate, .long i_this_seed, .ref a_isKept, .ref a_kept])), (a_one, .inl (cI, 8, .inl k_one)), (a_other, .inl (cI, 8, .inl k_other)), (a_pathInput, .inl (cI, 64, .inl k_pathInput_6)), (a_pathGates, .inl (cI, 64, .inl k_pathGates_7))] H locs → lv_has ls 5 [(0, .ref a_this), (1, .int x1_4)] → W p l e rmX10_findPaths s m args below meth c H locs 0 0 Q (F0 m 7 ls []) := by
    intro nf
    induction nf with
    | zero =>
      intro x1_4 i_this_paths_5 k_pathInput_6 k_pathGates_7 H locs ls h
      rw [f_X10_findPaths_L7] at h
      cases h
    | succ n_7 ih_7 =>
      intro x1_4 i_this_paths_5 k_pathInput_6 k_pathGates_7 H locs ls h hw hl
      rw [f_X10_findPaths_L7] at h
      refine lv_iload_n hx hb dX10_findPaths_7 rfl (lv_at hl 1 rfl) ?_
      refine lv_aload_n hx hb dX10_findPaths_8 rfl (lv_at hl 0 rfl) ?_
      refine z_get S hw F112 0 rfl rfl dX10_findPaths_9 ?_
      refine lv_icmp_ge (tgt := 103) hx hb dX10_findPaths_12 (by decide) (fun hc => ?_) (fun hc => ?_)
      · replace h := if_t hc h
        exact hj103_1 i_this_paths_5 k_pathInput_6 k_pathGates_7 H locs ls h hw (lv_sub hl [] rfl)
      · replace h := if_f hc h
        refine lv_sipush (v := (255 : Int32)) hx hb dX10_findPaths_15 (by decide) ?_
        refine lv_istore_n (lv' := [(2, .int (255 : Int32)), (0, .ref a_this), (1, .int x1_4)]) hx hb dX10_findPaths_18 rfl hl (by decide) rfl (fun ls hl => ?_)
        obtain ⟨j97_1, ej97_1, h⟩ := bnd_ex h
        have hj97_1 : ∀ (i_this_paths_8 : Int32) (k_pathInput_9 : (Nat → Int32)) (k_pathGates_10 : (Nat → Int32)) (H : Heap) (locs : List Loc) (ls : Array Slot), j97_1 i_this_paths_8 k_pathInput_9 k_pathGates_10 = some (o_this_paths, o_pathInput, o_pathGates) → Wd D (tyA cI cJ cZ cS) A s [(a_this, .inr (10, [.int i_this_inputs, .int i_this_gates, .ref a_now, .ref a_one, .ref a_other, .ref a_next, .int i_this_readInputs, .int i_this_readGates, .ref a_readOne, .ref a_readOther, .ref a_readNext, .ref a_text, .int i_this_length, .int i_this_paths_8, .ref a_pathInput, .ref a_pathGates, .ref a_before, .ref a_after, .ref a_values, .ref a_taken, .ref a_waves, .int i_this_acts, .int i_this_turn, .ref a_row, .int i_this_seen, .ref a_seenPair, .ref a_seenTime, .ref a_seenLate, .long i_this_seed, .ref a_isKept, .ref a_kept])), (a_one, .inl (cI, 8, .inl k_one)), (a_other, .inl (cI, 8, .inl k_other)), (a_pathInput, .inl (cI, 64, .inl k_pathInput_9)), (a_pathGates, .inl (cI, 64, .inl k_pathGates_10))] H locs → lv_has ls 5 [(0, .ref a_this), (1, .int x1_4)] → W p l e rmX10_findPaths s m args below meth c H locs 0 0 Q (F0 m 97 ls []) := by
          intro i_this_paths_8 k_pathInput_9 k_pathGates_10 H locs ls h hw hl
          replace h := ap3 ej97_1 h
          obtain ⟨x1_11, ex1_11, h⟩ := bnd_ex h
          refine lv_iinc (v := x1_11) (lv' := [(1, .int x1_11), (0, .ref a_this)]) hx hb dX10_findPaths_97 hl (k := 1) rfl (by rw [ex1_11]; rfl) (by decide) rfl (fun ls hl => ?_)
          refine lv_goto (tgt := 7) hx hb dX10_findPaths_100 (by decide) ?_
          exact ih_7 x1_11 i_this_paths_8 k_pathInput_9 k_pathGates_10 H locs ls h hw (lv_sub hl [1, 0] rfl)
        have hL19_1 : ∀ (nf : Nat) (x2_12 : Int32) (i_this_paths_13 : Int32) (k_pathInput_14 : (Nat → Int32)) (k_pathGates_15 : (Nat → Int32)) (H : Heap) (locs : List Loc) (ls : Array Slot), f_X10_findPaths_L19 N i_this_gates k_one k_other x1_4 j97_1 nf x2_12 i_this_paths_13 k_pathInput_14 k_pathGates_15 = some (o_this_paths, o_pathInput, o_pathGates) → Wd D (tyA cI cJ cZ cS) A s [(a_this, .inr (10, [.int i_this_inputs, .int i_this_gates, .ref a_now, .ref a_one, .ref a_other, .ref a_next, .int i_this_readInputs, .int i_this_readGates, .ref a_readOne, .ref a_readOther, .ref a_readNext, .ref a_text, .int i_this_length, .int i_this_paths_13, .ref a_pathInput, .ref a_pathGates, .ref a_before, .ref a_after, .ref a_values, .ref a_taken, .ref a_waves, .int i_this_acts, .int i_this_turn, .ref a_row, .int i_this_seen, .ref a_seenPair, .ref a_seenTime, .ref a_seenLate, .long i_this_seed, .ref a_isKept, .ref a_kept])), (a_one, .inl (cI, 8, .inl k_one)), (a_other, .inl (cI, 8, .inl k_other)), (a_pathInput, .inl (cI, 64, .inl k_pathInput_14)), (a_pathGates, .inl (cI, 64, .inl k_pathGates_15))] H locs → lv_has ls 5 [(0, .ref a_this), (1, .int x1_4), (2, .int x2_12)] → W p l e rmX10_findPaths s m args below meth c H locs 0 0 Q (F0 m 19 ls []) := by
          intro nf
          induction nf with
          | zero =>
            intro x2_12 i_this_paths_13 k_pathInput_14 k_pathGates_15 H locs ls h
            rw [f_X10_findPaths_L19] at h
            cases h
          | succ n_19 ih_19 =>
            intro x2_12 i_this_paths_13 k_pathInput_14 k_pathGates_15 H locs ls h hw hl
            rw [f_X10_findPaths_L19] at h
            refine lv_iload_n hx hb dX10_findPaths_19 rfl (lv_at hl 2 rfl) ?_
            refine lv_if_le (tgt := 97) hx hb dX10_findPaths_20 (by decide) (fun hc => ?_) (fun hc => ?_)
            · replace h := if_t hc h
              exact hj97_1 i_this_paths_13 k_pathInput_14 k_pathGates_15 H locs ls h hw (lv_sub hl [0, 1] rfl)
            · replace h := if_f hc h
              refine lv_iload_n hx hb dX10_findPaths_23 rfl (lv_at hl 2 rfl) ?_
              obtain ⟨r_16, e24_1, h⟩ := obd1_el h
              refine zr_SI (As := [.int x2_12]) (rest := []) (q0 := 0) (ci := 0) (fs := []) (qc := (RX0, TX0, 4)) S hw (c_X10_turned l D cI cJ cZ cS H.size N x2_12 r_16 e24_1) (va_cwS 1 hts gX10_findPaths_X10_turned rfl rfl rfl ds_X10_turned ⟨Nat.le_of_ble_eq_true rfl, Nat.le_of_ble_eq_true rfl⟩) [] rfl rfl rfl hl.1 rfl (Nat.le_of_ble_eq_true rfl) dX10_findPaths_24 ⟨Nat.zero_le _, Nat.zero_le _⟩ ?_
              refine lv_istore_n (lv' := [(3, .int r_16), (0, .ref a_this), (1, .int x1_4), (2, .int x2_12)]) hx hb dX10_findPaths_27 rfl hl (by decide) rfl (fun ls hl => ?_)
              refine lv_iload_n hx hb dX10_findPaths_28 rfl (lv_at hl 0 rfl) ?_
              refine lv_aload_n hx hb dX10_findPaths_29 rfl (lv_at hl 1 rfl) ?_
              refine z_get S hw F115 0 rfl rfl dX10_findPaths_30 ?_
              refine lv_iconst (v := (1 : Int32)) hx hb dX10_findPaths_33 (by decide) ?_
              refine lv_isub hx hb dX10_findPaths_34 ?_
              refine lv_ishr hx hb dX10_findPaths_35 ?_
              refine lv_iconst (v := (1 : Int32)) hx hb dX10_findPaths_36 (by decide) ?_
              obtain ⟨j45_1, ej45_1, h⟩ := bnd_ex h
              have hj45_1 : ∀ (t_17 : Int32) (H : Heap) (locs : List Loc) (ls : Array Slot), j45_1 t_17 = some (o_this_paths, o_pathInput, o_pathGates) → Wd D (tyA cI cJ cZ cS) A s [(a_this, .inr (10, [.int i_this_inputs, .int i_this_gates, .ref a_now, .ref a_one, .ref a_other, .ref a_next, .int i_this_readInputs, .int i_this_readGates, .ref a_readOne, .ref a_readOther, .ref a_readNext, .ref a_text, .int i_this_length, .int i_this_paths_13, .ref a_pathInput, .ref a_pathGates, .ref a_before, .ref a_after, .ref a_values, .ref a_taken, .ref a_waves, .int i_this_acts, .int i_this_turn, .ref a_row, .int i_this_seen, .ref a_seenPair, .ref a_seenTime, .ref a_seenLate, .long i_this_seed, .ref a_isKept, .ref a_kept])), (a_one, .inl (cI, 8, .inl k_one)), (a_other, .inl (cI, 8, .inl k_other)), (a_pathInput, .inl (cI, 64, .inl k_pathInput_14)), (a_pathGates, .inl (cI, 64, .inl k_pathGates_15))] H locs → lv_has ls 5 [(0, .ref a_this), (1, .int x1_4), (2, .int x2_12), (3, .int r_16)] → W p l e rmX10_findPaths s m args below meth c H locs 0 0 Q (F0 m 45 ls [.int t_17]) := by
                intro t_17 H locs ls h hw hl
                replace h := ap1 ej45_1 h
                refine lv_istore (lv' := [(4, .int t_17), (0, .ref a_this), (1, .int x1_4), (2, .int x2_12), (3, .int r_16)]) hx hb dX10_findPaths_45 hl (by decide) rfl (fun ls hl => ?_)
                refine lv_iload hx hb dX10_findPaths_47 (lv_at hl 0 rfl) ?_
                obtain ⟨j91_1, ej91_1, h⟩ := bnd_ex h
                have hj91_1 : ∀ (i_this_paths_18 : Int32) (k_pathInput_19 : (Nat → Int32)) (k_pathGates_20 : (Nat → Int32)) (H : Heap) (locs : List Loc) (ls : Array Slot), j91_1 i_this_paths_18 k_pathInput_19 k_pathGates_20 = some (o_this_paths, o_pathInput, o_pathGates) → Wd D (tyA cI cJ cZ cS) A s [(a_this, .inr (10, [.int i_this_inputs, .int i_this_gates, .ref a_now, .ref a_one, .ref a_other, .ref a_next, .int i_this_readInputs, .int i_this_readGates, .ref a_readOne, .ref a_readOther, .ref a_readNext, .ref a_text, .int i_this_length, .int i_this_paths_18, .ref a_pathInput, .ref a_pathGates, .ref a_before, .ref a_after, .ref a_values, .ref a_taken, .ref a_waves, .int i_this_acts, .int i_this_turn, .ref a_row, .int i_this_seen, .ref a_seenPair, .ref a_seenTime, .ref a_seenLate, .long i_this_seed, .ref a_isKept, .ref a_kept])), (a_one, .inl (cI, 8, .inl k_one)), (a_other, .inl (cI, 8, .inl k_other)), (a_pathInput, .inl (cI, 64, .inl k_pathInput_19)), (a_pathGates, .inl (cI, 64, .inl k_pathGates_20))] H locs → lv_has ls 5 [(0, .ref a_this), (1, .int x1_4), (2, .int x2_12)] → W p l e rmX10_findPaths s m args below meth c H locs 0 0 Q (F0 m 91 ls []) := by
                  intro i_this_paths_18 k_pathInput_19 k_pathGates_20 H locs ls h hw hl
                  replace h := ap3 ej91_1 h
                  obtain ⟨x2_21, ex2_21, h⟩ := bnd_ex h
                  refine lv_iinc (v := x2_21) (lv' := [(2, .int x2_21), (0, .ref a_this), (1, .int x1_4)]) hx hb dX10_findPaths_91 hl (k := 2) rfl (by rw [ex2_21]; rfl) (by decide) rfl (fun ls hl => ?_)
                  refine lv_goto (tgt := 19) hx hb dX10_findPaths_94 (by decide) ?_
                  exact ih_19 x2_21 i_this_paths_18 k_pathInput_19 k_pathGates_20 H locs ls h hw (lv_sub hl [1, 2, 0] rfl)
                refine lv_if_eq (tgt := 91) hx hb dX10_findPaths_49 (by decide) (fun hc => ?_) (fun hc => ?_)
                · replace h := if_t hc h
                  exact hj91_1 i_this_paths_13 k_pathInput_14 k_pathGates_15 H locs ls h hw (lv_sub hl [1, 2, 3] rfl)
                · replace h := if_f hc h
                  refine lv_aload_n hx hb dX10_findPaths_52 rfl (lv_at hl 1 rfl) ?_
                  refine lv_iload_n hx hb dX10_findPaths_53 rfl (lv_at hl 2 rfl) ?_
                  refine lv_iload_n hx hb dX10_findPaths_54 rfl (lv_at hl 4 rfl) ?_
                  obtain ⟨r_22, e55_1, h⟩ := obd1_el h
                  refine zr_VI (As := [.int x1_4, .int r_16]) (rest := []) (q0 := 0) S hw (c_X10_follows l D cI cJ cZ cS H.size N a_this a_one a_other a_now a_next a_readOne a_readOther a_readNext a_text a_pathInput a_pathGates a_before a_after a_values a_taken a_waves a_row a_seenPair a_seenTime a_seenLate a_isKept a_kept i_this_inputs i_this_gates i_this_readInputs i_this_readGates i_this_length i_this_paths_13 i_this_acts i_this_turn i_this_seen i_this_seed k_one k_other x1_4 r_16 r_22 e55_1) (cwV 2 hts gX10_findPaths_X10_follows rfl rfl rfl dv_X10_follows ⟨Nat.le_of_ble_eq_true rfl, Nat.le_of_ble_eq_true rfl⟩) [0, 1, 2] rfl rfl rfl rfl rfl rfl hl.1 rfl (Nat.le_of_ble_eq_true rfl) dX10_findPaths_55 ⟨Nat.zero_le _, Nat.zero_le _⟩ ?_
                  refine lv_if_eq (tgt := 91) hx hb dX10_findPaths_58 (by decide) (fun hc => ?_) (fun hc => ?_)
                  · replace h := if_t hc h
                    exact hj91_1 i_this_paths_13 k_pathInput_14 k_pathGates_15 H locs ls h hw (lv_sub hl [1, 2, 3] rfl)
                  · replace h := if_f hc h
                    refine lv_aload_n hx hb dX10_findPaths_61 rfl (lv_at hl 1 rfl) ?_
                    refine z_get S hw F34 0 rfl rfl dX10_findPaths_62 ?_
                    refine lv_aload_n hx hb dX10_findPaths_65 rfl (lv_at hl 1 rfl) ?_
                    refine z_get S hw F124 0 rfl rfl dX10_findPaths_66 ?_
                    refine lv_iload_n hx hb dX10_findPaths_69 rfl (lv_at hl 2 rfl) ?_
                    obtain ⟨hg, h⟩ := grd_el h
                    obtain ⟨k_pathInput_23, ek_pathInput_23, h⟩ := bnd_ex h
                    refine z_iast S hw ek_pathInput_23 3 0 rfl rfl hg dX10_findPaths_70 (fun H locs hw => ?_)
                    refine lv_aload_n hx hb dX10_findPaths_71 rfl (lv_at hl 1 rfl) ?_
                    refine z_get S hw F37 0 rfl rfl dX10_findPaths_72 ?_
                    refine lv_aload_n hx hb dX10_findPaths_75 rfl (lv_at hl 1 rfl) ?_
                    refine z_get S hw F124 0 rfl rfl dX10_findPaths_76 ?_
                    refine lv_iload_n hx hb dX10_findPaths_79 rfl (lv_at hl 4 rfl) ?_
                    obtain ⟨hg, h⟩ := grd_el h
                    obtain ⟨k_pathGates_24, ek_pathGates_24, h⟩ := bnd_ex h
                    refine z_iast S hw ek_pathGates_24 4 0 rfl rfl hg dX10_findPaths_80 (fun H locs hw => ?_)
                    refine lv_aload_n hx hb dX10_findPaths_81 rfl (lv_at hl 1 rfl) ?_
                    refine lv_dup hx hb dX10_findPaths_82 rfl ?_
                    refine z_get S hw F124 0 rfl rfl dX10_findPaths_83 ?_
                    refine lv_iconst (v := (1 : Int32)) hx hb dX10_findPaths_86 (by decide) ?_
                    refine lv_iadd hx hb dX10_findPaths_87 ?_
                    refine lv_topi (fun i_paths_25 ei_paths_25 => ?_)
                    replace h := bnd_at ei_paths_25 h
                    refine z_put S hw F124 P124 rfl rfl 0 rfl (Nat.le_of_ble_eq_true rfl) dX10_findPaths_88 (fun H locs hw => ?_)
                    exact hj91_1 i_paths_25 k_pathInput_23 k_pathGates_24 H locs ls h hw (lv_sub hl [1, 2, 3] rfl)
              refine lv_icmp_ne (tgt := 44) hx hb dX10_findPaths_37 (by decide) (fun hc => ?_) (fun hc => ?_)
              · replace h := if_f hc h
                refine lv_iconst (v := (0 : Int32)) hx hb dX10_findPaths_44 (by decide) ?_
                exact hj45_1 ((0 : Int32)) H locs ls h hw (lv_sub hl [1, 2, 3, 0] rfl)
              · replace h := if_t hc h
                refine lv_iconst (v := (1 : Int32)) hx hb dX10_findPaths_40 (by decide) ?_
                refine lv_goto (tgt := 45) hx hb dX10_findPaths_41 (by decide) ?_
                exact hj45_1 ((1 : Int32)) H locs ls h hw (lv_sub hl [1, 2, 3, 0] rfl)
        exact hL19_1 N ((255 : Int32)) i_this_paths_5 k_pathInput_6 k_pathGates_7 H locs ls h hw (lv_sub hl [1, 2, 0] rfl)
  exact hL7_1 N ((0 : Int32)) ((0 : Int32)) k_pathInput k_pathGates H locs ls h hw (lv_sub hl [1, 0] rfl)
abbrev rmX10_circuit : Room := { frames := 4, cells := 0, slots := 0, locals := 93 }
theorem dv_X10_circuit : yX10_circuit.cls = RX10 ∧ yX10_circuit.cls ≠ "java/lang/invoke/MethodHandle" ∧ yX10_circuit.cls ≠ "java/lang/invoke/VarHandle" ∧ (parseMethodDescriptor yX10_circuit.desc).map (fun d => d.parameters.length) = some 0 := by decide +kernel
noncomputable def f_X10_circuit_L95 (N : Nat) (k_readNext_4 : (Nat → Int32)) (j118_1 : (Nat → Int32) → Option (Int32 × Int32 × Int32 × Int32 × Int32 × Int32 × Int32 × (Nat → Int32) × (Nat → Int32) × (Nat → Int32) × (Nat → Int32) × (Nat → Int32) × (Nat → Int32) × (Nat → Int32) × (Nat → Int32) × (Nat → Int32) × (Nat → Int32))) : Nat → Int32 → (Nat → Int32) → Option (Int32 × Int32 × Int32 × Int32 × Int32 × Int32 × Int32 × (Nat → Int32) × (Nat → Int32) × (Nat → Int32) × (Nat → Int32) × (Nat → Int32) × (Nat → Int32) × (Nat → Int32) × (Nat → Int32) × (Nat → Int32) × (Nat → Int32))
  | 0, _, _ => none
  | n_95 + 1, x1_17, k_next_18 =>
    (if (4 : Int32) ≤ x1_17 then (j118_1 k_next_18) else (grd (inb x1_17 4) <| grd (inb x1_17 4) <| bnd (upd k_next_18 x1_17.toNatClampNeg (k_readNext_4 x1_17.toNatClampNeg)) fun (k_next_19 : (Nat → Int32)) => bnd (x1_17 + (1 : Int32)) fun (x1_20 : Int32) => f_X10_circuit_L95 N k_readNext_4 j118_1 n_95 x1_20 k_next_19))
noncomputable def f_X10_circuit_L30 (N : Nat) (k_readOne_6 : (Nat → Int32)) (k_readOther_7 : (Nat → Int32)) (j93_1 : (Nat → Int32) → (Nat → Int32) → (Nat → Int32) → Option (Int32 × Int32 × Int32 × Int32 × Int32 × Int32 × Int32 × (Nat → Int32) × (Nat → Int32) × (Nat → Int32) × (Nat → Int32) × (Nat → Int32) × (Nat → Int32) × (Nat → Int32) × (Nat → Int32) × (Nat → Int32) × (Nat → Int32))) : Nat → Int32 → (Nat → Int32) → (Nat → Int32) → (Nat → Int32) → Option (Int32 × Int32 × Int32 × Int32 × Int32 × Int32 × Int32 × (Nat → Int32) × (Nat → Int32) × (Nat → Int32) × (Nat → Int32) × (Nat → Int32) × (Nat → Int32) × (Nat → Int32) × (Nat → Int32) × (Nat → Int32) × (Nat → Int32))
  | 0, _, _, _, _ => none
  | n_30 + 1, x1_21, k_now_22, k_one_23, k_other_24 =>
    (if (8 : Int32) ≤ x1_21 then (j93_1 k_now_22 k_one_23 k_other_24) else (grd (inb ((16 : Int32) + x1_21) 32) <| grd (inb ((0 : Int32) + x1_21) 32) <| bnd (upd k_now_22 ((0 : Int32) + x1_21).toNatClampNeg (k_now_22 ((16 : Int32) + x1_21).toNatClampNeg)) fun (k_now_25 : (Nat → Int32)) => grd (inb ((8 : Int32) + x1_21) 32) <| bnd (upd k_now_25 ((8 : Int32) + x1_21).toNatClampNeg (1 : Int32)) fun (k_now_26 : (Nat → Int32)) => grd (inb x1_21 8) <| grd (inb x1_21 8) <| bnd (upd k_one_23 x1_21.toNatClampNeg (k_readOne_6 x1_21.toNatClampNeg)) fun (k_one_27 : (Nat → Int32)) => grd (inb x1_21 8) <| grd (inb x1_21 8) <| bnd (upd k_other_24 x1_21.toNatClampNeg (k_readOther_7 x1_21.toNatClampNeg)) fun (k_other_28 : (Nat → Int32)) => bnd (x1_21 + (1 : Int32)) fun (x1_29 : Int32) => f_X10_circuit_L30 N k_readOne_6 k_readOther_7 j93_1 n_30 x1_29 k_now_26 k_one_27 k_other_28))
noncomputable def f_X10_circuit (N : Nat)  (i_this_inputs : Int32) (i_this_gates : Int32) (i_this_readInputs : Int32) (i_this_readGates : Int32) (i_this_length : Int32) (i_this_paths : Int32) (i_this_acts : Int32) (k_text : (Nat → Int32)) (k_readNext : (Nat → Int32)) (k_now : (Nat → Int32)) (k_readOne : (Nat → Int32)) (k_readOther : (Nat → Int32)) (k_isKept : (Nat → Int32)) (k_one : (Nat → Int32)) (k_other : (Nat → Int32)) (k_pathInput : (Nat → Int32)) (k_pathGates : (Nat → Int32)) (k_next : (Nat → Int32)) : Option (Int32 × Int32 × Int32 × Int32 × Int32 × Int32 × Int32 × (Nat → Int32) × (Nat → Int32) × (Nat → Int32) × (Nat → Int32) × (Nat → Int32) × (Nat → Int32) × (Nat → Int32) × (Nat → Int32) × (Nat → Int32) × (Nat → Int32)) :=
  obd7 (f_X10_readText N i_this_readInputs i_this_readGates i_this_length k_text k_readNext k_now k_readOne k_readOther) fun (r_1 : Int32) (i_this_readInputs_2 : Int32) (i_this_readGates_3 : Int32) (k_readNext_4 : (Nat → Int32)) (k_now_5 : (Nat → Int32)) (k_readOne_6 : (Nat → Int32)) (k_readOther_7 : (Nat → Int32)) => (if r_1 = (-9 : Int32) then (bnd (fun (k_now_8 : (Nat → Int32)) (k_one_9 : (Nat → Int32)) (k_other_10 : (Nat → Int32)) => (bnd (fun (k_next_11 : (Nat → Int32)) => (grd (inb (0 : Int32) 2) <| bnd (upd k_isKept (0 : Int32).toNatClampNeg (vp_nar .boolean (0 : Int32))) fun (k_isKept_12 : (Nat → Int32)) => grd (inb (1 : Int32) 2) <| bnd (upd k_isKept_12 (1 : Int32).toNatClampNeg (vp_nar .boolean (0 : Int32))) fun (k_isKept_13 : (Nat → Int32)) => obd3 (f_X10_findPaths N i_this_readInputs_2 i_this_readGates_3 i_this_paths k_one_9 k_other_10 k_pathInput k_pathGates) fun (i_this_paths_14 : Int32) (k_pathInput_15 : (Nat → Int32)) (k_pathGates_16 : (Nat → Int32)) => some (i_this_paths_14, i_this_readInputs_2, i_this_readGates_3, i_this_readInputs_2, i_this_readGates_3, i_this_paths_14, (0 : Int32), k_readNext_4, k_now_8, k_readOne_6, k_readOther_7, k_isKept_13, k_one_9, k_other_10, k_pathInput_15, k_pathGates_16, k_next_11))) fun (j118_1 : (Nat → Int32) → Option (Int32 × Int32 × Int32 × Int32 × Int32 × Int32 × Int32 × (Nat → Int32) × (Nat → Int32) × (Nat → Int32) × (Nat → Int32) × (Nat → Int32) × (Nat → Int32) × (Nat → Int32) × (Nat → Int32) × (Nat → Int32) × (Nat → Int32))) => f_X10_circuit_L95 N k_readNext_4 j118_1 N ((0 : Int32)) k_next)) fun (j93_1 : (Nat → Int32) → (Nat → Int32) → (Nat → Int32) → Option (Int32 × Int32 × Int32 × Int32 × Int32 × Int32 × Int32 × (Nat → Int32) × (Nat → Int32) × (Nat → Int32) × (Nat → Int32) × (Nat → Int32) × (Nat → Int32) × (Nat → Int32) × (Nat → Int32) × (Nat → Int32) × (Nat → Int32))) => f_X10_circuit_L30 N k_readOne_6 k_readOther_7 j93_1 N ((0 : Int32)) k_now_5 k_one k_other) else (some ((-3 : Int32), i_this_inputs, i_this_gates, i_this_readInputs_2, i_this_readGates_3, i_this_paths, i_this_acts, k_readNext_4, k_now_5, k_readOne_6, k_readOther_7, k_isKept, k_one, k_other, k_pathInput, k_pathGates, k_next)))
set_option maxHeartbeats 4000000 in
set_option maxRecDepth 100000 in
theorem c_X10_circuit (l : Launch) (D : va_G) (cI cJ cZ cS : ClassId) (sz N : Nat) (a_this a_text a_readNext a_now a_readOne a_readOther a_isKept a_one a_other a_pathInput a_pathGates a_next a_before a_after a_values a_taken a_waves a_row a_seenPair a_seenTime a_seenLate a_kept : Nat) (i_this_inputs : Int32) (i_this_gates : Int32) (i_this_readInputs : Int32) (i_this_readGates : Int32) (i_this_length : Int32) (i_this_paths : Int32) (i_this_acts : Int32) (i_this_turn : Int32) (i_this_seen : Int32) (i_this_seed : Int64) (k_text : (Nat → Int32)) (k_readNext : (Nat → Int32)) (k_now : (Nat → Int32)) (k_readOne : (Nat → Int32)) (k_readOther : (Nat → Int32)) (k_isKept : (Nat → Int32)) (k_one : (Nat → Int32)) (k_other : (Nat → Int32)) (k_pathInput : (Nat → Int32)) (k_pathGates : (Nat → Int32)) (k_next : (Nat → Int32))  (rr : Int32) (o_this_inputs : Int32) (o_this_gates : Int32) (o_this_readInputs : Int32) (o_this_readGates : Int32) (o_this_paths : Int32) (o_this_acts : Int32) (o_readNext : (Nat → Int32)) (o_now : (Nat → Int32)) (o_readOne : (Nat → Int32)) (o_readOther : (Nat → Int32)) (o_isKept : (Nat → Int32)) (o_one : (Nat → Int32)) (o_other : (Nat → Int32)) (o_pathInput : (Nat → Int32)) (o_pathGates : (Nat → Int32)) (o_next : (Nat → Int32)) (hf : f_X10_circuit N i_this_inputs i_this_gates i_this_readInputs i_this_readGates i_this_length i_this_paths i_this_acts k_text k_readNext k_now k_readOne k_readOther k_isKept k_one k_other k_pathInput k_pathGates k_next = some (rr, o_this_inputs, o_this_gates, o_this_readInputs, o_this_readGates, o_this_paths, o_this_acts, o_readNext, o_now, o_readOne, o_readOther, o_isKept, o_one, o_other, o_pathInput, o_pathGates, o_next)) : MetI l yX10_circuit wsX10_circuit rmX10_circuit D (tyA cI cJ cZ cS) [(a_this, .inr (10, [.int i_this_inputs, .int i_this_gates, .ref a_now, .ref a_one, .ref a_other, .ref a_next, .int i_this_readInputs, .int i_this_readGates, .ref a_readOne, .ref a_readOther, .ref a_readNext, .ref a_text, .int i_this_length, .int i_this_paths, .ref a_pathInput, .ref a_pathGates, .ref a_before, .ref a_after, .ref a_values, .ref a_taken, .ref a_waves, .int i_this_acts, .int i_this_turn, .ref a_row, .int i_this_seen, .ref a_seenPair, .ref a_seenTime, .ref a_seenLate, .long i_this_seed, .ref a_isKept, .ref a_kept])), (a_text, .inl (cI, 40, .inl k_text)), (a_readNext, .inl (cI, 4, .inl k_readNext)), (a_now, .inl (cI, 32, .inl k_now)), (a_readOne, .inl (cI, 8, .inl k_readOne)), (a_readOther, .inl (cI, 8, .inl k_readOther)), (a_isKept, .inl (cZ, 2, .inl k_isKept)), (a_one, .inl (cI, 8, .inl k_one)), (a_other, .inl (cI, 8, .inl k_other)), (a_pathInput, .inl (cI, 64, .inl k_pathInput)), (a_pathGates, .inl (cI, 64, .inl k_pathGates)), (a_next, .inl (cI, 4, .inl k_next))] sz [.ref a_this] rr [(a_this, .inr (10, [.int o_this_inputs, .int o_this_gates, .ref a_now, .ref a_one, .ref a_other, .ref a_next, .int o_this_readInputs, .int o_this_readGates, .ref a_readOne, .ref a_readOther, .ref a_readNext, .ref a_text, .int i_this_length, .int o_this_paths, .ref a_pathInput, .ref a_pathGates, .ref a_before, .ref a_after, .ref a_values, .ref a_taken, .ref a_waves, .int o_this_acts, .int i_this_turn, .ref a_row, .int i_this_seen, .ref a_seenPair, .ref a_seenTime, .ref a_seenLate, .long i_this_seed, .ref a_isKept, .ref a_kept])), (a_text, .inl (cI, 40, .inl k_text)), (a_readNext, .inl (cI, 4, .inl o_readNext)), (a_now, .inl (cI, 32, .inl o_now)), (a_readOne, .inl (cI, 8, .inl o_readOne)), (a_readOther, .inl (cI, 8, .inl o_readOther)), (a_isKept, .inl (cZ, 2, .inl o_isKept)), (a_one, .inl (cI, 8, .inl o_one)), (a_other, .inl (cI, 8, .inl o_other)), (a_pathInput, .inl (cI, 64, .inl o_pathInput)), (a_pathGates, .inl (cI, 64, .inl o_pathGates)), (a_next, .inl (cI, 4, .inl o_next))] := by
  refine entI (cc := cX10_circuit) (maxL := 2) (own := RX10) (by decide) rfl rfl (Nat.le_of_ble_eq_true rfl) ?_
  intro p e s m args below meth c A ls Q H locs S hr hw hl hQ
  have hx := S.1.1
  have hb := S.1.2.1
  have hts := S.1.2.2.2.2
  have hl : lv_has ls 2 [(0, .ref a_this)] := hl
  have hinX10 : ∀ w ∈ u_ws RX10 TX10 31, w ∈ wsX10_circuit := (fun _ h => List.mem_cons_of_mem _ (List.mem_append_right _ h))
  have F7 : FLk s args wsX10_circuit RX10 7 RX10 TX10 31 10 2 := ⟨hinX10, rfl, by decide, hts (.fieldLink RX10 7 "SlowPathsModel" "now" "[I") (List.mem_of_getElem? (i := 5) rfl)⟩
  have F13 : FLk s args wsX10_circuit RX10 13 RX10 TX10 31 10 3 := ⟨hinX10, rfl, by decide, hts (.fieldLink RX10 13 "SlowPathsModel" "one" "[I") (List.mem_of_getElem? (i := 6) rfl)⟩
  have F16 : FLk s args wsX10_circuit RX10 16 RX10 TX10 31 10 4 := ⟨hinX10, rfl, by decide, hts (.fieldLink RX10 16 "SlowPathsModel" "other" "[I") (List.mem_of_getElem? (i := 8) rfl)⟩
  have F19 : FLk s args wsX10_circuit RX10 19 RX10 TX10 31 10 5 := ⟨hinX10, rfl, by decide, hts (.fieldLink RX10 19 "SlowPathsModel" "next" "[I") (List.mem_of_getElem? (i := 10) rfl)⟩
  have F22 : FLk s args wsX10_circuit RX10 22 RX10 TX10 31 10 8 := ⟨hinX10, rfl, by decide, hts (.fieldLink RX10 22 "SlowPathsModel" "readOne" "[I") (List.mem_of_getElem? (i := 7) rfl)⟩
  have F25 : FLk s args wsX10_circuit RX10 25 RX10 TX10 31 10 9 := ⟨hinX10, rfl, by decide, hts (.fieldLink RX10 25 "SlowPathsModel" "readOther" "[I") (List.mem_of_getElem? (i := 9) rfl)⟩
  have F28 : FLk s args wsX10_circuit RX10 28 RX10 TX10 31 10 10 := ⟨hinX10, rfl, by decide, hts (.fieldLink RX10 28 "SlowPathsModel" "readNext" "[I") (List.mem_of_getElem? (i := 11) rfl)⟩
  have F67 : FLk s args wsX10_circuit RX10 67 RX10 TX10 31 10 29 := ⟨hinX10, rfl, by decide, hts (.fieldLink RX10 67 "SlowPathsModel" "isKept" "[Z") (List.mem_of_getElem? (i := 13) rfl)⟩
  have F86 : FLk s args wsX10_circuit RX10 86 RX10 TX10 31 10 6 := ⟨hinX10, rfl, by decide, hts (.fieldLink RX10 86 "SlowPathsModel" "readInputs" "I") (List.mem_of_getElem? (i := 1) rfl)⟩
  have F91 : FLk s args wsX10_circuit RX10 91 RX10 TX10 31 10 7 := ⟨hinX10, rfl, by decide, hts (.fieldLink RX10 91 "SlowPathsModel" "readGates" "I") (List.mem_of_getElem? (i := 3) rfl)⟩
  have F112 : FLk s args wsX10_circuit RX10 112 RX10 TX10 31 10 0 := ⟨hinX10, rfl, by decide, hts (.fieldLink RX10 112 "SlowPathsModel" "inputs" "I") (List.mem_of_getElem? (i := 2) rfl)⟩
  have F115 : FLk s args wsX10_circuit RX10 115 RX10 TX10 31 10 1 := ⟨hinX10, rfl, by decide, hts (.fieldLink RX10 115 "SlowPathsModel" "gates" "I") (List.mem_of_getElem? (i := 4) rfl)⟩
  have F118 : FLk s args wsX10_circuit RX10 118 RX10 TX10 31 10 21 := ⟨hinX10, rfl, by decide, hts (.fieldLink RX10 118 "SlowPathsModel" "acts" "I") (List.mem_of_getElem? (i := 12) rfl)⟩
  have F124 : FLk s args wsX10_circuit RX10 124 RX10 TX10 31 10 13 := ⟨hinX10, rfl, by decide, hts (.fieldLink RX10 124 "SlowPathsModel" "paths" "I") (List.mem_of_getElem? (i := 14) rfl)⟩
  have P112 : PLk TX10 31 0 tyX10 false .int := ⟨tyX10_ok, nmX10, rfl, rfl⟩
  have P115 : PLk TX10 31 1 tyX10 false .int := ⟨tyX10_ok, nmX10, rfl, rfl⟩
  have P118 : PLk TX10 31 21 tyX10 false .int := ⟨tyX10_ok, nmX10, rfl, rfl⟩
  have h := hf
  rw [f_X10_circuit] at h
  refine lv_aload_n hx hb dX10_circuit_0 rfl (lv_at hl 0 rfl) ?_
  obtain ⟨r_1, i_this_readInputs_2, i_this_readGates_3, k_readNext_4, k_now_5, k_readOne_6, k_readOther_7, e1_1, h⟩ := obd7_el h
  refine zc_VI (As := []) (rest := []) (wr := [(a_isKept, .inl (cZ, 2, .inl k_isKept)), (a_one, .inl (cI, 8, .inl k_one)), (a_other, .inl (cI, 8, .inl k_other)), (a_pathInput, .inl (cI, 64, .inl k_pathInput)), (a_pathGates, .inl (cI, 64, .inl k_pathGates)), (a_next, .inl (cI, 4, .inl k_next))]) (q0 := 0) S hw (c_X10_readText l D cI cJ cZ cS H.size N a_this a_text a_readNext a_now a_readOne a_readOther a_one a_other a_next a_pathInput a_pathGates a_before a_after a_values a_taken a_waves a_row a_seenPair a_seenTime a_seenLate a_isKept a_kept i_this_inputs i_this_gates i_this_readInputs i_this_readGates i_this_length i_this_paths i_this_acts i_this_turn i_this_seen i_this_seed k_text k_readNext k_now k_readOne k_readOther r_1 i_this_readInputs_2 i_this_readGates_3 k_readNext_4 k_now_5 k_readOne_6 k_readOther_7 e1_1) (cwV 0 hts gX10_circuit_X10_readText rfl rfl rfl dv_X10_readText ⟨Nat.le_of_ble_eq_true rfl, Nat.le_of_ble_eq_true rfl⟩) [0, 1, 2, 3, 4, 5] [6, 7, 8, 9, 10, 11] rfl rfl rfl rfl (by decide) rfl rfl rfl rfl hl.1 rfl (Nat.le_of_ble_eq_true rfl) dX10_circuit_1 ⟨Nat.zero_le _, Nat.zero_le _⟩ (fun H locs hw => ?_)
  refine lv_bipush (v := (-9 : Int32)) hx hb dX10_circuit_4 (by decide) ?_
  refine lv_icmp_eq (tgt := 12) hx hb dX10_circuit_6 (by decide) (fun hc => ?_) (fun hc => ?_)
  · replace h := if_t hc h
    refine lv_aload_n hx hb dX10_circuit_12 rfl (lv_at hl 0 rfl) ?_
    refine lv_aload_n hx hb dX10_circuit_13 rfl (lv_at hl 0 rfl) ?_
    refine z_get S hw F86 6 rfl rfl dX10_circuit_14 ?_
    refine z_put S hw F112 P112 rfl rfl 6 rfl (Nat.le_of_ble_eq_true rfl) dX10_circuit_17 (fun H locs hw => ?_)
    refine lv_aload_n hx hb dX10_circuit_20 rfl (lv_at hl 0 rfl) ?_
    refine lv_aload_n hx hb dX10_circuit_21 rfl (lv_at hl 0 rfl) ?_
    refine z_get S hw F91 6 rfl rfl dX10_circuit_22 ?_
    refine z_put S hw F115 P115 rfl rfl 6 rfl (Nat.le_of_ble_eq_true rfl) dX10_circuit_25 (fun H locs hw => ?_)
    refine lv_iconst (v := (0 : Int32)) hx hb dX10_circuit_28 (by decide) ?_
    refine lv_istore_n (lv' := [(1, .int (0 : Int32)), (0, .ref a_this)]) hx hb dX10_circuit_29 rfl hl (by decide) rfl (fun ls hl => ?_)
    obtain ⟨j93_1, ej93_1, h⟩ := bnd_ex h
    have hj93_1 : ∀ (k_now_8 : (Nat → Int32)) (k_one_9 : (Nat → Int32)) (k_other_10 : (Nat → Int32)) (H : Heap) (locs : List Loc) (ls : Array Slot), j93_1 k_now_8 k_one_9 k_other_10 = some (rr, o_this_inputs, o_this_gates, o_this_readInputs, o_this_readGates, o_this_paths, o_this_acts, o_readNext, o_now, o_readOne, o_readOther, o_isKept, o_one, o_other, o_pathInput, o_pathGates, o_next) → Wd D (tyA cI cJ cZ cS) A s [(a_this, .inr (10, [.int i_this_readInputs_2, .int i_this_readGates_3, .ref a_now, .ref a_one, .ref a_other, .ref a_next, .int i_this_readInputs_2, .int i_this_readGates_3, .ref a_readOne, .ref a_readOther, .ref a_readNext, .ref a_text, .int i_this_length, .int i_this_paths, .ref a_pathInput, .ref a_pathGates, .ref a_before, .ref a_after, .ref a_values, .ref a_taken, .ref a_waves, .int i_this_acts, .int i_this_turn, .ref a_row, .int i_this_seen, .ref a_seenPair, .ref a_seenTime, .ref a_seenLate, .long i_this_seed, .ref a_isKept, .ref a_kept])), (a_text, .inl (cI, 40, .inl k_text)), (a_readNext, .inl (cI, 4, .inl k_readNext_4)), (a_now, .inl (cI, 32, .inl k_now_8)), (a_readOne, .inl (cI, 8, .inl k_readOne_6)), (a_readOther, .inl (cI, 8, .inl k_readOther_7)), (a_isKept, .inl (cZ, 2, .inl k_isKept)), (a_one, .inl (cI, 8, .inl k_one_9)), (a_other, .inl (cI, 8, .inl k_other_10)), (a_pathInput, .inl (cI, 64, .inl k_pathInput)), (a_pathGates, .inl (cI, 64, .inl k_pathGates)), (a_next, .inl (cI, 4, .inl k_next))] H locs → lv_has ls 2 [(0, .ref a_this)] → W p l e rmX10_circuit s m args below meth c H locs 0 0 Q (F0 m 93 ls []) := by
      intro k_now_8 k_one_9 k_other_10 H locs ls h hw hl
      replace h := ap3 ej93_1 h
      refine lv_iconst (v := (0 : Int32)) hx hb dX10_circuit_93 (by decide) ?_
      refine lv_istore_n (lv' := [(1, .int (0 : Int32)), (0, .ref a_this)]) hx hb dX10_circuit_94 rfl hl (by decide) rfl (fun ls hl => ?_)
      obtain ⟨j118_1, ej118_1, h⟩ := bnd_ex h
      have hj118_1 : ∀ (k_next_11 : (Nat → Int32)) (H : Heap) (locs : List Loc) (ls : Array Slot), j118_1 k_next_11 = some (rr, o_this_inputs, o_this_gates, o_this_readInputs, o_this_readGates, o_this_paths, o_this_acts, o_readNext, o_now, o_readOne, o_readOther, o_isKept, o_one, o_other, o_pathInput, o_pathGates, o_next) → Wd D (tyA cI cJ cZ cS) A s [(a_this, .inr (10, [.int i_this_readInputs_2, .int i_this_readGates_3, .ref a_now, .ref a_one, .ref a_other, .ref a_next, .int i_this_readInputs_2, .int i_this_readGates_3, .ref a_readOne, .ref a_readOther, .ref a_readNext, .ref a_text, .int i_this_length, .int i_this_paths, .ref a_pathInput, .ref a_pathGates, .ref a_before, .ref a_after, .ref a_values, .ref a_taken, .ref a_waves, .int i_this_acts, .int i_this_turn, .ref a_row, .int i_this_seen, .ref a_seenPair, .ref a_seenTime, .ref a_seenLate, .long i_this_seed, .ref a_isKept, .ref a_kept])), (a_text, .inl (cI, 40, .inl k_text)), (a_readNext, .inl (cI, 4, .inl k_readNext_4)), (a_now, .inl (cI, 32, .inl k_now_8)), (a_readOne, .inl (cI, 8, .inl k_readOne_6)), (a_readOther, .inl (cI, 8, .inl k_readOther_7)), (a_isKept, .inl (cZ, 2, .inl k_isKept)), (a_one, .inl (cI, 8, .inl k_one_9)), (a_other, .inl (cI, 8, .inl k_other_10)), (a_pathInput, .inl (cI, 64, .inl k_pathInput)), (a_pathGates, .inl (cI, 64, .inl k_pathGates)), (a_next, .inl (cI, 4, .inl k_next_11))] H locs → lv_has ls 2 [(0, .ref a_this)] → W p l e rmX10_circuit s m args below meth c H locs 0 0 Q (F0 m 118 ls []) := by
        intro k_next_11 H locs ls h hw hl
        replace h := ap1 ej118_1 h
        refine lv_aload_n hx hb dX10_circuit_118 rfl (lv_at hl 0 rfl) ?_
        refine lv_iconst (v := (0 : Int32)) hx hb dX10_circuit_119 (by decide) ?_
        refine z_put S hw F118 P118 rfl rfl 0 rfl (Nat.le_of_ble_eq_true rfl) dX10_circuit_120 (fun H locs hw => ?_)
        refine lv_aload_n hx hb dX10_circuit_123 rfl (lv_at hl 0 rfl) ?_
        refine z_get S hw F67 0 rfl rfl dX10_circuit_124 ?_
        refine lv_iconst (v := (0 : Int32)) hx hb dX10_circuit_127 (by decide) ?_
        refine lv_iconst (v := (0 : Int32)) hx hb dX10_circuit_128 (by decide) ?_
        obtain ⟨hg, h⟩ := grd_el h
        obtain ⟨k_isKept_12, ek_isKept_12, h⟩ := bnd_ex h
        refine z_zast S hw ek_isKept_12 6 2 rfl rfl hg dX10_circuit_129 (fun H locs hw => ?_)
        refine lv_aload_n hx hb dX10_circuit_130 rfl (lv_at hl 0 rfl) ?_
        refine z_get S hw F67 0 rfl rfl dX10_circuit_131 ?_
        refine lv_iconst (v := (1 : Int32)) hx hb dX10_circuit_134 (by decide) ?_
        refine lv_iconst (v := (0 : Int32)) hx hb dX10_circuit_135 (by decide) ?_
        obtain ⟨hg, h⟩ := grd_el h
        obtain ⟨k_isKept_13, ek_isKept_13, h⟩ := bnd_ex h
        refine z_zast S hw ek_isKept_13 6 2 rfl rfl hg dX10_circuit_136 (fun H locs hw => ?_)
        refine lv_aload_n hx hb dX10_circuit_137 rfl (lv_at hl 0 rfl) ?_
        obtain ⟨i_this_paths_14, k_pathInput_15, k_pathGates_16, e138_1, h⟩ := obd3_el h
        refine zc_VV (As := []) (rest := []) (wr := [(a_text, .inl (cI, 40, .inl k_text)), (a_readNext, .inl (cI, 4, .inl k_readNext_4)), (a_now, .inl (cI, 32, .inl k_now_8)), (a_readOne, .inl (cI, 8, .inl k_readOne_6)), (a_readOther, .inl (cI, 8, .inl k_readOther_7)), (a_isKept, .inl (cZ, 2, .inl k_isKept_13)), (a_next, .inl (cI, 4, .inl k_next_11))]) (q0 := 0) S hw (c_X10_findPaths l D cI cJ cZ cS H.size N a_this a_one a_other a_pathInput a_pathGates a_now a_next a_readOne a_readOther a_readNext a_text a_before a_after a_values a_taken a_waves a_row a_seenPair a_seenTime a_seenLate a_isKept a_kept i_this_readInputs_2 i_this_readGates_3 i_this_readInputs_2 i_this_readGates_3 i_this_length i_this_paths (0 : Int32) i_this_turn i_this_seen i_this_seed k_one_9 k_other_10 k_pathInput k_pathGates i_this_paths_14 k_pathInput_15 k_pathGates_16 e138_1) (cwV 0 hts gX10_circuit_X10_findPaths rfl rfl rfl dv_X10_findPaths ⟨Nat.le_of_ble_eq_true rfl, Nat.le_of_ble_eq_true rfl⟩) [0, 7, 8, 9, 10] [1, 2, 3, 4, 5, 6, 11] rfl rfl rfl rfl (by decide) rfl rfl rfl rfl hl.1 rfl (Nat.le_of_ble_eq_true rfl) dX10_circuit_138 ⟨Nat.zero_le _, Nat.zero_le _⟩ (fun H locs hw => ?_)
        refine lv_aload_n hx hb dX10_circuit_141 rfl (lv_at hl 0 rfl) ?_
        refine z_get S hw F124 7 rfl rfl dX10_circuit_142 ?_
        cases h
        exact z_iret S hQ hr hw [7, 0, 1, 2, 3, 4, 5, 8, 9, 10, 11, 6] rfl rfl dX10_circuit_145
      have hL95_1 : ∀ (nf : Nat) (x1_17 : Int32) (k_next_18 : (Nat → Int32)) (H : Heap) (locs : List Loc) (ls : Array Slot), f_X10_circuit_L95 N k_readNext_4 j118_1 nf x1_17 k_next_18 = some (rr, o_this_inputs, o_this_gates, o_this_readInputs, o_this_readGates, o_this_paths, o_this_acts, o_readNext, o_now, o_readOne, o_readOther, o_isKept, o_one, o_other, o_pathInput, o_pathGates, o_next) → Wd D (tyA cI cJ cZ cS) A s [(a_this, .inr (10, [.int i_this_readInputs_2, .int i_this_readGates_3, .ref a_now, .ref a_one, .ref a_other, .ref a_next, .int i_this_readInputs_2, .int i_this_readGates_3, .ref a_readOne, .ref a_readOther, .ref a_readNext, .ref a_text, .int i_this_length, .int i_this_paths, .ref a_pathInput, .ref a_pathGates, .ref a_before, .ref a_after, .ref a_values, .ref a_taken, .ref a_waves, .int i_this_acts, .int i_this_turn, .ref a_row, .int i_this_seen, .ref a_seenPair, .ref a_seenTime, .ref a_seenLate, .long i_this_seed, .ref a_isKept, .ref a_kept])), (a_text, .inl (cI, 40, .inl k_text)), (a_readNext, .inl (cI, 4, .inl k_readNext_4)), (a_now, .inl (cI, 32, .inl k_now_8)), (a_readOne, .inl (cI, 8, .inl k_readOne_6)), (a_readOther, .inl (cI, 8, .inl k_readOther_7)), (a_isKept, .inl (cZ, 2, .inl k_isKept)), (a_one, .inl (cI, 8, .inl k_one_9)), (a_other, .inl (cI, 8, .inl k_other_10)), (a_pathInput, .inl (cI, 64, .inl k_pathInput)), (a_pathGates, .inl (cI, 64, .inl k_pathGates)), (a_next, .inl (cI, 4, .inl k_next_18))] H locs → lv_has ls 2 [(0, .ref a_this), (1, .int x1_17)] → W p l e rmX10_circuit s m args below meth c H locs 0 0 Q (F0 m 95 ls []) := by
        intro nf
        induction nf with
        | zero =>
          intro x1_17 k_next_18 H locs ls h
          rw [f_X10_circuit_L95] at h
          cases h
        | succ n_95 ih_95 =>
          intro x1_17 k_next_18 H locs ls h hw hl
          rw [f_X10_circuit_L95] at h
          refine lv_iload_n hx hb dX10_circuit_95 rfl (lv_at hl 1 rfl) ?_
          refine lv_iconst (v := (4 : Int32)) hx hb dX10_circuit_96 (by decide) ?_
          refine lv_icmp_ge (tgt := 118) hx hb dX10_circuit_97 (by decide) (fun hc => ?_) (fun hc => ?_)
          · replace h := if_t hc h
            exact hj118_1 k_next_18 H locs ls h hw (lv_sub hl [0] rfl)
          · replace h := if_f hc h
            refine lv_aload_n hx hb dX10_circuit_100 rfl (lv_at hl 0 rfl) ?_
            refine z_get S hw F19 0 rfl rfl dX10_circuit_101 ?_
            refine lv_iload_n hx hb dX10_circuit_104 rfl (lv_at hl 1 rfl) ?_
            refine lv_aload_n hx hb dX10_circuit_105 rfl (lv_at hl 0 rfl) ?_
            refine z_get S hw F28 0 rfl rfl dX10_circuit_106 ?_
            refine lv_iload_n hx hb dX10_circuit_109 rfl (lv_at hl 1 rfl) ?_
            obtain ⟨hg, h⟩ := grd_el h
            refine z_iald S hw 2 0 rfl rfl hg dX10_circuit_110 ?_
            obtain ⟨hg, h⟩ := grd_el h
            obtain ⟨k_next_19, ek_next_19, h⟩ := bnd_ex h
            refine z_iast S hw ek_next_19 11 0 rfl rfl hg dX10_circuit_111 (fun H locs hw => ?_)
            obtain ⟨x1_20, ex1_20, h⟩ := bnd_ex h
            refine lv_iinc (v := x1_20) (lv' := [(1, .int x1_20), (0, .ref a_this)]) hx hb dX10_circuit_112 hl (k := 1) rfl (by rw [ex1_20]; rfl) (by decide) rfl (fun ls hl => ?_)
            refine lv_goto (tgt := 95) hx hb dX10_circuit_115 (by decide) ?_
            exact ih_95 x1_20 k_next_19 H locs ls h hw (lv_sub hl [1, 0] rfl)
      exact hL95_1 N ((0 : Int32)) k_next H locs ls h hw (lv_sub hl [1, 0] rfl)
    have hL30_1 : ∀ (nf : Nat) (x1_21 : Int32) (k_now_22 : (Nat → Int32)) (k_one_23 : (Nat → Int32)) (k_other_24 : (Nat → Int32)) (H : Heap) (locs : List Loc) (ls : Array Slot), f_X10_circuit_L30 N k_readOne_6 k_readOther_7 j93_1 nf x1_21 k_now_22 k_one_23 k_other_24 = some (rr, o_this_inputs, o_this_gates, o_this_readInputs, o_this_readGates, o_this_paths, o_this_acts, o_readNext, o_now, o_readOne, o_readOther, o_isKept, o_one, o_other, o_pathInput, o_pathGates, o_next) → Wd D (tyA cI cJ cZ cS) A s [(a_this, .inr (10, [.int i_this_readInputs_2, .int i_this_readGates_3, .ref a_now, .ref a_one, .ref a_other, .ref a_next, .int i_this_readInputs_2, .int i_this_readGates_3, .ref a_readOne, .ref a_readOther, .ref a_readNext, .ref a_text, .int i_this_length, .int i_this_paths, .ref a_pathInput, .ref a_pathGates, .ref a_before, .ref a_after, .ref a_values, .ref a_taken, .ref a_waves, .int i_this_acts, .int i_this_turn, .ref a_row, .int i_this_seen, .ref a_seenPair, .ref a_seenTime, .ref a_seenLate, .long i_this_seed, .ref a_isKept, .ref a_kept])), (a_text, .inl (cI, 40, .inl k_text)), (a_readNext, .inl (cI, 4, .inl k_readNext_4)), (a_now, .inl (cI, 32, .inl k_now_22)), (a_readOne, .inl (cI, 8, .inl k_readOne_6)), (a_readOther, .inl (cI, 8, .inl k_readOther_7)), (a_isKept, .inl (cZ, 2, .inl k_isKept)), (a_one, .inl (cI, 8, .inl k_one_23)), (a_other, .inl (cI, 8, .inl k_other_24)), (a_pathInput, .inl (cI, 64, .inl k_pathInput)), (a_pathGates, .inl (cI, 64, .inl k_pathGates)), (a_next, .inl (cI, 4, .inl k_next))] H locs → lv_has ls 2 [(0, .ref a_this), (1, .int x1_21)] → W p l e rmX10_circuit s m args below meth c H locs 0 0 Q (F0 m 30 ls []) := by
      intro nf
      induction nf with
      | zero =>
        intro x1_21 k_now_22 k_one_23 k_other_24 H locs ls h
        rw [f_X10_circuit_L30] at h
        cases h
      | succ n_30 ih_30 =>
        intro x1_21 k_now_22 k_one_23 k_other_24 H locs ls h hw hl
        rw [f_X10_circuit_L30] at h
        refine lv_iload_n hx hb dX10_circuit_30 rfl (lv_at hl 1 rfl) ?_
        refine lv_bipush (v := (8 : Int32)) hx hb dX10_circuit_31 (by decide) ?_
        refine lv_icmp_ge (tgt := 93) hx hb dX10_circuit_33 (by decide) (fun hc => ?_) (fun hc => ?_)
        · replace h := if_t hc h
          exact hj93_1 k_now_22 k_one_23 k_other_24 H locs ls h hw (lv_sub hl [0] rfl)
        · replace h := if_f hc h
          refine lv_aload_n hx hb dX10_circuit_36 rfl (lv_at hl 0 rfl) ?_
          refine z_get S hw F7 0 rfl rfl dX10_circuit_37 ?_
          refine lv_iconst (v := (0 : Int32)) hx hb dX10_circuit_40 (by decide) ?_
          refine lv_iload_n hx hb dX10_circuit_41 rfl (lv_at hl 1 rfl) ?_
          refine lv_iadd hx hb dX10_circuit_42 ?_
          refine lv_aload_n hx hb dX10_circuit_43 rfl (lv_at hl 0 rfl) ?_
          refine z_get S hw F7 0 rfl rfl dX10_circuit_44 ?_
          refine lv_bipush (v := (16 : Int32)) hx hb dX10_circuit_47 (by decide) ?_
          refine lv_iload_n hx hb dX10_circuit_49 rfl (lv_at hl 1 rfl) ?_
          refine lv_iadd hx hb dX10_circuit_50 ?_
          obtain ⟨hg, h⟩ := grd_el h
          refine z_iald S hw 3 0 rfl rfl hg dX10_circuit_51 ?_
          obtain ⟨hg, h⟩ := grd_el h
          obtain ⟨k_now_25, ek_now_25, h⟩ := bnd_ex h
          refine z_iast S hw ek_now_25 3 0 rfl rfl hg dX10_circuit_52 (fun H locs hw => ?_)
          refine lv_aload_n hx hb dX10_circuit_53 rfl (lv_at hl 0 rfl) ?_
          refine z_get S hw F7 0 rfl rfl dX10_circuit_54 ?_
          refine lv_bipush (v := (8 : Int32)) hx hb dX10_circuit_57 (by decide) ?_
          refine lv_iload_n hx hb dX10_circuit_59 rfl (lv_at hl 1 rfl) ?_
          refine lv_iadd hx hb dX10_circuit_60 ?_
          refine lv_iconst (v := (1 : Int32)) hx hb dX10_circuit_61 (by decide) ?_
          obtain ⟨hg, h⟩ := grd_el h
          obtain ⟨k_now_26, ek_now_26, h⟩ := bnd_ex h
          refine z_iast S hw ek_now_26 3 0 rfl rfl hg dX10_circuit_62 (fun H locs hw => ?_)
          refine lv_aload_n hx hb dX10_circuit_63 rfl (lv_at hl 0 rfl) ?_
          refine z_get S hw F13 0 rfl rfl dX10_circuit_64 ?_
          refine lv_iload_n hx hb dX10_circuit_67 rfl (lv_at hl 1 rfl) ?_
          refine lv_aload_n hx hb dX10_circuit_68 rfl (lv_at hl 0 rfl) ?_
          refine z_get S hw F22 0 rfl rfl dX10_circuit_69 ?_
          refine lv_iload_n hx hb dX10_circuit_72 rfl (lv_at hl 1 rfl) ?_
          obtain ⟨hg, h⟩ := grd_el h
          refine z_iald S hw 4 0 rfl rfl hg dX10_circuit_73 ?_
          obtain ⟨hg, h⟩ := grd_el h
          obtain ⟨k_one_27, ek_one_27, h⟩ := bnd_ex h
          refine z_iast S hw ek_one_27 7 0 rfl rfl hg dX10_circuit_74 (fun H locs hw => ?_)
          refine lv_aload_n hx hb dX10_circuit_75 rfl (lv_at hl 0 rfl) ?_
          refine z_get S hw F16 0 rfl rfl dX10_circuit_76 ?_
          refine lv_iload_n hx hb dX10_circuit_79 rfl (lv_at hl 1 rfl) ?_
          refine lv_aload_n hx hb dX10_circuit_80 rfl (lv_at hl 0 rfl) ?_
          refine z_get S hw F25 0 rfl rfl dX10_circuit_81 ?_
          refine lv_iload_n hx hb dX10_circuit_84 rfl (lv_at hl 1 rfl) ?_
          obtain ⟨hg, h⟩ := grd_el h
          refine z_iald S hw 5 0 rfl rfl hg dX10_circuit_85 ?_
          obtain ⟨hg, h⟩ := grd_el h
          obtain ⟨k_other_28, ek_other_28, h⟩ := bnd_ex h
          refine z_iast S hw ek_other_28 8 0 rfl rfl hg dX10_circuit_86 (fun H locs hw => ?_)
          obtain ⟨x1_29, ex1_29, h⟩ := bnd_ex h
          refine lv_iinc (v := x1_29) (lv' := [(1, .int x1_29), (0, .ref a_this)]) hx hb dX10_circuit_87 hl (k := 1) rfl (by rw [ex1_29]; rfl) (by decide) rfl (fun ls hl => ?_)
          refine lv_goto (tgt := 30) hx hb dX10_circuit_90 (by decide) ?_
          exact ih_30 x1_29 k_now_26 k_one_27 k_other_28 H locs ls h hw (lv_sub hl [1, 0] rfl)
    exact hL30_1 N ((0 : Int32)) k_now_5 k_one k_other H locs ls h (hw.sub [6, 7, 8, 9, 10, 11, 0, 1, 2, 3, 4, 5] rfl rfl) (lv_sub hl [1, 0] rfl)
  · replace h := if_f hc h
    refine lv_bipush (v := (-3 : Int32)) hx hb dX10_circuit_9 (by decide) ?_
    cases h
    exact z_iret S hQ hr hw [6, 7, 8, 9, 10, 11, 0, 1, 2, 3, 4, 5] rfl rfl dX10_circuit_11
abbrev rmX10_isGate : Room := { frames := 1, cells := 0, slots := 0, locals := 25 }
theorem dv_X10_isGate : yX10_isGate.cls = RX10 ∧ yX10_isGate.cls ≠ "java/lang/invoke/MethodHandle" ∧ yX10_isGate.cls ≠ "java/lang/invoke/VarHandle" ∧ (parseMethodDescriptor yX10_isGate.desc).map (fun d => d.parameters.length) = some 1 := by decide +kernel
noncomputable def f_X10_isGate (N : Nat) (y1 : Int32) (i_this_gates : Int32) : Option (Int32) :=
  obd1 (f_X10_in N (y1.toInt64) (0 : Int64) ((i_this_gates - (1 : Int32)).toInt64)) fun (r_1 : Int32) => grd (isZ r_1) (some (r_1))
set_option maxHeartbeats 4000000 in
set_option maxRecDepth 100000 in
theorem c_X10_isGate (l : Launch) (D : va_G) (cI cJ cZ cS : ClassId) (sz N : Nat) (a_this a_now a_one a_other a_next a_readOne a_readOther a_readNext a_text a_pathInput a_pathGates a_before a_after a_values a_taken a_waves a_row a_seenPair a_seenTime a_seenLate a_isKept a_kept : Nat) (i_this_inputs : Int32) (i_this_gates : Int32) (i_this_readInputs : Int32) (i_this_readGates : Int32) (i_this_length : Int32) (i_this_paths : Int32) (i_this_acts : Int32) (i_this_turn : Int32) (i_this_seen : Int32) (i_this_seed : Int64) (y1 : Int32) (rr : Int32) (hf : f_X10_isGate N y1 i_this_gates = some (rr)) : MetIr l yX10_isGate wsX10_isGate rmX10_isGate D (tyA cI cJ cZ cS) [(a_this, .inr (10, [.int i_this_inputs, .int i_this_gates, .ref a_now, .ref a_one, .ref a_other, .ref a_next, .int i_this_readInputs, .int i_this_readGates, .ref a_readOne, .ref a_readOther, .ref a_readNext, .ref a_text, .int i_this_length, .int i_this_paths, .ref a_pathInput, .ref a_pathGates, .ref a_before, .ref a_after, .ref a_values, .ref a_taken, .ref a_waves, .int i_this_acts, .int i_this_turn, .ref a_row, .int i_this_seen, .ref a_seenPair, .ref a_seenTime, .ref a_seenLate, .long i_this_seed, .ref a_isKept, .ref a_kept]))] sz [.ref a_this, .int y1] rr := by
  refine entZr (cc := cX10_isGate) (maxL := 2) (own := RX10) (by decide) rfl rfl (Nat.le_of_ble_eq_true rfl) ?_
  intro p e s m args below meth c A ls Q S hr hw hl hQ
  have hx := S.1.1
  have hb := S.1.2.1
  have hts := S.1.2.2.2.2
  have hl : lv_has ls 2 [(0, .ref a_this), (1, .int y1)] := hl
  have hinX10 : ∀ w ∈ u_ws RX10 TX10 31, w ∈ wsX10_isGate := (fun _ h => List.mem_cons_of_mem _ (List.mem_append_right _ h))
  have F115 : FLk s args wsX10_isGate RX10 115 RX10 TX10 31 10 1 := ⟨hinX10, rfl, by decide, hts (.fieldLink RX10 115 "SlowPathsModel" "gates" "I") (List.mem_of_getElem? (i := 1) rfl)⟩
  have h := hf
  rw [f_X10_isGate] at h
  refine lv_iload_n hx hb dX10_isGate_0 rfl (lv_at hl 1 rfl) ?_
  refine lv_i2l hx hb dX10_isGate_1 rfl ?_
  refine lv_lconst (v := (0 : Int64)) hx hb dX10_isGate_2 (by decide) ?_
  refine lv_aload_n hx hb dX10_isGate_3 rfl (lv_at hl 0 rfl) ?_
  refine z_get S hw F115 0 rfl rfl dX10_isGate_4 ?_
  refine lv_iconst (v := (1 : Int32)) hx hb dX10_isGate_7 (by decide) ?_
  refine lv_isub hx hb dX10_isGate_8 ?_
  refine lv_i2l hx hb dX10_isGate_9 rfl ?_
  obtain ⟨r_1, e10_1, h⟩ := obd1_el h
  refine zr_SI (As := [.long (y1.toInt64), .long (0 : Int64), .long ((i_this_gates - (1 : Int32)).toInt64)]) (rest := []) (q0 := 0) (ci := 0) (fs := []) (qc := (RX0, TX0, 4)) S hw (c_X10_in l D cI cJ cZ cS s.heap.size N (y1.toInt64) (0 : Int64) ((i_this_gates - (1 : Int32)).toInt64) r_1 e10_1) (va_cwS 3 hts gX10_isGate_X10_in rfl rfl rfl ds_X10_in ⟨Nat.le_of_ble_eq_true rfl, Nat.le_of_ble_eq_true rfl⟩) [] rfl rfl rfl hl.1 rfl (Nat.le_of_ble_eq_true rfl) dX10_isGate_10 ⟨Nat.zero_le _, Nat.zero_le _⟩ ?_
  obtain ⟨hz, h⟩ := grd_el h
  cases h
  exact z_zretr S hQ hr (isZ_narrow hz) dX10_isGate_13
abbrev rmX10_told : Room := { frames := 0, cells := 0, slots := 0, locals := 0 }
theorem ds_X10_told : yX10_told.cls ≠ "java/lang/invoke/MethodHandle" ∧ yX10_told.cls ≠ "java/lang/invoke/VarHandle" ∧ (parseMethodDescriptor yX10_told.desc).map (fun d => d.parameters.length) = some 1 := by decide +kernel
noncomputable def f_X10_told (N : Nat) (y0 : Int32)  : Option (Int32) :=
  (if y0 = (-9 : Int32) then (some ((-9 : Int32))) else ((if (4 : Int32) ≤ y0 then (some ((y0 + (6 : Int32)))) else (some (y0)))))
set_option maxHeartbeats 4000000 in
set_option maxRecDepth 100000 in
theorem c_X10_told (l : Launch) (D : va_G) (cI cJ cZ cS : ClassId) (sz N : Nat)   (y0 : Int32) (rr : Int32) (hf : f_X10_told N y0 = some (rr)) : MetIr l yX10_told wsX10_told rmX10_told D (tyA cI cJ cZ cS) [] sz [.int y0] rr := by
  refine entIr (cc := cX10_told) (maxL := 1) (own := RX10) (by decide) rfl rfl (Nat.le_of_ble_eq_true rfl) ?_
  intro p e s m args below meth c A ls Q S hr hw hl hQ
  have hx := S.1.1
  have hb := S.1.2.1
  have hts := S.1.2.2.2.2
  have hl : lv_has ls 1 [(0, .int y0)] := hl
  have h := hf
  rw [f_X10_told] at h
  refine lv_iload_n hx hb dX10_told_0 rfl (lv_at hl 0 rfl) ?_
  refine lv_bipush (v := (-9 : Int32)) hx hb dX10_told_1 (by decide) ?_
  refine lv_icmp_ne (tgt := 11) hx hb dX10_told_3 (by decide) (fun hc => ?_) (fun hc => ?_)
  · replace h := if_f hc h
    refine lv_iload_n hx hb dX10_told_11 rfl (lv_at hl 0 rfl) ?_
    refine lv_iconst (v := (4 : Int32)) hx hb dX10_told_12 (by decide) ?_
    refine lv_icmp_ge (tgt := 20) hx hb dX10_told_13 (by decide) (fun hc => ?_) (fun hc => ?_)
    · replace h := if_t hc h
      refine lv_iload_n hx hb dX10_told_20 rfl (lv_at hl 0 rfl) ?_
      refine lv_bipush (v := (6 : Int32)) hx hb dX10_told_21 (by decide) ?_
      refine lv_iadd hx hb dX10_told_23 ?_
      cases h
      exact z_iretr S hQ hr dX10_told_24
    · replace h := if_f hc h
      refine lv_iload_n hx hb dX10_told_16 rfl (lv_at hl 0 rfl) ?_
      refine lv_goto (tgt := 24) hx hb dX10_told_17 (by decide) ?_
      cases h
      exact z_iretr S hQ hr dX10_told_24
  · replace h := if_t hc h
    refine lv_bipush (v := (-9 : Int32)) hx hb dX10_told_6 (by decide) ?_
    refine lv_goto (tgt := 24) hx hb dX10_told_8 (by decide) ?_
    cases h
    exact z_iretr S hQ hr dX10_told_24
abbrev rmX10_gate : Room := { frames := 2, cells := 0, slots := 0, locals := 46 }
theorem dv_X10_gate : yX10_gate.cls = RX10 ∧ yX10_gate.cls ≠ "java/lang/invoke/MethodHandle" ∧ yX10_gate.cls ≠ "java/lang/invoke/VarHandle" ∧ (parseMethodDescriptor yX10_gate.desc).map (fun d => d.parameters.length) = some 2 := by decide +kernel
noncomputable def f_X10_gate (N : Nat) (y1 : Int32) (y2 : Int32) (i_this_gates : Int32) (k_now : (Nat → Int32)) (k_one : (Nat → Int32)) (k_other : (Nat → Int32)) : Option (Int32) :=
  obd1 (f_X10_isGate N y1 i_this_gates) fun (r_1 : Int32) => (if r_1 = (0 : Int32) then (some ((-1 : Int32))) else ((if y2 = (0 : Int32) then (grd (inb ((0 : Int32) + y1) 32) <| some ((k_now ((0 : Int32) + y1).toNatClampNeg))) else (if y2 = (1 : Int32) then (grd (inb y1 8) <| obd1 (f_X10_told N (k_one y1.toNatClampNeg)) fun (r_2 : Int32) => some (r_2)) else (if y2 = (2 : Int32) then (grd (inb y1 8) <| obd1 (f_X10_told N (k_other y1.toNatClampNeg)) fun (r_3 : Int32) => some (r_3)) else (if y2 = (3 : Int32) then (grd (inb ((8 : Int32) + y1) 32) <| some ((k_now ((8 : Int32) + y1).toNatClampNeg))) else some ((-2 : Int32))))))))
set_option maxHeartbeats 4000000 in
set_option maxRecDepth 100000 in
theorem c_X10_gate (l : Launch) (D : va_G) (cI cJ cZ cS : ClassId) (sz N : Nat) (a_this a_now a_one a_other a_next a_readOne a_readOther a_readNext a_text a_pathInput a_pathGates a_before a_after a_values a_taken a_waves a_row a_seenPair a_seenTime a_seenLate a_isKept a_kept : Nat) (i_this_inputs : Int32) (i_this_gates : Int32) (i_this_readInputs : Int32) (i_this_readGates : Int32) (i_this_length : Int32) (i_this_paths : Int32) (i_this_acts : Int32) (i_this_turn : Int32) (i_this_seen : Int32) (i_this_seed : Int64) (k_now : (Nat → Int32)) (k_one : (Nat → Int32)) (k_other : (Nat → Int32)) (y1 : Int32) (y2 : Int32) (rr : Int32) (hf : f_X10_gate N y1 y2 i_this_gates k_now k_one k_other = some (rr)) : MetIr l yX10_gate wsX10_gate rmX10_gate D (tyA cI cJ cZ cS) [(a_this, .inr (10, [.int i_this_inputs, .int i_this_gates, .ref a_now, .ref a_one, .ref a_other, .ref a_next, .int i_this_readInputs, .int i_this_readGates, .ref a_readOne, .ref a_readOther, .ref a_readNext, .ref a_text, .int i_this_length, .int i_this_paths, .ref a_pathInput, .ref a_pathGates, .ref a_before, .ref a_after, .ref a_values, .ref a_taken, .ref a_waves, .int i_this_acts, .int i_this_turn, .ref a_row, .int i_this_seen, .ref a_seenPair, .ref a_seenTime, .ref a_seenLate, .long i_this_seed, .ref a_isKept, .ref a_kept])), (a_now, .inl (cI, 32, .inl k_now)), (a_one, .inl (cI, 8, .inl k_one)), (a_other, .inl (cI, 8, .inl k_other))] sz [.ref a_this, .int y1, .int y2] rr := by
  refine entIr (cc := cX10_gate) (maxL := 3) (own := RX10) (by decide) rfl rfl (Nat.le_of_ble_eq_true rfl) ?_
  intro p e s m args below meth c A ls Q S hr hw hl hQ
  have hx := S.1.1
  have hb := S.1.2.1
  have hts := S.1.2.2.2.2
  have hl : lv_has ls 3 [(0, .ref a_this), (1, .int y1), (2, .int y2)] := hl
  have hinX10 : ∀ w ∈ u_ws RX10 TX10 31, w ∈ wsX10_gate := (fun _ h => List.mem_cons_of_mem _ (List.mem_append_right _ h))
  have F7 : FLk s args wsX10_gate RX10 7 RX10 TX10 31 10 2 := ⟨hinX10, rfl, by decide, hts (.fieldLink RX10 7 "SlowPathsModel" "now" "[I") (List.mem_of_getElem? (i := 1) rfl)⟩
  have F13 : FLk s args wsX10_gate RX10 13 RX10 TX10 31 10 3 := ⟨hinX10, rfl, by decide, hts (.fieldLink RX10 13 "SlowPathsModel" "one" "[I") (List.mem_of_getElem? (i := 2) rfl)⟩
  have F16 : FLk s args wsX10_gate RX10 16 RX10 TX10 31 10 4 := ⟨hinX10, rfl, by decide, hts (.fieldLink RX10 16 "SlowPathsModel" "other" "[I") (List.mem_of_getElem? (i := 3) rfl)⟩
  have h := hf
  rw [f_X10_gate] at h
  refine lv_aload_n hx hb dX10_gate_0 rfl (lv_at hl 0 rfl) ?_
  refine lv_iload_n hx hb dX10_gate_1 rfl (lv_at hl 1 rfl) ?_
  obtain ⟨r_1, e2_1, h⟩ := obd1_el h
  refine zr_VI (As := [.int y1]) (rest := []) (q0 := 0) S hw (c_X10_isGate l D cI cJ cZ cS s.heap.size N a_this a_now a_one a_other a_next a_readOne a_readOther a_readNext a_text a_pathInput a_pathGates a_before a_after a_values a_taken a_waves a_row a_seenPair a_seenTime a_seenLate a_isKept a_kept i_this_inputs i_this_gates i_this_readInputs i_this_readGates i_this_length i_this_paths i_this_acts i_this_turn i_this_seen i_this_seed y1 r_1 e2_1) (cwV 1 hts gX10_gate_X10_isGate rfl rfl rfl dv_X10_isGate ⟨Nat.le_of_ble_eq_true rfl, Nat.le_of_ble_eq_true rfl⟩) [0] rfl rfl rfl rfl rfl rfl hl.1 rfl (Nat.le_of_ble_eq_true rfl) dX10_gate_2 ⟨Nat.zero_le _, Nat.zero_le _⟩ ?_
  refine lv_if_ne (tgt := 10) hx hb dX10_gate_5 (by decide) (fun hc => ?_) (fun hc => ?_)
  · replace h := if_f hc h
    refine lv_iload_n hx hb dX10_gate_10 rfl (lv_at hl 2 rfl) ?_
    by_cases hs0 : y2 = (0 : Int32)
    · replace h := if_t hs0 h
      refine lv_tableIn (off := 29) (tgt := 40) hx hb dX10_gate_11 (by rw [hs0]; decide) (by rw [hs0]; decide) (by rw [hs0]; rfl) (by decide) ?_
      refine lv_aload_n hx hb dX10_gate_40 rfl (lv_at hl 0 rfl) ?_
      refine z_get S hw F7 0 rfl rfl dX10_gate_41 ?_
      refine lv_iconst (v := (0 : Int32)) hx hb dX10_gate_44 (by decide) ?_
      refine lv_iload_n hx hb dX10_gate_45 rfl (lv_at hl 1 rfl) ?_
      refine lv_iadd hx hb dX10_gate_46 ?_
      obtain ⟨hg, h⟩ := grd_el h
      refine z_iald S hw 1 0 rfl rfl hg dX10_gate_47 ?_
      cases h
      exact z_iretr S hQ hr dX10_gate_48
    replace h := if_f hs0 h
    by_cases hs1 : y2 = (1 : Int32)
    · replace h := if_t hs1 h
      refine lv_tableIn (off := 38) (tgt := 49) hx hb dX10_gate_11 (by rw [hs1]; decide) (by rw [hs1]; decide) (by rw [hs1]; rfl) (by decide) ?_
      refine lv_aload_n hx hb dX10_gate_49 rfl (lv_at hl 0 rfl) ?_
      refine z_get S hw F13 0 rfl rfl dX10_gate_50 ?_
      refine lv_iload_n hx hb dX10_gate_53 rfl (lv_at hl 1 rfl) ?_
      obtain ⟨hg, h⟩ := grd_el h
      refine z_iald S hw 2 0 rfl rfl hg dX10_gate_54 ?_
      obtain ⟨r_2, e55_1, h⟩ := obd1_el h
      refine zr_SI (As := [.int (k_one y1.toNatClampNeg)]) (rest := []) (q0 := 0) (ci := 0) (fs := []) (qc := (RX0, TX0, 4)) S hw (c_X10_told l D cI cJ cZ cS s.heap.size N (k_one y1.toNatClampNeg) r_2 e55_1) (va_cwS 1 hts gX10_gate_X10_told rfl rfl rfl ds_X10_told ⟨Nat.le_of_ble_eq_true rfl, Nat.le_of_ble_eq_true rfl⟩) [] rfl rfl rfl hl.1 rfl (Nat.le_of_ble_eq_true rfl) dX10_gate_55 ⟨Nat.zero_le _, Nat.zero_le _⟩ ?_
      cases h
      exact z_iretr S hQ hr dX10_gate_58
    replace h := if_f hs1 h
    by_cases hs2 : y2 = (2 : Int32)
    · replace h := if_t hs2 h
      refine lv_tableIn (off := 48) (tgt := 59) hx hb dX10_gate_11 (by rw [hs2]; decide) (by rw [hs2]; decide) (by rw [hs2]; rfl) (by decide) ?_
      refine lv_aload_n hx hb dX10_gate_59 rfl (lv_at hl 0 rfl) ?_
      refine z_get S hw F16 0 rfl rfl dX10_gate_60 ?_
      refine lv_iload_n hx hb dX10_gate_63 rfl (lv_at hl 1 rfl) ?_
      obtain ⟨hg, h⟩ := grd_el h
      refine z_iald S hw 3 0 rfl rfl hg dX10_gate_64 ?_
      obtain ⟨r_3, e65_1, h⟩ := obd1_el h
      refine zr_SI (As := [.int (k_other y1.toNatClampNeg)]) (rest := []) (q0 := 0) (ci := 0) (fs := []) (qc := (RX0, TX0, 4)) S hw (c_X10_told l D cI cJ cZ cS s.heap.size N (k_other y1.toNatClampNeg) r_3 e65_1) (va_cwS 1 hts gX10_gate_X10_told rfl rfl rfl ds_X10_told ⟨Nat.le_of_ble_eq_true rfl, Nat.le_of_ble_eq_true rfl⟩) [] rfl rfl rfl hl.1 rfl (Nat.le_of_ble_eq_true rfl) dX10_gate_65 ⟨Nat.zero_le _, Nat.zero_le _⟩ ?_
      cases h
      exact z_iretr S hQ hr dX10_gate_68
    replace h := if_f hs2 h
    by_cases hs3 : y2 = (3 : Int32)
    · replace h := if_t hs3 h
      refine lv_tableIn (off := 58) (tgt := 69) hx hb dX10_gate_11 (by rw [hs3]; decide) (by rw [hs3]; decide) (by rw [hs3]; rfl) (by decide) ?_
      refine lv_aload_n hx hb dX10_gate_69 rfl (lv_at hl 0 rfl) ?_
      refine z_get S hw F7 0 rfl rfl dX10_gate_70 ?_
      refine lv_bipush (v := (8 : Int32)) hx hb dX10_gate_73 (by decide) ?_
      refine lv_iload_n hx hb dX10_gate_75 rfl (lv_at hl 1 rfl) ?_
      refine lv_iadd hx hb dX10_gate_76 ?_
      obtain ⟨hg, h⟩ := grd_el h
      refine z_iald S hw 1 0 rfl rfl hg dX10_gate_77 ?_
      cases h
      exact z_iretr S hQ hr dX10_gate_78
    replace h := if_f hs3 h
    refine lv_tableOut (tgt := 79) hx hb dX10_gate_11 (tb_out (fun j h1 h2 => ?_)) (by decide) ?_
    · rcases (show j = 0 ∨ j = 1 ∨ j = 2 ∨ j = 3 by omega) with rfl | rfl | rfl | rfl
      · exact fun he => hs0 (he.trans (by decide))
      · exact fun he => hs1 (he.trans (by decide))
      · exact fun he => hs2 (he.trans (by decide))
      · exact fun he => hs3 (he.trans (by decide))
    refine lv_bipush (v := (-2 : Int32)) hx hb dX10_gate_79 (by decide) ?_
    cases h
    exact z_iretr S hQ hr dX10_gate_81
  · replace h := if_t hc h
    refine lv_iconst (v := (-1 : Int32)) hx hb dX10_gate_8 (by decide) ?_
    cases h
    exact z_iretr S hQ hr dX10_gate_9
abbrev rmX10_lengthOf : Room := { frames := 1, cells := 0, slots := 0, locals := 21 }
theorem dv_X10_lengthOf : yX10_lengthOf.cls = RX10 ∧ yX10_lengthOf.cls ≠ "java/lang/invoke/MethodHandle" ∧ yX10_lengthOf.cls ≠ "java/lang/invoke/VarHandle" ∧ (parseMethodDescriptor yX10_lengthOf.desc).map (fun d => d.parameters.length) = some 2 := by decide +kernel
noncomputable def f_X10_lengthOf_L5 (N : Nat) (y1 : Int32) (y2 : Int32) (i_this_gates : Int32) (k_pathGates : (Nat → Int32)) (k_now : (Nat → Int32)) (j56_1 : Int32 → Option (Int32)) : Nat → Int32 → Int32 → Option (Int32)
  | 0, _, _ => none
  | n_5 + 1, x3_2, x4_3 =>
    (if i_this_gates ≤ x4_3 then (j56_1 x3_2) else (grd (inb y2 64) <| obd1 (f_X10_has N (k_pathGates y2.toNatClampNeg) x4_3) fun (r_4 : Int32) => bnd (fun (t_5 : Int32) (t_6 : Int32) => (bnd ((t_6 + t_5)) fun (x3_7 : Int32) => bnd (x4_3 + (1 : Int32)) fun (x4_8 : Int32) => f_X10_lengthOf_L5 N y1 y2 i_this_gates k_pathGates k_now j56_1 n_5 x3_7 x4_8)) fun (j48_1 : Int32 → Int32 → Option (Int32)) => (if r_4 = (0 : Int32) then (j48_1 ((0 : Int32)) x3_2) else (grd (inb ((((16 : Int32) * y1) + (8 : Int32)) + x4_3) 32) <| j48_1 ((k_now ((((16 : Int32) * y1) + (8 : Int32)) + x4_3).toNatClampNeg)) x3_2))))
noncomputable def f_X10_lengthOf (N : Nat) (y1 : Int32) (y2 : Int32) (i_this_gates : Int32) (k_pathGates : (Nat → Int32)) (k_now : (Nat → Int32)) : Option (Int32) :=
  bnd (fun (x3_1 : Int32) => (some (x3_1))) fun (j56_1 : Int32 → Option (Int32)) => f_X10_lengthOf_L5 N y1 y2 i_this_gates k_pathGates k_now j56_1 N ((0 : Int32)) ((0 : Int32))
set_option maxHeartbeats 4000000 in
set_option maxRecDepth 100000 in
theorem c_X10_lengthOf (l : Launch) (D : va_G) (cI cJ cZ cS : ClassId) (sz N : Nat) (a_this a_pathGates a_now a_one a_other a_next a_readOne a_readOther a_readNext a_text a_pathInput a_before a_after a_values a_taken a_waves a_row a_seenPair a_seenTime a_seenLate a_isKept a_kept : Nat) (i_this_inputs : Int32) (i_this_gates : Int32) (i_this_readInputs : Int32) (i_this_readGates : Int32) (i_this_length : Int32) (i_this_paths : Int32) (i_this_acts : Int32) (i_this_turn : Int32) (i_this_seen : Int32) (i_this_seed : Int64) (k_pathGates : (Nat → Int32)) (k_now : (Nat → Int32)) (y1 : Int32) (y2 : Int32) (rr : Int32) (hf : f_X10_lengthOf N y1 y2 i_this_gates k_pathGates k_now = some (rr)) : MetIr l yX10_lengthOf wsX10_lengthOf rmX10_lengthOf D (tyA cI cJ cZ cS) [(a_this, .inr (10, [.int i_this_inputs, .int i_this_gates, .ref a_now, .ref a_one, .ref a_other, .ref a_next, .int i_this_readInputs, .int i_this_readGates, .ref a_readOne, .ref a_readOther, .ref a_readNext, .ref a_text, .int i_this_length, .int i_this_paths, .ref a_pathInput, .ref a_pathGates, .ref a_before, .ref a_after, .ref a_values, .ref a_taken, .ref a_waves, .int i_this_acts, .int i_this_turn, .ref a_row, .int i_this_seen, .ref a_seenPair, .ref a_seenTime, .ref a_seenLate, .long i_this_seed, .ref a_isKept, .ref a_kept])), (a_pathGates, .inl (cI, 64, .inl k_pathGates)), (a_now, .inl (cI, 32, .inl k_now))] sz [.ref a_this, .int y1, .int y2] rr := by
  refine entIr (cc := cX10_lengthOf) (maxL := 5) (own := RX10) (by decide) rfl rfl (Nat.le_of_ble_eq_true rfl) ?_
  intro p e s m args below meth c A ls Q S hr hw hl hQ
  have hx := S.1.1
  have hb := S.1.2.1
  have hts := S.1.2.2.2.2
  have hl : lv_has ls 5 [(0, .ref a_this), (1, .int y1), (2, .int y2)] := hl
  have hinX10 : ∀ w ∈ u_ws RX10 TX10 31, w ∈ wsX10_lengthOf := (fun _ h => List.mem_cons_of_mem _ (List.mem_append_right _ h))
  have F7 : FLk s args wsX10_lengthOf RX10 7 RX10 TX10 31 10 2 := ⟨hinX10, rfl, by decide, hts (.fieldLink RX10 7 "SlowPathsModel" "now" "[I") (List.mem_of_getElem? (i := 3) rfl)⟩
  have F37 : FLk s args wsX10_lengthOf RX10 37 RX10 TX10 31 10 15 := ⟨hinX10, rfl, by decide, hts (.fieldLink RX10 37 "SlowPathsModel" "pathGates" "[I") (List.mem_of_getElem? (i := 2) rfl)⟩
  have F115 : FLk s args wsX10_lengthOf RX10 115 RX10 TX10 31 10 1 := ⟨hinX10, rfl, by decide, hts (.fieldLink RX10 115 "SlowPathsModel" "gates" "I") (List.mem_of_getElem? (i := 1) rfl)⟩
  have h := hf
  rw [f_X10_lengthOf] at h
  refine lv_iconst (v := (0 : Int32)) hx hb dX10_lengthOf_0 (by decide) ?_
  refine lv_istore_n (lv' := [(3, .int (0 : Int32)), (0, .ref a_this), (1, .int y1), (2, .int y2)]) hx hb dX10_lengthOf_1 rfl hl (by decide) rfl (fun ls hl => ?_)
  refine lv_iconst (v := (0 : Int32)) hx hb dX10_lengthOf_2 (by decide) ?_
  refine lv_istore (lv' := [(4, .int (0 : Int32)), (3, .int (0 : Int32)), (0, .ref a_this), (1, .int y1), (2, .int y2)]) hx hb dX10_lengthOf_3 hl (by decide) rfl (fun ls hl => ?_)
  obtain ⟨j56_1, ej56_1, h⟩ := bnd_ex h
  have hj56_1 : ∀ (x3_1 : Int32) (ls : Array Slot), j56_1 x3_1 = some (rr) → lv_has ls 5 [(3, .int x3_1)] → W p l e rmX10_lengthOf s m args below meth c s.heap [] 0 0 Q (F0 m 56 ls []) := by
    intro x3_1 ls h hl
    replace h := ap1 ej56_1 h
    refine lv_iload_n hx hb dX10_lengthOf_56 rfl (lv_at hl 0 rfl) ?_
    cases h
    exact z_iretr S hQ hr dX10_lengthOf_57
  have hL5_1 : ∀ (nf : Nat) (x3_2 : Int32) (x4_3 : Int32) (ls : Array Slot), f_X10_lengthOf_L5 N y1 y2 i_this_gates k_pathGates k_now j56_1 nf x3_2 x4_3 = some (rr) → lv_has ls 5 [(0, .ref a_this), (1, .int y1), (2, .int y2), (3, .int x3_2), (4, .int x4_3)] → W p l e rmX10_lengthOf s m args below meth c s.heap [] 0 0 Q (F0 m 5 ls []) := by
    intro nf
    induction nf with
    | zero =>
      intro x3_2 x4_3 ls h
      rw [f_X10_lengthOf_L5] at h
      cases h
    | succ n_5 ih_5 =>
      intro x3_2 x4_3 ls h hl
      rw [f_X10_lengthOf_L5] at h
      refine lv_iload hx hb dX10_lengthOf_5 (lv_at hl 4 rfl) ?_
      refine lv_aload_n hx hb dX10_lengthOf_7 rfl (lv_at hl 0 rfl) ?_
      refine z_get S hw F115 0 rfl rfl dX10_lengthOf_8 ?_
      refine lv_icmp_ge (tgt := 56) hx hb dX10_lengthOf_11 (by decide) (fun hc => ?_) (fun hc => ?_)
      · replace h := if_t hc h
        exact hj56_1 x3_2 ls h (lv_sub hl [3] rfl)
      · replace h := if_f hc h
        refine lv_iload_n hx hb dX10_lengthOf_14 rfl (lv_at hl 3 rfl) ?_
        refine lv_aload_n hx hb dX10_lengthOf_15 rfl (lv_at hl 0 rfl) ?_
        refine z_get S hw F37 0 rfl rfl dX10_lengthOf_16 ?_
        refine lv_iload_n hx hb dX10_lengthOf_19 rfl (lv_at hl 2 rfl) ?_
        obtain ⟨hg, h⟩ := grd_el h
        refine z_iald S hw 1 0 rfl rfl hg dX10_lengthOf_20 ?_
        refine lv_iload hx hb dX10_lengthOf_21 (lv_at hl 4 rfl) ?_
        obtain ⟨r_4, e23_1, h⟩ := obd1_el h
        refine zr_SI (As := [.int (k_pathGates y2.toNatClampNeg), .int x4_3]) (rest := [.int x3_2]) (q0 := 0) (ci := 0) (fs := []) (qc := (RX0, TX0, 4)) S hw (c_X10_has l D cI cJ cZ cS s.heap.size N (k_pathGates y2.toNatClampNeg) x4_3 r_4 e23_1) (va_cwS 2 hts gX10_lengthOf_X10_has rfl rfl rfl ds_X10_has ⟨Nat.le_of_ble_eq_true rfl, Nat.le_of_ble_eq_true rfl⟩) [] rfl rfl rfl hl.1 rfl (Nat.le_of_ble_eq_true rfl) dX10_lengthOf_23 ⟨Nat.zero_le _, Nat.zero_le _⟩ ?_
        obtain ⟨j48_1, ej48_1, h⟩ := bnd_ex h
        have hj48_1 : ∀ (t_5 : Int32) (t_6 : Int32) (ls : Array Slot), j48_1 t_5 t_6 = some (rr) → lv_has ls 5 [(0, .ref a_this), (1, .int y1), (2, .int y2), (4, .int x4_3)] → W p l e rmX10_lengthOf s m args below meth c s.heap [] 0 0 Q (F0 m 48 ls [.int t_5, .int t_6]) := by
          intro t_5 t_6 ls h hl
          replace h := ap2 ej48_1 h
          refine lv_iadd hx hb dX10_lengthOf_48 ?_
          refine lv_topi (fun x3_7 ex3_7 => ?_)
          replace h := bnd_at ex3_7 h
          refine lv_istore_n (lv' := [(3, .int x3_7), (0, .ref a_this), (1, .int y1), (2, .int y2), (4, .int x4_3)]) hx hb dX10_lengthOf_49 rfl hl (by decide) rfl (fun ls hl => ?_)
          obtain ⟨x4_8, ex4_8, h⟩ := bnd_ex h
          refine lv_iinc (v := x4_8) (lv' := [(4, .int x4_8), (3, .int x3_7), (0, .ref a_this), (1, .int y1), (2, .int y2)]) hx hb dX10_lengthOf_50 hl (k := 4) rfl (by rw [ex4_8]; rfl) (by decide) rfl (fun ls hl => ?_)
          refine lv_goto (tgt := 5) hx hb dX10_lengthOf_53 (by decide) ?_
          exact ih_5 x3_7 x4_8 ls h (lv_sub hl [2, 3, 4, 1, 0] rfl)
        refine lv_if_eq (tgt := 47) hx hb dX10_lengthOf_26 (by decide) (fun hc => ?_) (fun hc => ?_)
        · replace h := if_t hc h
          refine lv_iconst (v := (0 : Int32)) hx hb dX10_lengthOf_47 (by decide) ?_
          exact hj48_1 ((0 : Int32)) x3_2 ls h (lv_sub hl [0, 1, 2, 4] rfl)
        · replace h := if_f hc h
          refine lv_aload_n hx hb dX10_lengthOf_29 rfl (lv_at hl 0 rfl) ?_
          refine z_get S hw F7 0 rfl rfl dX10_lengthOf_30 ?_
          refine lv_bipush (v := (16 : Int32)) hx hb dX10_lengthOf_33 (by decide) ?_
          refine lv_iload_n hx hb dX10_lengthOf_35 rfl (lv_at hl 1 rfl) ?_
          refine lv_imul hx hb dX10_lengthOf_36 ?_
          refine lv_bipush (v := (8 : Int32)) hx hb dX10_lengthOf_37 (by decide) ?_
          refine lv_iadd hx hb dX10_lengthOf_39 ?_
          refine lv_iload hx hb dX10_lengthOf_40 (lv_at hl 4 rfl) ?_
          refine lv_iadd hx hb dX10_lengthOf_42 ?_
          obtain ⟨hg, h⟩ := grd_el h
          refine z_iald S hw 2 0 rfl rfl hg dX10_lengthOf_43 ?_
          refine lv_goto (tgt := 48) hx hb dX10_lengthOf_44 (by decide) ?_
          exact hj48_1 ((k_now ((((16 : Int32) * y1) + (8 : Int32)) + x4_3).toNatClampNeg)) x3_2 ls h (lv_sub hl [0, 1, 2, 4] rfl)
  exact hL5_1 N ((0 : Int32)) ((0 : Int32)) ls h (lv_sub hl [2, 3, 4, 1, 0] rfl)
abbrev rmX10_isPath : Room := { frames := 1, cells := 0, slots := 0, locals := 25 }
theorem dv_X10_isPath : yX10_isPath.cls = RX10 ∧ yX10_isPath.cls ≠ "java/lang/invoke/MethodHandle" ∧ yX10_isPath.cls ≠ "java/lang/invoke/VarHandle" ∧ (parseMethodDescriptor yX10_isPath.desc).map (fun d => d.parameters.length) = some 1 := by decide +kernel
noncomputable def f_X10_isPath (N : Nat) (y1 : Int32) (i_this_paths : Int32) : Option (Int32) :=
  obd1 (f_X10_in N (y1.toInt64) (0 : Int64) ((i_this_paths - (1 : Int32)).toInt64)) fun (r_1 : Int32) => grd (isZ r_1) (some (r_1))
set_option maxHeartbeats 4000000 in
set_option maxRecDepth 100000 in
theorem c_X10_isPath (l : Launch) (D : va_G) (cI cJ cZ cS : ClassId) (sz N : Nat) (a_this a_now a_one a_other a_next a_readOne a_readOther a_readNext a_text a_pathInput a_pathGates a_before a_after a_values a_taken a_waves a_row a_seenPair a_seenTime a_seenLate a_isKept a_kept : Nat) (i_this_inputs : Int32) (i_this_gates : Int32) (i_this_readInputs : Int32) (i_this_readGates : Int32) (i_this_length : Int32) (i_this_paths : Int32) (i_this_acts : Int32) (i_this_turn : Int32) (i_this_seen : Int32) (i_this_seed : Int64) (y1 : Int32) (rr : Int32) (hf : f_X10_isPath N y1 i_this_paths = some (rr)) : MetIr l yX10_isPath wsX10_isPath rmX10_isPath D (tyA cI cJ cZ cS) [(a_this, .inr (10, [.int i_this_inputs, .int i_this_gates, .ref a_now, .ref a_one, .ref a_other, .ref a_next, .int i_this_readInputs, .int i_this_readGates, .ref a_readOne, .ref a_readOther, .ref a_readNext, .ref a_text, .int i_this_length, .int i_this_paths, .ref a_pathInput, .ref a_pathGates, .ref a_before, .ref a_after, .ref a_values, .ref a_taken, .ref a_waves, .int i_this_acts, .int i_this_turn, .ref a_row, .int i_this_seen, .ref a_seenPair, .ref a_seenTime, .ref a_seenLate, .long i_this_seed, .ref a_isKept, .ref a_kept]))] sz [.ref a_this, .int y1] rr := by
  refine entZr (cc := cX10_isPath) (maxL := 2) (own := RX10) (by decide) rfl rfl (Nat.le_of_ble_eq_true rfl) ?_
  intro p e s m args below meth c A ls Q S hr hw hl hQ
  have hx := S.1.1
  have hb := S.1.2.1
  have hts := S.1.2.2.2.2
  have hl : lv_has ls 2 [(0, .ref a_this), (1, .int y1)] := hl
  have hinX10 : ∀ w ∈ u_ws RX10 TX10 31, w ∈ wsX10_isPath := (fun _ h => List.mem_cons_of_mem _ (List.mem_append_right _ h))
  have F124 : FLk s args wsX10_isPath RX10 124 RX10 TX10 31 10 13 := ⟨hinX10, rfl, by decide, hts (.fieldLink RX10 124 "SlowPathsModel" "paths" "I") (List.mem_of_getElem? (i := 1) rfl)⟩
  have h := hf
  rw [f_X10_isPath] at h
  refine lv_iload_n hx hb dX10_isPath_0 rfl (lv_at hl 1 rfl) ?_
  refine lv_i2l hx hb dX10_isPath_1 rfl ?_
  refine lv_lconst (v := (0 : Int64)) hx hb dX10_isPath_2 (by decide) ?_
  refine lv_aload_n hx hb dX10_isPath_3 rfl (lv_at hl 0 rfl) ?_
  refine z_get S hw F124 0 rfl rfl dX10_isPath_4 ?_
  refine lv_iconst (v := (1 : Int32)) hx hb dX10_isPath_7 (by decide) ?_
  refine lv_isub hx hb dX10_isPath_8 ?_
  refine lv_i2l hx hb dX10_isPath_9 rfl ?_
  obtain ⟨r_1, e10_1, h⟩ := obd1_el h
  refine zr_SI (As := [.long (y1.toInt64), .long (0 : Int64), .long ((i_this_paths - (1 : Int32)).toInt64)]) (rest := []) (q0 := 0) (ci := 0) (fs := []) (qc := (RX0, TX0, 4)) S hw (c_X10_in l D cI cJ cZ cS s.heap.size N (y1.toInt64) (0 : Int64) ((i_this_paths - (1 : Int32)).toInt64) r_1 e10_1) (va_cwS 3 hts gX10_isPath_X10_in rfl rfl rfl ds_X10_in ⟨Nat.le_of_ble_eq_true rfl, Nat.le_of_ble_eq_true rfl⟩) [] rfl rfl rfl hl.1 rfl (Nat.le_of_ble_eq_true rfl) dX10_isPath_10 ⟨Nat.zero_le _, Nat.zero_le _⟩ ?_
  obtain ⟨hz, h⟩ := grd_el h
  cases h
  exact z_zretr S hQ hr (isZ_narrow hz) dX10_isPath_13
