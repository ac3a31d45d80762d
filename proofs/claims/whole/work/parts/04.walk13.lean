abbrev rmX10_path : Room := { frames := 2, cells := 0, slots := 0, locals := 46 }
theorem dv_X10_path : yX10_path.cls = RX10 ∧ yX10_path.cls ≠ "java/lang/invoke/MethodHandle" ∧ yX10_path.cls ≠ "java/lang/invoke/VarHandle" ∧ (parseMethodDescriptor yX10_path.desc).map (fun d => d.parameters.length) = some 2 := by decide +kernel
noncomputable def f_X10_path_L66 (N : Nat) (y1 : Int32) (i_this_gates : Int32) (k_pathGates : (Nat → Int32)) (j105_1 : Option (Int32)) : Nat → Int32 → Int32 → Option (Int32)
  | 0, _, _ => none
  | n_66 + 1, x3_3, x4_4 =>
    (if i_this_gates ≤ x4_4 then (j105_1) else (grd (inb y1 64) <| obd1 (f_X10_has N (k_pathGates y1.toNatClampNeg) x4_4) fun (r_5 : Int32) => bnd (fun (x3_6 : Int32) => (bnd (x4_4 + (1 : Int32)) fun (x4_7 : Int32) => f_X10_path_L66 N y1 i_this_gates k_pathGates j105_1 n_66 x3_6 x4_7)) fun (j99_1 : Int32 → Option (Int32)) => (if r_5 = (0 : Int32) then (j99_1 x3_3) else ((if x3_3 = (0 : Int32) then (some (x4_4)) else (bnd (x3_3 + (-1 : Int32)) fun (x3_8 : Int32) => j99_1 x3_8))))))
noncomputable def f_X10_path (N : Nat) (y1 : Int32) (y2 : Int32) (i_this_gates : Int32) (i_this_paths : Int32) (k_pathGates : (Nat → Int32)) (k_now : (Nat → Int32)) (k_pathInput : (Nat → Int32)) : Option (Int32) :=
  obd1 (f_X10_isPath N y1 i_this_paths) fun (r_1 : Int32) => (if r_1 = (0 : Int32) then (some ((-1 : Int32))) else ((if (0 : Int32) ≤ y2 then ((if (3 : Int32) ≤ y2 then (bnd ((y2 - (3 : Int32))) fun (x3_2 : Int32) => bnd (α := Option (Int32)) (some ((-9 : Int32))) fun (j105_1 : Option (Int32)) => f_X10_path_L66 N y1 i_this_gates k_pathGates j105_1 N x3_2 ((0 : Int32))) else ((if y2 = (0 : Int32) then (grd (inb y1 64) <| some ((k_pathInput y1.toNatClampNeg))) else ((if y2 = (1 : Int32) then (grd (inb y1 64) <| obd1 (f_X10_ones N (k_pathGates y1.toNatClampNeg)) fun (r_10 : Int32) => some (r_10)) else (obd1 (f_X10_lengthOf N (0 : Int32) y1 i_this_gates k_pathGates k_now) fun (r_9 : Int32) => some (r_9)))))))) else (some ((-2 : Int32))))))
set_option maxHeartbeats 4000000 in
set_option maxRecDepth 100000 in
theorem c_X10_path (l : Launch) (D : va_G) (cI cJ cZ cS : ClassId) (sz N : Nat) (a_this a_pathGates a_now a_pathInput a_one a_other a_next a_readOne a_readOther a_readNext a_text a_before a_after a_values a_taken a_waves a_row a_seenPair a_seenTime a_seenLate a_isKept a_kept : Nat) (i_this_inputs : Int32) (i_this_gates : Int32) (i_this_readInputs : Int32) (i_this_readGates : Int32) (i_this_length : Int32) (i_this_paths : Int32) (i_this_acts : Int32) (i_this_turn : Int32) (i_this_seen : Int32) (i_this_seed : Int64) (k_pathGates : (Nat → Int32)) (k_now : (Nat → Int32)) (k_pathInput : (Nat → Int32)) (y1 : Int32) (y2 : Int32) (rr : Int32) (hf : f_X10_path N y1 y2 i_this_gates i_this_paths k_pathGates k_now k_pathInput = some (rr)) : MetIr l yX10_path wsX10_path rmX10_path D (tyA cI cJ cZ cS) [(a_this, .inr (10, [.int i_this_inputs, .int i_this_gates, .ref a_now, .ref a_one, .ref a_other, .ref a_next, .int i_this_readInputs, .int i_this_readGates, .ref a_readOne, .ref a_readOther, .ref a_readNext, .ref a_text, .int i_this_length, .int i_this_paths, .ref a_pathInput, .ref a_pathGates, .ref a_before, .ref a_after, .ref a_values, .ref a_taken, .ref a_waves, .int i_this_acts, .int i_this_turn, .ref a_row, .int i_this_seen, .ref a_seenPair, .ref a_seenTime, .ref a_seenLate, .long i_this_seed, .ref a_isKept, .ref a_kept])), (a_pathGates, .inl (cI, 64, .inl k_pathGates)), (a_now, .inl (cI, 32, .inl k_now)), (a_pathInput, .inl (cI, 64, .inl k_pathInput))] sz [.ref a_this, .int y1, .int y2] rr := by
  refine entIr (cc := cX10_path) (maxL := 5) (own := RX10) (by decide) rfl rfl (Nat.le_of_ble_eq_true rfl) ?_
  intro p e s m args below meth c A ls Q S hr hw hl hQ
  have hx := S.1.1
  have hb := S.1.2.1
  have hts := S.1.2.2.2.2
  have hl : lv_has ls 5 [(0, .ref a_this), (1, .int y1), (2, .int y2)] := hl
  have hinX10 : ∀ w ∈ u_ws RX10 TX10 31, w ∈ wsX10_path := (fun _ h => List.mem_cons_of_mem _ (List.mem_append_right _ h))
  have F34 : FLk s args wsX10_path RX10 34 RX10 TX10 31 10 14 := ⟨hinX10, rfl, by decide, hts (.fieldLink RX10 34 "SlowPathsModel" "pathInput" "[I") (List.mem_of_getElem? (i := 1) rfl)⟩
  have F37 : FLk s args wsX10_path RX10 37 RX10 TX10 31 10 15 := ⟨hinX10, rfl, by decide, hts (.fieldLink RX10 37 "SlowPathsModel" "pathGates" "[I") (List.mem_of_getElem? (i := 2) rfl)⟩
  have F115 : FLk s args wsX10_path RX10 115 RX10 TX10 31 10 1 := ⟨hinX10, rfl, by decide, hts (.fieldLink RX10 115 "SlowPathsModel" "gates" "I") (List.mem_of_getElem? (i := 3) rfl)⟩
  have h := hf
  rw [f_X10_path] at h
  refine lv_aload_n hx hb dX10_path_0 rfl (lv_at hl 0 rfl) ?_
  refine lv_iload_n hx hb dX10_path_1 rfl (lv_at hl 1 rfl) ?_
  obtain ⟨r_1, e2_1, h⟩ := obd1_el h
  refine zr_VI (As := [.int y1]) (rest := []) (q0 := 0) S hw (c_X10_isPath l D cI cJ cZ cS s.heap.size N a_this a_now a_one a_other a_next a_readOne a_readOther a_readNext a_text a_pathInput a_pathGates a_before a_after a_values a_taken a_waves a_row a_seenPair a_seenTime a_seenLate a_isKept a_kept i_this_inputs i_this_gates i_this_readInputs i_this_readGates i_this_length i_this_paths i_this_acts i_this_turn i_this_seen i_this_seed y1 r_1 e2_1) (cwV 1 hts gX10_path_X10_isPath rfl rfl rfl dv_X10_isPath ⟨Nat.le_of_ble_eq_true rfl, Nat.le_of_ble_eq_true rfl⟩) [0] rfl rfl rfl rfl rfl rfl hl.1 rfl (Nat.le_of_ble_eq_true rfl) dX10_path_2 ⟨Nat.zero_le _, Nat.zero_le _⟩ ?_
  refine lv_if_ne (tgt := 10) hx hb dX10_path_5 (by decide) (fun hc => ?_) (fun hc => ?_)
  · replace h := if_f hc h
    refine lv_iload_n hx hb dX10_path_10 rfl (lv_at hl 2 rfl) ?_
    refine lv_if_ge (tgt := 17) hx hb dX10_path_11 (by decide) (fun hc => ?_) (fun hc => ?_)
    · replace h := if_t hc h
      refine lv_iload_n hx hb dX10_path_17 rfl (lv_at hl 2 rfl) ?_
      refine lv_iconst (v := (3 : Int32)) hx hb dX10_path_18 (by decide) ?_
      refine lv_icmp_ge (tgt := 59) hx hb dX10_path_19 (by decide) (fun hc => ?_) (fun hc => ?_)
      · replace h := if_t hc h
        refine lv_iload_n hx hb dX10_path_59 rfl (lv_at hl 2 rfl) ?_
        refine lv_iconst (v := (3 : Int32)) hx hb dX10_path_60 (by decide) ?_
        refine lv_isub hx hb dX10_path_61 ?_
        refine lv_topi (fun x3_2 ex3_2 => ?_)
        replace h := bnd_at ex3_2 h
        refine lv_istore_n (lv' := [(3, .int x3_2), (0, .ref a_this), (1, .int y1), (2, .int y2)]) hx hb dX10_path_62 rfl hl (by decide) rfl (fun ls hl => ?_)
        refine lv_iconst (v := (0 : Int32)) hx hb dX10_path_63 (by decide) ?_
        refine lv_istore (lv' := [(4, .int (0 : Int32)), (3, .int x3_2), (0, .ref a_this), (1, .int y1), (2, .int y2)]) hx hb dX10_path_64 hl (by decide) rfl (fun ls hl => ?_)
        obtain ⟨j105_1, ej105_1, h⟩ := bnd_ex h
        have hj105_1 : ∀ (ls : Array Slot), j105_1 = some (rr) → lv_has ls 5 [] → W p l e rmX10_path s m args below meth c s.heap [] 0 0 Q (F0 m 105 ls []) := by
          intro ls h hl
          replace h := ap0 ej105_1 h
          refine lv_bipush (v := (-9 : Int32)) hx hb dX10_path_105 (by decide) ?_
          cases h
          exact z_iretr S hQ hr dX10_path_107
        have hL66_1 : ∀ (nf : Nat) (x3_3 : Int32) (x4_4 : Int32) (ls : Array Slot), f_X10_path_L66 N y1 i_this_gates k_pathGates j105_1 nf x3_3 x4_4 = some (rr) → lv_has ls 5 [(0, .ref a_this), (1, .int y1), (3, .int x3_3), (4, .int x4_4)] → W p l e rmX10_path s m args below meth c s.heap [] 0 0 Q (F0 m 66 ls []) := by
          intro nf
          induction nf with
          | zero =>
            intro x3_3 x4_4 ls h
            rw [f_X10_path_L66] at h
            cases h
          | succ n_66 ih_66 =>
            intro x3_3 x4_4 ls h hl
            rw [f_X10_path_L66] at h
            refine lv_iload hx hb dX10_path_66 (lv_at hl 3 rfl) ?_
            refine lv_aload_n hx hb dX10_path_68 rfl (lv_at hl 0 rfl) ?_
            refine z_get S hw F115 0 rfl rfl dX10_path_69 ?_
            refine lv_icmp_ge (tgt := 105) hx hb dX10_path_72 (by decide) (fun hc => ?_) (fun hc => ?_)
            · replace h := if_t hc h
              exact hj105_1  ls h (lv_sub hl [] rfl)
            · replace h := if_f hc h
              refine lv_aload_n hx hb dX10_path_75 rfl (lv_at hl 0 rfl) ?_
              refine z_get S hw F37 0 rfl rfl dX10_path_76 ?_
              refine lv_iload_n hx hb dX10_path_79 rfl (lv_at hl 1 rfl) ?_
              obtain ⟨hg, h⟩ := grd_el h
              refine z_iald S hw 1 0 rfl rfl hg dX10_path_80 ?_
              refine lv_iload hx hb dX10_path_81 (lv_at hl 3 rfl) ?_
              obtain ⟨r_5, e83_1, h⟩ := obd1_el h
              refine zr_SI (As := [.int (k_pathGates y1.toNatClampNeg), .int x4_4]) (rest := []) (q0 := 0) (ci := 0) (fs := []) (qc := (RX0, TX0, 4)) S hw (c_X10_has l D cI cJ cZ cS s.heap.size N (k_pathGates y1.toNatClampNeg) x4_4 r_5 e83_1) (va_cwS 2 hts gX10_path_X10_has rfl rfl rfl ds_X10_has ⟨Nat.le_of_ble_eq_true rfl, Nat.le_of_ble_eq_true rfl⟩) [] rfl rfl rfl hl.1 rfl (Nat.le_of_ble_eq_true rfl) dX10_path_83 ⟨Nat.zero_le _, Nat.zero_le _⟩ ?_
              obtain ⟨j99_1, ej99_1, h⟩ := bnd_ex h
              have hj99_1 : ∀ (x3_6 : Int32) (ls : Array Slot), j99_1 x3_6 = some (rr) → lv_has ls 5 [(0, .ref a_this), (1, .int y1), (3, .int x3_6), (4, .int x4_4)] → W p l e rmX10_path s m args below meth c s.heap [] 0 0 Q (F0 m 99 ls []) := by
                intro x3_6 ls h hl
                replace h := ap1 ej99_1 h
                obtain ⟨x4_7, ex4_7, h⟩ := bnd_ex h
                refine lv_iinc (v := x4_7) (lv' := [(4, .int x4_7), (0, .ref a_this), (1, .int y1), (3, .int x3_6)]) hx hb dX10_path_99 hl (k := 3) rfl (by rw [ex4_7]; rfl) (by decide) rfl (fun ls hl => ?_)
                refine lv_goto (tgt := 66) hx hb dX10_path_102 (by decide) ?_
                exact ih_66 x3_6 x4_7 ls h (lv_sub hl [1, 2, 3, 0] rfl)
              refine lv_if_eq (tgt := 99) hx hb dX10_path_86 (by decide) (fun hc => ?_) (fun hc => ?_)
              · replace h := if_t hc h
                exact hj99_1 x3_3 ls h hl
              · replace h := if_f hc h
                refine lv_iload_n hx hb dX10_path_89 rfl (lv_at hl 2 rfl) ?_
                refine lv_if_ne (tgt := 96) hx hb dX10_path_90 (by decide) (fun hc => ?_) (fun hc => ?_)
                · replace h := if_f hc h
                  obtain ⟨x3_8, ex3_8, h⟩ := bnd_ex h
                  refine lv_iinc (v := x3_8) (lv' := [(3, .int x3_8), (0, .ref a_this), (1, .int y1), (4, .int x4_4)]) hx hb dX10_path_96 hl (k := 2) rfl (by rw [ex3_8]; rfl) (by decide) rfl (fun ls hl => ?_)
                  exact hj99_1 x3_8 ls h (lv_sub hl [1, 2, 0, 3] rfl)
                · replace h := if_t hc h
                  refine lv_iload hx hb dX10_path_93 (lv_at hl 3 rfl) ?_
                  cases h
                  exact z_iretr S hQ hr dX10_path_95
        exact hL66_1 N x3_2 ((0 : Int32)) ls h (lv_sub hl [2, 3, 1, 0] rfl)
      · replace h := if_f hc h
        refine lv_iload_n hx hb dX10_path_22 rfl (lv_at hl 2 rfl) ?_
        refine lv_if_ne (tgt := 35) hx hb dX10_path_23 (by decide) (fun hc => ?_) (fun hc => ?_)
        · replace h := if_f hc h
          refine lv_iload_n hx hb dX10_path_35 rfl (lv_at hl 2 rfl) ?_
          refine lv_iconst (v := (1 : Int32)) hx hb dX10_path_36 (by decide) ?_
          refine lv_icmp_ne (tgt := 52) hx hb dX10_path_37 (by decide) (fun hc => ?_) (fun hc => ?_)
          · replace h := if_f hc h
            refine lv_aload_n hx hb dX10_path_52 rfl (lv_at hl 0 rfl) ?_
            refine lv_iconst (v := (0 : Int32)) hx hb dX10_path_53 (by decide) ?_
            refine lv_iload_n hx hb dX10_path_54 rfl (lv_at hl 1 rfl) ?_
            obtain ⟨r_9, e55_1, h⟩ := obd1_el h
            refine zr_VI (As := [.int (0 : Int32), .int y1]) (rest := []) (q0 := 0) S hw (c_X10_lengthOf l D cI cJ cZ cS s.heap.size N a_this a_pathGates a_now a_one a_other a_next a_readOne a_readOther a_readNext a_text a_pathInput a_before a_after a_values a_taken a_waves a_row a_seenPair a_seenTime a_seenLate a_isKept a_kept i_this_inputs i_this_gates i_this_readInputs i_this_readGates i_this_length i_this_paths i_this_acts i_this_turn i_this_seen i_this_seed k_pathGates k_now (0 : Int32) y1 r_9 e55_1) (cwV 2 hts gX10_path_X10_lengthOf rfl rfl rfl dv_X10_lengthOf ⟨Nat.le_of_ble_eq_true rfl, Nat.le_of_ble_eq_true rfl⟩) [0, 1, 2] rfl rfl rfl rfl rfl rfl hl.1 rfl (Nat.le_of_ble_eq_true rfl) dX10_path_55 ⟨Nat.zero_le _, Nat.zero_le _⟩ ?_
            cases h
            exact z_iretr S hQ hr dX10_path_58
          · replace h := if_t hc h
            refine lv_aload_n hx hb dX10_path_40 rfl (lv_at hl 0 rfl) ?_
            refine z_get S hw F37 0 rfl rfl dX10_path_41 ?_
            refine lv_iload_n hx hb dX10_path_44 rfl (lv_at hl 1 rfl) ?_
            obtain ⟨hg, h⟩ := grd_el h
            refine z_iald S hw 1 0 rfl rfl hg dX10_path_45 ?_
            obtain ⟨r_10, e46_1, h⟩ := obd1_el h
            refine zr_SI (As := [.int (k_pathGates y1.toNatClampNeg)]) (rest := []) (q0 := 0) (ci := 0) (fs := []) (qc := (RX0, TX0, 4)) S hw (c_X10_ones l D cI cJ cZ cS s.heap.size N (k_pathGates y1.toNatClampNeg) r_10 e46_1) (va_cwS 1 hts gX10_path_X10_ones rfl rfl rfl ds_X10_ones ⟨Nat.le_of_ble_eq_true rfl, Nat.le_of_ble_eq_true rfl⟩) [] rfl rfl rfl hl.1 rfl (Nat.le_of_ble_eq_true rfl) dX10_path_46 ⟨Nat.zero_le _, Nat.zero_le _⟩ ?_
            refine lv_goto (tgt := 58) hx hb dX10_path_49 (by decide) ?_
            cases h
            exact z_iretr S hQ hr dX10_path_58
        · replace h := if_t hc h
          refine lv_aload_n hx hb dX10_path_26 rfl (lv_at hl 0 rfl) ?_
          refine z_get S hw F34 0 rfl rfl dX10_path_27 ?_
          refine lv_iload_n hx hb dX10_path_30 rfl (lv_at hl 1 rfl) ?_
          obtain ⟨hg, h⟩ := grd_el h
          refine z_iald S hw 3 0 rfl rfl hg dX10_path_31 ?_
          refine lv_goto (tgt := 58) hx hb dX10_path_32 (by decide) ?_
          cases h
          exact z_iretr S hQ hr dX10_path_58
    · replace h := if_f hc h
      refine lv_bipush (v := (-2 : Int32)) hx hb dX10_path_14 (by decide) ?_
      cases h
      exact z_iretr S hQ hr dX10_path_16
  · replace h := if_t hc h
    refine lv_iconst (v := (-1 : Int32)) hx hb dX10_path_8 (by decide) ?_
    cases h
    exact z_iretr S hQ hr dX10_path_9
abbrev rmX10_greatest : Room := { frames := 2, cells := 0, slots := 0, locals := 45 }
theorem dv_X10_greatest : yX10_greatest.cls = RX10 ∧ yX10_greatest.cls ≠ "java/lang/invoke/MethodHandle" ∧ yX10_greatest.cls ≠ "java/lang/invoke/VarHandle" ∧ (parseMethodDescriptor yX10_greatest.desc).map (fun d => d.parameters.length) = some 1 := by decide +kernel
noncomputable def f_X10_greatest_L5 (N : Nat) (y1 : Int32) (i_this_gates : Int32) (i_this_paths : Int32) (k_pathGates : (Nat → Int32)) (k_now : (Nat → Int32)) (j40_1 : Int32 → Option (Int32)) : Nat → Int32 → Int32 → Option (Int32)
  | 0, _, _ => none
  | n_5 + 1, x2_2, x3_3 =>
    (if i_this_paths ≤ x3_3 then (j40_1 x2_2) else (obd1 (f_X10_lengthOf N y1 x3_3 i_this_gates k_pathGates k_now) fun (r_4 : Int32) => bnd (fun (t_5 : Int32) => (bnd (x3_3 + (1 : Int32)) fun (x3_6 : Int32) => f_X10_greatest_L5 N y1 i_this_gates i_this_paths k_pathGates k_now j40_1 n_5 t_5 x3_6)) fun (j33_1 : Int32 → Option (Int32)) => (if r_4 ≤ x2_2 then (j33_1 x2_2) else (obd1 (f_X10_lengthOf N y1 x3_3 i_this_gates k_pathGates k_now) fun (r_7 : Int32) => j33_1 r_7))))
noncomputable def f_X10_greatest (N : Nat) (y1 : Int32) (i_this_gates : Int32) (i_this_paths : Int32) (k_pathGates : (Nat → Int32)) (k_now : (Nat → Int32)) : Option (Int32) :=
  bnd (fun (x2_1 : Int32) => (some (x2_1))) fun (j40_1 : Int32 → Option (Int32)) => f_X10_greatest_L5 N y1 i_this_gates i_this_paths k_pathGates k_now j40_1 N ((-9 : Int32)) ((0 : Int32))
set_option maxHeartbeats 4000000 in
set_option maxRecDepth 100000 in
theorem c_X10_greatest (l : Launch) (D : va_G) (cI cJ cZ cS : ClassId) (sz N : Nat) (a_this a_pathGates a_now a_one a_other a_next a_readOne a_readOther a_readNext a_text a_pathInput a_before a_after a_values a_taken a_waves a_row a_seenPair a_seenTime a_seenLate a_isKept a_kept : Nat) (i_this_inputs : Int32) (i_this_gates : Int32) (i_this_readInputs : Int32) (i_this_readGates : Int32) (i_this_length : Int32) (i_this_paths : Int32) (i_this_acts : Int32) (i_this_turn : Int32) (i_this_seen : Int32) (i_this_seed : Int64) (k_pathGates : (Nat → Int32)) (k_now : (Nat → Int32)) (y1 : Int32) (rr : Int32) (hf : f_X10_greatest N y1 i_this_gates i_this_paths k_pathGates k_now = some (rr)) : MetIr l yX10_greatest wsX10_greatest rmX10_greatest D (tyA cI cJ cZ cS) [(a_this, .inr (10, [.int i_this_inputs, .int i_this_gates, .ref a_now, .ref a_one, .ref a_other, .ref a_next, .int i_this_readInputs, .int i_this_readGates, .ref a_readOne, .ref a_readOther, .ref a_readNext, .ref a_text, .int i_this_length, .int i_this_paths, .ref a_pathInput, .ref a_pathGates, .ref a_before, .ref a_after, .ref a_values, .ref a_taken, .ref a_waves, .int i_this_acts, .int i_this_turn, .ref a_row, .int i_this_seen, .ref a_seenPair, .ref a_seenTime, .ref a_seenLate, .long i_this_seed, .ref a_isKept, .ref a_kept])), (a_pathGates, .inl (cI, 64, .inl k_pathGates)), (a_now, .inl (cI, 32, .inl k_now))] sz [.ref a_this, .int y1] rr := by
  refine entIr (cc := cX10_greatest) (maxL := 4) (own := RX10) (by decide) rfl rfl (Nat.le_of_ble_eq_true rfl) ?_
  intro p e s m args below meth c A ls Q S hr hw hl hQ
  have hx := S.1.1
  have hb := S.1.2.1
  have hts := S.1.2.2.2.2
  have hl : lv_has ls 4 [(0, .ref a_this), (1, .int y1)] := hl
  have hinX10 : ∀ w ∈ u_ws RX10 TX10 31, w ∈ wsX10_greatest := (fun _ h => List.mem_cons_of_mem _ (List.mem_append_right _ h))
  have F124 : FLk s args wsX10_greatest RX10 124 RX10 TX10 31 10 13 := ⟨hinX10, rfl, by decide, hts (.fieldLink RX10 124 "SlowPathsModel" "paths" "I") (List.mem_of_getElem? (i := 1) rfl)⟩
  have h := hf
  rw [f_X10_greatest] at h
  refine lv_bipush (v := (-9 : Int32)) hx hb dX10_greatest_0 (by decide) ?_
  refine lv_istore_n (lv' := [(2, .int (-9 : Int32)), (0, .ref a_this), (1, .int y1)]) hx hb dX10_greatest_2 rfl hl (by decide) rfl (fun ls hl => ?_)
  refine lv_iconst (v := (0 : Int32)) hx hb dX10_greatest_3 (by decide) ?_
  refine lv_istore_n (lv' := [(3, .int (0 : Int32)), (2, .int (-9 : Int32)), (0, .ref a_this), (1, .int y1)]) hx hb dX10_greatest_4 rfl hl (by decide) rfl (fun ls hl => ?_)
  obtain ⟨j40_1, ej40_1, h⟩ := bnd_ex h
  have hj40_1 : ∀ (x2_1 : Int32) (ls : Array Slot), j40_1 x2_1 = some (rr) → lv_has ls 4 [(2, .int x2_1)] → W p l e rmX10_greatest s m args below meth c s.heap [] 0 0 Q (F0 m 40 ls []) := by
    intro x2_1 ls h hl
    replace h := ap1 ej40_1 h
    refine lv_iload_n hx hb dX10_greatest_40 rfl (lv_at hl 0 rfl) ?_
    cases h
    exact z_iretr S hQ hr dX10_greatest_41
  have hL5_1 : ∀ (nf : Nat) (x2_2 : Int32) (x3_3 : Int32) (ls : Array Slot), f_X10_greatest_L5 N y1 i_this_gates i_this_paths k_pathGates k_now j40_1 nf x2_2 x3_3 = some (rr) → lv_has ls 4 [(0, .ref a_this), (1, .int y1), (2, .int x2_2), (3, .int x3_3)] → W p l e rmX10_greatest s m args below meth c s.heap [] 0 0 Q (F0 m 5 ls []) := by
    intro nf
    induction nf with
    | zero =>
      intro x2_2 x3_3 ls h
      rw [f_X10_greatest_L5] at h
      cases h
    | succ n_5 ih_5 =>
      intro x2_2 x3_3 ls h hl
      rw [f_X10_greatest_L5] at h
      refine lv_iload_n hx hb dX10_greatest_5 rfl (lv_at hl 3 rfl) ?_
      refine lv_aload_n hx hb dX10_greatest_6 rfl (lv_at hl 0 rfl) ?_
      refine z_get S hw F124 0 rfl rfl dX10_greatest_7 ?_
      refine lv_icmp_ge (tgt := 40) hx hb dX10_greatest_10 (by decide) (fun hc => ?_) (fun hc => ?_)
      · replace h := if_t hc h
        exact hj40_1 x2_2 ls h (lv_sub hl [2] rfl)
      · replace h := if_f hc h
        refine lv_aload_n hx hb dX10_greatest_13 rfl (lv_at hl 0 rfl) ?_
        refine lv_iload_n hx hb dX10_greatest_14 rfl (lv_at hl 1 rfl) ?_
        refine lv_iload_n hx hb dX10_greatest_15 rfl (lv_at hl 3 rfl) ?_
        obtain ⟨r_4, e16_1, h⟩ := obd1_el h
        refine zr_VI (As := [.int y1, .int x3_3]) (rest := []) (q0 := 0) S hw (c_X10_lengthOf l D cI cJ cZ cS s.heap.size N a_this a_pathGates a_now a_one a_other a_next a_readOne a_readOther a_readNext a_text a_pathInput a_before a_after a_values a_taken a_waves a_row a_seenPair a_seenTime a_seenLate a_isKept a_kept i_this_inputs i_this_gates i_this_readInputs i_this_readGates i_this_length i_this_paths i_this_acts i_this_turn i_this_seen i_this_seed k_pathGates k_now y1 x3_3 r_4 e16_1) (cwV 2 hts gX10_greatest_X10_lengthOf rfl rfl rfl dv_X10_lengthOf ⟨Nat.le_of_ble_eq_true rfl, Nat.le_of_ble_eq_true rfl⟩) [0, 1, 2] rfl rfl rfl rfl rfl rfl hl.1 rfl (Nat.le_of_ble_eq_true rfl) dX10_greatest_16 ⟨Nat.zero_le _, Nat.zero_le _⟩ ?_
        refine lv_iload_n hx hb dX10_greatest_19 rfl (lv_at hl 2 rfl) ?_
        obtain ⟨j33_1, ej33_1, h⟩ := bnd_ex h
        have hj33_1 : ∀ (t_5 : Int32) (ls : Array Slot), j33_1 t_5 = some (rr) → lv_has ls 4 [(0, .ref a_this), (1, .int y1), (3, .int x3_3)] → W p l e rmX10_greatest s m args below meth c s.heap [] 0 0 Q (F0 m 33 ls [.int t_5]) := by
          intro t_5 ls h hl
          replace h := ap1 ej33_1 h
          refine lv_istore_n (lv' := [(2, .int t_5), (0, .ref a_this), (1, .int y1), (3, .int x3_3)]) hx hb dX10_greatest_33 rfl hl (by decide) rfl (fun ls hl => ?_)
          obtain ⟨x3_6, ex3_6, h⟩ := bnd_ex h
          refine lv_iinc (v := x3_6) (lv' := [(3, .int x3_6), (2, .int t_5), (0, .ref a_this), (1, .int y1)]) hx hb dX10_greatest_34 hl (k := 3) rfl (by rw [ex3_6]; rfl) (by decide) rfl (fun ls hl => ?_)
          refine lv_goto (tgt := 5) hx hb dX10_greatest_37 (by decide) ?_
          exact ih_5 t_5 x3_6 ls h (lv_sub hl [2, 3, 1, 0] rfl)
        refine lv_icmp_le (tgt := 32) hx hb dX10_greatest_20 (by decide) (fun hc => ?_) (fun hc => ?_)
        · replace h := if_t hc h
          refine lv_iload_n hx hb dX10_greatest_32 rfl (lv_at hl 2 rfl) ?_
          exact hj33_1 x2_2 ls h (lv_sub hl [0, 1, 3] rfl)
        · replace h := if_f hc h
          refine lv_aload_n hx hb dX10_greatest_23 rfl (lv_at hl 0 rfl) ?_
          refine lv_iload_n hx hb dX10_greatest_24 rfl (lv_at hl 1 rfl) ?_
          refine lv_iload_n hx hb dX10_greatest_25 rfl (lv_at hl 3 rfl) ?_
          obtain ⟨r_7, e26_1, h⟩ := obd1_el h
          refine zr_VI (As := [.int y1, .int x3_3]) (rest := []) (q0 := 0) S hw (c_X10_lengthOf l D cI cJ cZ cS s.heap.size N a_this a_pathGates a_now a_one a_other a_next a_readOne a_readOther a_readNext a_text a_pathInput a_before a_after a_values a_taken a_waves a_row a_seenPair a_seenTime a_seenLate a_isKept a_kept i_this_inputs i_this_gates i_this_readInputs i_this_readGates i_this_length i_this_paths i_this_acts i_this_turn i_this_seen i_this_seed k_pathGates k_now y1 x3_3 r_7 e26_1) (cwV 2 hts gX10_greatest_X10_lengthOf rfl rfl rfl dv_X10_lengthOf ⟨Nat.le_of_ble_eq_true rfl, Nat.le_of_ble_eq_true rfl⟩) [0, 1, 2] rfl rfl rfl rfl rfl rfl hl.1 rfl (Nat.le_of_ble_eq_true rfl) dX10_greatest_26 ⟨Nat.zero_le _, Nat.zero_le _⟩ ?_
          refine lv_goto (tgt := 33) hx hb dX10_greatest_29 (by decide) ?_
          exact hj33_1 r_7 ls h (lv_sub hl [0, 1, 3] rfl)
  exact hL5_1 N ((-9 : Int32)) ((0 : Int32)) ls h (lv_sub hl [2, 3, 1, 0] rfl)
abbrev rmX10_longest : Room := { frames := 3, cells := 0, slots := 0, locals := 68 }
theorem dv_X10_longest : yX10_longest.cls = RX10 ∧ yX10_longest.cls ≠ "java/lang/invoke/MethodHandle" ∧ yX10_longest.cls ≠ "java/lang/invoke/VarHandle" ∧ (parseMethodDescriptor yX10_longest.desc).map (fun d => d.parameters.length) = some 1 := by decide +kernel
noncomputable def f_X10_longest_L27 (N : Nat) (i_this_gates : Int32) (i_this_paths : Int32) (k_pathGates : (Nat → Int32)) (k_now : (Nat → Int32)) (r_2 : Int32) (j53_1 : Option (Int32)) : Nat → Int32 → Option (Int32)
  | 0, _ => none
  | n_27 + 1, x3_3 =>
    (if i_this_paths ≤ x3_3 then (j53_1) else (obd1 (f_X10_lengthOf N (0 : Int32) x3_3 i_this_gates k_pathGates k_now) fun (r_4 : Int32) => (if r_4 = r_2 then (some (x3_3)) else (bnd (x3_3 + (1 : Int32)) fun (x3_5 : Int32) => f_X10_longest_L27 N i_this_gates i_this_paths k_pathGates k_now r_2 j53_1 n_27 x3_5))))
noncomputable def f_X10_longest (N : Nat) (y1 : Int32) (i_this_gates : Int32) (i_this_paths : Int32) (k_pathGates : (Nat → Int32)) (k_now : (Nat → Int32)) : Option (Int32) :=
  obd1 (f_X10_in N (y1.toInt64) (0 : Int64) (1 : Int64)) fun (r_1 : Int32) => (if r_1 = (0 : Int32) then (some ((-2 : Int32))) else (obd1 (f_X10_greatest N (0 : Int32) i_this_gates i_this_paths k_pathGates k_now) fun (r_2 : Int32) => (if y1 = (0 : Int32) then (some (r_2)) else (bnd (α := Option (Int32)) (some ((-9 : Int32))) fun (j53_1 : Option (Int32)) => f_X10_longest_L27 N i_this_gates i_this_paths k_pathGates k_now r_2 j53_1 N ((0 : Int32))))))
set_option maxHeartbeats 4000000 in
set_option maxRecDepth 100000 in
theorem c_X10_longest (l : Launch) (D : va_G) (cI cJ cZ cS : ClassId) (sz N : Nat) (a_this a_pathGates a_now a_one a_other a_next a_readOne a_readOther a_readNext a_text a_pathInput a_before a_after a_values a_taken a_waves a_row a_seenPair a_seenTime a_seenLate a_isKept a_kept : Nat) (i_this_inputs : Int32) (i_this_gates : Int32) (i_this_readInputs : Int32) (i_this_readGates : Int32) (i_this_length : Int32) (i_this_paths : Int32) (i_this_acts : Int32) (i_this_turn : Int32) (i_this_seen : Int32) (i_this_seed : Int64) (k_pathGates : (Nat → Int32)) (k_now : (Nat → Int32)) (y1 : Int32) (rr : Int32) (hf : f_X10_longest N y1 i_this_gates i_this_paths k_pathGates k_now = some (rr)) : MetIr l yX10_longest wsX10_longest rmX10_longest D (tyA cI cJ cZ cS) [(a_this, .inr (10, [.int i_this_inputs, .int i_this_gates, .ref a_now, .ref a_one, .ref a_other, .ref a_next, .int i_this_readInputs, .int i_this_readGates, .ref a_readOne, .ref a_readOther, .ref a_readNext, .ref a_text, .int i_this_length, .int i_this_paths, .ref a_pathInput, .ref a_pathGates, .ref a_before, .ref a_after, .ref a_values, .ref a_taken, .ref a_waves, .int i_this_acts, .int i_this_turn, .ref a_row, .int i_this_seen, .ref a_seenPair, .ref a_seenTime, .ref a_seenLate, .long i_this_seed, .ref a_isKept, .ref a_kept])), (a_pathGates, .inl (cI, 64, .inl k_pathGates)), (a_now, .inl (cI, 32, .inl k_now))] sz [.ref a_this, .int y1] rr := by
  refine entIr (cc := cX10_longest) (maxL := 4) (own := RX10) (by decide) rfl rfl (Nat.le_of_ble_eq_true rfl) ?_
  intro p e s m args below meth c A ls Q S hr hw hl hQ
  have hx := S.1.1
  have hb := S.1.2.1
  have hts := S.1.2.2.2.2
  have hl : lv_has ls 4 [(0, .ref a_this), (1, .int y1)] := hl
  have hinX10 : ∀ w ∈ u_ws RX10 TX10 31, w ∈ wsX10_longest := (fun _ h => List.mem_cons_of_mem _ (List.mem_append_right _ h))
  have F124 : FLk s args wsX10_longest RX10 124 RX10 TX10 31 10 13 := ⟨hinX10, rfl, by decide, hts (.fieldLink RX10 124 "SlowPathsModel" "paths" "I") (List.mem_of_getElem? (i := 1) rfl)⟩
  have h := hf
  rw [f_X10_longest] at h
  refine lv_iload_n hx hb dX10_longest_0 rfl (lv_at hl 1 rfl) ?_
  refine lv_i2l hx hb dX10_longest_1 rfl ?_
  refine lv_lconst (v := (0 : Int64)) hx hb dX10_longest_2 (by decide) ?_
  refine lv_lconst (v := (1 : Int64)) hx hb dX10_longest_3 (by decide) ?_
  obtain ⟨r_1, e4_1, h⟩ := obd1_el h
  refine zr_SI (As := [.long (y1.toInt64), .long (0 : Int64), .long (1 : Int64)]) (rest := []) (q0 := 0) (ci := 0) (fs := []) (qc := (RX0, TX0, 4)) S hw (c_X10_in l D cI cJ cZ cS s.heap.size N (y1.toInt64) (0 : Int64) (1 : Int64) r_1 e4_1) (va_cwS 3 hts gX10_longest_X10_in rfl rfl rfl ds_X10_in ⟨Nat.le_of_ble_eq_true rfl, Nat.le_of_ble_eq_true rfl⟩) [] rfl rfl rfl hl.1 rfl (Nat.le_of_ble_eq_true rfl) dX10_longest_4 ⟨Nat.zero_le _, Nat.zero_le _⟩ ?_
  refine lv_if_ne (tgt := 13) hx hb dX10_longest_7 (by decide) (fun hc => ?_) (fun hc => ?_)
  · replace h := if_f hc h
    refine lv_aload_n hx hb dX10_longest_13 rfl (lv_at hl 0 rfl) ?_
    refine lv_iconst (v := (0 : Int32)) hx hb dX10_longest_14 (by decide) ?_
    obtain ⟨r_2, e15_1, h⟩ := obd1_el h
    refine zr_VI (As := [.int (0 : Int32)]) (rest := []) (q0 := 0) S hw (c_X10_greatest l D cI cJ cZ cS s.heap.size N a_this a_pathGates a_now a_one a_other a_next a_readOne a_readOther a_readNext a_text a_pathInput a_before a_after a_values a_taken a_waves a_row a_seenPair a_seenTime a_seenLate a_isKept a_kept i_this_inputs i_this_gates i_this_readInputs i_this_readGates i_this_length i_this_paths i_this_acts i_this_turn i_this_seen i_this_seed k_pathGates k_now (0 : Int32) r_2 e15_1) (cwV 1 hts gX10_longest_X10_greatest rfl rfl rfl dv_X10_greatest ⟨Nat.le_of_ble_eq_true rfl, Nat.le_of_ble_eq_true rfl⟩) [0, 1, 2] rfl rfl rfl rfl rfl rfl hl.1 rfl (Nat.le_of_ble_eq_true rfl) dX10_longest_15 ⟨Nat.zero_le _, Nat.zero_le _⟩ ?_
    refine lv_istore_n (lv' := [(2, .int r_2), (0, .ref a_this), (1, .int y1)]) hx hb dX10_longest_18 rfl hl (by decide) rfl (fun ls hl => ?_)
    refine lv_iload_n hx hb dX10_longest_19 rfl (lv_at hl 2 rfl) ?_
    refine lv_if_ne (tgt := 25) hx hb dX10_longest_20 (by decide) (fun hc => ?_) (fun hc => ?_)
    · replace h := if_f hc h
      refine lv_iconst (v := (0 : Int32)) hx hb dX10_longest_25 (by decide) ?_
      refine lv_istore_n (lv' := [(3, .int (0 : Int32)), (2, .int r_2), (0, .ref a_this), (1, .int y1)]) hx hb dX10_longest_26 rfl hl (by decide) rfl (fun ls hl => ?_)
      obtain ⟨j53_1, ej53_1, h⟩ := bnd_ex h
      have hj53_1 : ∀ (ls : Array Slot), j53_1 = some (rr) → lv_has ls 4 [] → W p l e rmX10_longest s m args below meth c s.heap [] 0 0 Q (F0 m 53 ls []) := by
        intro ls h hl
        replace h := ap0 ej53_1 h
        refine lv_bipush (v := (-9 : Int32)) hx hb dX10_longest_53 (by decide) ?_
        cases h
        exact z_iretr S hQ hr dX10_longest_55
      have hL27_1 : ∀ (nf : Nat) (x3_3 : Int32) (ls : Array Slot), f_X10_longest_L27 N i_this_gates i_this_paths k_pathGates k_now r_2 j53_1 nf x3_3 = some (rr) → lv_has ls 4 [(0, .ref a_this), (2, .int r_2), (3, .int x3_3)] → W p l e rmX10_longest s m args below meth c s.heap [] 0 0 Q (F0 m 27 ls []) := by
        intro nf
        induction nf with
        | zero =>
          intro x3_3 ls h
          rw [f_X10_longest_L27] at h
          cases h
        | succ n_27 ih_27 =>
          intro x3_3 ls h hl
          rw [f_X10_longest_L27] at h
          refine lv_iload_n hx hb dX10_longest_27 rfl (lv_at hl 2 rfl) ?_
          refine lv_aload_n hx hb dX10_longest_28 rfl (lv_at hl 0 rfl) ?_
          refine z_get S hw F124 0 rfl rfl dX10_longest_29 ?_
          refine lv_icmp_ge (tgt := 53) hx hb dX10_longest_32 (by decide) (fun hc => ?_) (fun hc => ?_)
          · replace h := if_t hc h
            exact hj53_1  ls h (lv_sub hl [] rfl)
          · replace h := if_f hc h
            refine lv_aload_n hx hb dX10_longest_35 rfl (lv_at hl 0 rfl) ?_
            refine lv_iconst (v := (0 : Int32)) hx hb dX10_longest_36 (by decide) ?_
            refine lv_iload_n hx hb dX10_longest_37 rfl (lv_at hl 2 rfl) ?_
            obtain ⟨r_4, e38_1, h⟩ := obd1_el h
            refine zr_VI (As := [.int (0 : Int32), .int x3_3]) (rest := []) (q0 := 0) S hw (c_X10_lengthOf l D cI cJ cZ cS s.heap.size N a_this a_pathGates a_now a_one a_other a_next a_readOne a_readOther a_readNext a_text a_pathInput a_before a_after a_values a_taken a_waves a_row a_seenPair a_seenTime a_seenLate a_isKept a_kept i_this_inputs i_this_gates i_this_readInputs i_this_readGates i_this_length i_this_paths i_this_acts i_this_turn i_this_seen i_this_seed k_pathGates k_now (0 : Int32) x3_3 r_4 e38_1) (cwV 2 hts gX10_longest_X10_lengthOf rfl rfl rfl dv_X10_lengthOf ⟨Nat.le_of_ble_eq_true rfl, Nat.le_of_ble_eq_true rfl⟩) [0, 1, 2] rfl rfl rfl rfl rfl rfl hl.1 rfl (Nat.le_of_ble_eq_true rfl) dX10_longest_38 ⟨Nat.zero_le _, Nat.zero_le _⟩ ?_
            refine lv_iload_n hx hb dX10_longest_41 rfl (lv_at hl 1 rfl) ?_
            refine lv_icmp_ne (tgt := 47) hx hb dX10_longest_42 (by decide) (fun hc => ?_) (fun hc => ?_)
            · replace h := if_f hc h
              obtain ⟨x3_5, ex3_5, h⟩ := bnd_ex h
              refine lv_iinc (v := x3_5) (lv' := [(3, .int x3_5), (0, .ref a_this), (2, .int r_2)]) hx hb dX10_longest_47 hl (k := 2) rfl (by rw [ex3_5]; rfl) (by decide) rfl (fun ls hl => ?_)
              refine lv_goto (tgt := 27) hx hb dX10_longest_50 (by decide) ?_
              exact ih_27 x3_5 ls h (lv_sub hl [1, 2, 0] rfl)
            · replace h := if_t hc h
              refine lv_iload_n hx hb dX10_longest_45 rfl (lv_at hl 2 rfl) ?_
              cases h
              exact z_iretr S hQ hr dX10_longest_46
      exact hL27_1 N ((0 : Int32)) ls h (lv_sub hl [2, 1, 0] rfl)
    · replace h := if_t hc h
      refine lv_iload_n hx hb dX10_longest_23 rfl (lv_at hl 0 rfl) ?_
      cases h
      exact z_iretr S hQ hr dX10_longest_24
  · replace h := if_t hc h
    refine lv_bipush (v := (-2 : Int32)) hx hb dX10_longest_10 (by decide) ?_
    cases h
    exact z_iretr S hQ hr dX10_longest_12
abbrev rmX10_makes : Room := { frames := 0, cells := 0, slots := 0, locals := 0 }
theorem ds_X10_makes : yX10_makes.cls ≠ "java/lang/invoke/MethodHandle" ∧ yX10_makes.cls ≠ "java/lang/invoke/VarHandle" ∧ (parseMethodDescriptor yX10_makes.desc).map (fun d => d.parameters.length) = some 3 := by decide +kernel
noncomputable def f_X10_makes (N : Nat) (y0 : Int32) (y1 : Int32) (y2 : Int32)  : Option (Int32) :=
  (if y0 = (0 : Int32) then (some ((y1 &&& y2))) else (if y0 = (1 : Int32) then (some ((y1 ||| y2))) else (if y0 = (2 : Int32) then (some (((1 : Int32) - (y1 &&& y2)))) else (if y0 = (3 : Int32) then (some (((1 : Int32) - (y1 ||| y2)))) else some (((1 : Int32) - y1))))))
set_option maxHeartbeats 4000000 in
set_option maxRecDepth 100000 in
theorem c_X10_makes (l : Launch) (D : va_G) (cI cJ cZ cS : ClassId) (sz N : Nat)   (y0 : Int32) (y1 : Int32) (y2 : Int32) (rr : Int32) (hf : f_X10_makes N y0 y1 y2 = some (rr)) : MetIr l yX10_makes wsX10_makes rmX10_makes D (tyA cI cJ cZ cS) [] sz [.int y0, .int y1, .int y2] rr := by
  refine entIr (cc := cX10_makes) (maxL := 3) (own := RX10) (by decide) rfl rfl (Nat.le_of_ble_eq_true rfl) ?_
  intro p e s m args below meth c A ls Q S hr hw hl hQ
  have hx := S.1.1
  have hb := S.1.2.1
  have hts := S.1.2.2.2.2
  have hl : lv_has ls 3 [(0, .int y0), (1, .int y1), (2, .int y2)] := hl
  have h := hf
  rw [f_X10_makes] at h
  refine lv_iload_n hx hb dX10_makes_0 rfl (lv_at hl 0 rfl) ?_
  by_cases hs0 : y0 = (0 : Int32)
  · replace h := if_t hs0 h
    refine lv_tableIn (off := 31) (tgt := 32) hx hb dX10_makes_1 (by rw [hs0]; decide) (by rw [hs0]; decide) (by rw [hs0]; rfl) (by decide) ?_
    refine lv_iload_n hx hb dX10_makes_32 rfl (lv_at hl 1 rfl) ?_
    refine lv_iload_n hx hb dX10_makes_33 rfl (lv_at hl 2 rfl) ?_
    refine lv_iand hx hb dX10_makes_34 ?_
    cases h
    exact z_iretr S hQ hr dX10_makes_35
  replace h := if_f hs0 h
  by_cases hs1 : y0 = (1 : Int32)
  · replace h := if_t hs1 h
    refine lv_tableIn (off := 35) (tgt := 36) hx hb dX10_makes_1 (by rw [hs1]; decide) (by rw [hs1]; decide) (by rw [hs1]; rfl) (by decide) ?_
    refine lv_iload_n hx hb dX10_makes_36 rfl (lv_at hl 1 rfl) ?_
    refine lv_iload_n hx hb dX10_makes_37 rfl (lv_at hl 2 rfl) ?_
    refine lv_ior hx hb dX10_makes_38 ?_
    cases h
    exact z_iretr S hQ hr dX10_makes_39
  replace h := if_f hs1 h
  by_cases hs2 : y0 = (2 : Int32)
  · replace h := if_t hs2 h
    refine lv_tableIn (off := 39) (tgt := 40) hx hb dX10_makes_1 (by rw [hs2]; decide) (by rw [hs2]; decide) (by rw [hs2]; rfl) (by decide) ?_
    refine lv_iconst (v := (1 : Int32)) hx hb dX10_makes_40 (by decide) ?_
    refine lv_iload_n hx hb dX10_makes_41 rfl (lv_at hl 1 rfl) ?_
    refine lv_iload_n hx hb dX10_makes_42 rfl (lv_at hl 2 rfl) ?_
    refine lv_iand hx hb dX10_makes_43 ?_
    refine lv_isub hx hb dX10_makes_44 ?_
    cases h
    exact z_iretr S hQ hr dX10_makes_45
  replace h := if_f hs2 h
  by_cases hs3 : y0 = (3 : Int32)
  · replace h := if_t hs3 h
    refine lv_tableIn (off := 45) (tgt := 46) hx hb dX10_makes_1 (by rw [hs3]; decide) (by rw [hs3]; decide) (by rw [hs3]; rfl) (by decide) ?_
    refine lv_iconst (v := (1 : Int32)) hx hb dX10_makes_46 (by decide) ?_
    refine lv_iload_n hx hb dX10_makes_47 rfl (lv_at hl 1 rfl) ?_
    refine lv_iload_n hx hb dX10_makes_48 rfl (lv_at hl 2 rfl) ?_
    refine lv_ior hx hb dX10_makes_49 ?_
    refine lv_isub hx hb dX10_makes_50 ?_
    cases h
    exact z_iretr S hQ hr dX10_makes_51
  replace h := if_f hs3 h
  refine lv_tableOut (tgt := 52) hx hb dX10_makes_1 (tb_out (fun j h1 h2 => ?_)) (by decide) ?_
  · rcases (show j = 0 ∨ j = 1 ∨ j = 2 ∨ j = 3 by omega) with rfl | rfl | rfl | rfl
    · exact fun he => hs0 (he.trans (by decide))
    · exact fun he => hs1 (he.trans (by decide))
    · exact fun he => hs2 (he.trans (by decide))
    · exact fun he => hs3 (he.trans (by decide))
  refine lv_iconst (v := (1 : Int32)) hx hb dX10_makes_52 (by decide) ?_
  refine lv_iload_n hx hb dX10_makes_53 rfl (lv_at hl 1 rfl) ?_
  refine lv_isub hx hb dX10_makes_54 ?_
  cases h
  exact z_iretr S hQ hr dX10_makes_55
abbrev rmX10_swapped : Room := { frames := 0, cells := 0, slots := 0, locals := 0 }
theorem ds_X10_swapped : yX10_swapped.cls ≠ "java/lang/invoke/MethodHandle" ∧ yX10_swapped.cls ≠ "java/lang/invoke/VarHandle" ∧ (parseMethodDescriptor yX10_swapped.desc).map (fun d => d.parameters.length) = some 1 := by decide +kernel
noncomputable def f_X10_swapped (N : Nat) (y0 : Int32)  : Option (Int32) :=
  (if (2 : Int32) ≤ y0 then (some (((5 : Int32) - y0))) else (some (((1 : Int32) - y0))))
set_option maxHeartbeats 4000000 in
set_option maxRecDepth 100000 in
theorem c_X10_swapped (l : Launch) (D : va_G) (cI cJ cZ cS : ClassId) (sz N : Nat)   (y0 : Int32) (rr : Int32) (hf : f_X10_swapped N y0 = some (rr)) : MetIr l yX10_swapped wsX10_swapped rmX10_swapped D (tyA cI cJ cZ cS) [] sz [.int y0] rr := by
  refine entIr (cc := cX10_swapped) (maxL := 1) (own := RX10) (by decide) rfl rfl (Nat.le_of_ble_eq_true rfl) ?_
  intro p e s m args below meth c A ls Q S hr hw hl hQ
  have hx := S.1.1
  have hb := S.1.2.1
  have hts := S.1.2.2.2.2
  have hl : lv_has ls 1 [(0, .int y0)] := hl
  have h := hf
  rw [f_X10_swapped] at h
  refine lv_iload_n hx hb dX10_swapped_0 rfl (lv_at hl 0 rfl) ?_
  refine lv_iconst (v := (2 : Int32)) hx hb dX10_swapped_1 (by decide) ?_
  refine lv_icmp_ge (tgt := 11) hx hb dX10_swapped_2 (by decide) (fun hc => ?_) (fun hc => ?_)
  · replace h := if_t hc h
    refine lv_iconst (v := (5 : Int32)) hx hb dX10_swapped_11 (by decide) ?_
    refine lv_iload_n hx hb dX10_swapped_12 rfl (lv_at hl 0 rfl) ?_
    refine lv_isub hx hb dX10_swapped_13 ?_
    cases h
    exact z_iretr S hQ hr dX10_swapped_14
  · replace h := if_f hc h
    refine lv_iconst (v := (1 : Int32)) hx hb dX10_swapped_5 (by decide) ?_
    refine lv_iload_n hx hb dX10_swapped_6 rfl (lv_at hl 0 rfl) ?_
    refine lv_isub hx hb dX10_swapped_7 ?_
    refine lv_goto (tgt := 14) hx hb dX10_swapped_8 (by decide) ?_
    cases h
    exact z_iretr S hQ hr dX10_swapped_14
abbrev rmX10_valueOf : Room := { frames := 1, cells := 0, slots := 0, locals := 20 }
theorem ds_X10_valueOf : yX10_valueOf.cls ≠ "java/lang/invoke/MethodHandle" ∧ yX10_valueOf.cls ≠ "java/lang/invoke/VarHandle" ∧ (parseMethodDescriptor yX10_valueOf.desc).map (fun d => d.parameters.length) = some 3 := by decide +kernel
noncomputable def f_X10_valueOf (N : Nat) (y0 : Int32) (y1 : Int32) (y2 : Int32)  : Option (Int32) :=
  (if y0 = (4 : Int32) then (obd1 (f_X10_swapped N y1) fun (r_5 : Int32) => some (r_5)) else (bnd (fun (x3_1 : Int32) => ((if (2 : Int32) ≤ y0 then (obd1 (f_X10_swapped N x3_1) fun (r_2 : Int32) => some (r_2)) else (some (x3_1))))) fun (j106_1 : Int32 → Option (Int32)) => bnd (α := Option (Int32)) (bnd (fun (t_3 : Int32) => (j106_1 t_3)) fun (j60_1 : Int32 → Option (Int32)) => bnd (α := Option (Int32)) (j60_1 ((0 : Int32))) fun (j27_1 : Option (Int32)) => (if y1 = (0 : Int32) then (j27_1) else ((if y2 = (0 : Int32) then (j27_1) else (bnd (α := Option (Int32)) (bnd (α := Option (Int32)) (j60_1 ((2 : Int32))) fun (j59_1 : Option (Int32)) => (if y1 = (2 : Int32) then (j59_1) else ((if y2 = (2 : Int32) then (j59_1) else (j60_1 ((3 : Int32))))))) fun (j45_1 : Option (Int32)) => (if y1 = (1 : Int32) then ((if y2 = (1 : Int32) then (j60_1 ((1 : Int32))) else (j45_1))) else (j45_1))))))) fun (j19_1 : Option (Int32)) => (if y0 = (0 : Int32) then (j19_1) else ((if y0 = (2 : Int32) then (j19_1) else (bnd (fun (t_4 : Int32) => (j106_1 t_4)) fun (j105_1 : Int32 → Option (Int32)) => bnd (α := Option (Int32)) (j105_1 ((1 : Int32))) fun (j74_1 : Option (Int32)) => (if y1 = (1 : Int32) then (j74_1) else ((if y2 = (1 : Int32) then (j74_1) else (bnd (α := Option (Int32)) (bnd (α := Option (Int32)) (j105_1 ((3 : Int32))) fun (j104_1 : Option (Int32)) => (if y1 = (3 : Int32) then (j104_1) else ((if y2 = (3 : Int32) then (j104_1) else (j105_1 ((2 : Int32))))))) fun (j90_1 : Option (Int32)) => (if y1 = (0 : Int32) then ((if y2 = (0 : Int32) then (j105_1 ((0 : Int32))) else (j90_1))) else (j90_1))))))))))))
set_option maxHeartbeats 4000000 in
set_option maxRecDepth 100000 in
theorem c_X10_valueOf (l : Launch) (D : va_G) (cI cJ cZ cS : ClassId) (sz N : Nat)   (y0 : Int32) (y1 : Int32) (y2 : Int32) (rr : Int32) (hf : f_X10_valueOf N y0 y1 y2 = some (rr)) : MetIr l yX10_valueOf wsX10_valueOf rmX10_valueOf D (tyA cI cJ cZ cS) [] sz [.int y0, .int y1, .int y2] rr := by
  refine entIr (cc := cX10_valueOf) (maxL := 4) (own := RX10) (by decide) rfl rfl (Nat.le_of_ble_eq_true rfl) ?_
  intro p e s m args below meth c A ls Q S hr hw hl hQ
  have hx := S.1.1
  have hb := S.1.2.1
  have hts := S.1.2.2.2.2
  have hl : lv_has ls 4 [(0, .int y0), (1, .int y1), (2, .int y2)] := hl
  have h := hf
  rw [f_X10_valueOf] at h
  refine lv_iload_n hx hb dX10_valueOf_0 rfl (lv_at hl 0 rfl) ?_
  refine lv_iconst (v := (4 : Int32)) hx hb dX10_valueOf_1 (by decide) ?_
  refine lv_icmp_ne (tgt := 10) hx hb dX10_valueOf_2 (by decide) (fun hc => ?_) (fun hc => ?_)
  · replace h := if_f hc h
    refine lv_iload_n hx hb dX10_valueOf_10 rfl (lv_at hl 0 rfl) ?_
    obtain ⟨j106_1, ej106_1, h⟩ := bnd_ex h
    have hj106_1 : ∀ (x3_1 : Int32) (ls : Array Slot), j106_1 x3_1 = some (rr) → lv_has ls 4 [(0, .int y0), (3, .int x3_1)] → W p l e rmX10_valueOf s m args below meth c s.heap [] 0 0 Q (F0 m 106 ls []) := by
      intro x3_1 ls h hl
      replace h := ap1 ej106_1 h
      refine lv_iload_n hx hb dX10_valueOf_106 rfl (lv_at hl 0 rfl) ?_
      refine lv_iconst (v := (2 : Int32)) hx hb dX10_valueOf_107 (by decide) ?_
      refine lv_icmp_ge (tgt := 115) hx hb dX10_valueOf_108 (by decide) (fun hc => ?_) (fun hc => ?_)
      · replace h := if_t hc h
        refine lv_iload_n hx hb dX10_valueOf_115 rfl (lv_at hl 1 rfl) ?_
        obtain ⟨r_2, e116_1, h⟩ := obd1_el h
        refine zr_SI (As := [.int x3_1]) (rest := []) (q0 := 0) (ci := 0) (fs := []) (qc := (RX0, TX0, 4)) S hw (c_X10_swapped l D cI cJ cZ cS s.heap.size N x3_1 r_2 e116_1) (va_cwS 1 hts gX10_valueOf_X10_swapped rfl rfl rfl ds_X10_swapped ⟨Nat.le_of_ble_eq_true rfl, Nat.le_of_ble_eq_true rfl⟩) [] rfl rfl rfl hl.1 rfl (Nat.le_of_ble_eq_true rfl) dX10_valueOf_116 ⟨Nat.zero_le _, Nat.zero_le _⟩ ?_
        cases h
        exact z_iretr S hQ hr dX10_valueOf_119
      · replace h := if_f hc h
        refine lv_iload_n hx hb dX10_valueOf_111 rfl (lv_at hl 1 rfl) ?_
        refine lv_goto (tgt := 119) hx hb dX10_valueOf_112 (by decide) ?_
        cases h
        exact z_iretr S hQ hr dX10_valueOf_119
    obtain ⟨j19_1, ej19_1, h⟩ := bnd_ex h
    have hj19_1 : ∀ (ls : Array Slot), j19_1 = some (rr) → lv_has ls 4 [(0, .int y0), (1, .int y1), (2, .int y2)] → W p l e rmX10_valueOf s m args below meth c s.heap [] 0 0 Q (F0 m 19 ls []) := by
      intro ls h hl
      replace h := ap0 ej19_1 h
      refine lv_iload_n hx hb dX10_valueOf_19 rfl (lv_at hl 1 rfl) ?_
      obtain ⟨j60_1, ej60_1, h⟩ := bnd_ex h
      have hj60_1 : ∀ (t_3 : Int32) (ls : Array Slot), j60_1 t_3 = some (rr) → lv_has ls 4 [(0, .int y0)] → W p l e rmX10_valueOf s m args below meth c s.heap [] 0 0 Q (F0 m 60 ls [.int t_3]) := by
        intro t_3 ls h hl
        replace h := ap1 ej60_1 h
        refine lv_istore_n (lv' := [(3, .int t_3), (0, .int y0)]) hx hb dX10_valueOf_60 rfl hl (by decide) rfl (fun ls hl => ?_)
        refine lv_goto (tgt := 106) hx hb dX10_valueOf_61 (by decide) ?_
        exact hj106_1 t_3 ls h (lv_sub hl [1, 0] rfl)
      obtain ⟨j27_1, ej27_1, h⟩ := bnd_ex h
      have hj27_1 : ∀ (ls : Array Slot), j27_1 = some (rr) → lv_has ls 4 [(0, .int y0)] → W p l e rmX10_valueOf s m args below meth c s.heap [] 0 0 Q (F0 m 27 ls []) := by
        intro ls h hl
        replace h := ap0 ej27_1 h
        refine lv_iconst (v := (0 : Int32)) hx hb dX10_valueOf_27 (by decide) ?_
        refine lv_goto (tgt := 60) hx hb dX10_valueOf_28 (by decide) ?_
        exact hj60_1 ((0 : Int32)) ls h hl
      refine lv_if_eq (tgt := 27) hx hb dX10_valueOf_20 (by decide) (fun hc => ?_) (fun hc => ?_)
      · replace h := if_t hc h
        exact hj27_1  ls h (lv_sub hl [0] rfl)
      · replace h := if_f hc h
        refine lv_iload_n hx hb dX10_valueOf_23 rfl (lv_at hl 2 rfl) ?_
        refine lv_if_ne (tgt := 31) hx hb dX10_valueOf_24 (by decide) (fun hc => ?_) (fun hc => ?_)
        · replace h := if_f hc h
          refine lv_iload_n hx hb dX10_valueOf_31 rfl (lv_at hl 1 rfl) ?_
          refine lv_iconst (v := (1 : Int32)) hx hb dX10_valueOf_32 (by decide) ?_
          obtain ⟨j45_1, ej45_1, h⟩ := bnd_ex h
          have hj45_1 : ∀ (ls : Array Slot), j45_1 = some (rr) → lv_has ls 4 [(0, .int y0), (1, .int y1), (2, .int y2)] → W p l e rmX10_valueOf s m args below meth c s.heap [] 0 0 Q (F0 m 45 ls []) := by
            intro ls h hl
            replace h := ap0 ej45_1 h
            refine lv_iload_n hx hb dX10_valueOf_45 rfl (lv_at hl 1 rfl) ?_
            refine lv_iconst (v := (2 : Int32)) hx hb dX10_valueOf_46 (by decide) ?_
            obtain ⟨j59_1, ej59_1, h⟩ := bnd_ex h
            have hj59_1 : ∀ (ls : Array Slot), j59_1 = some (rr) → lv_has ls 4 [(0, .int y0)] → W p l e rmX10_valueOf s m args below meth c s.heap [] 0 0 Q (F0 m 59 ls []) := by
              intro ls h hl
              replace h := ap0 ej59_1 h
              refine lv_iconst (v := (2 : Int32)) hx hb dX10_valueOf_59 (by decide) ?_
              exact hj60_1 ((2 : Int32)) ls h hl
            refine lv_icmp_eq (tgt := 59) hx hb dX10_valueOf_47 (by decide) (fun hc => ?_) (fun hc => ?_)
            · replace h := if_t hc h
              exact hj59_1  ls h (lv_sub hl [0] rfl)
            · replace h := if_f hc h
              refine lv_iload_n hx hb dX10_valueOf_50 rfl (lv_at hl 2 rfl) ?_
              refine lv_iconst (v := (2 : Int32)) hx hb dX10_valueOf_51 (by decide) ?_
              refine lv_icmp_eq (tgt := 59) hx hb dX10_valueOf_52 (by decide) (fun hc => ?_) (fun hc => ?_)
              · replace h := if_t hc h
                exact hj59_1  ls h (lv_sub hl [0] rfl)
              · replace h := if_f hc h
                refine lv_iconst (v := (3 : Int32)) hx hb dX10_valueOf_55 (by decide) ?_
                refine lv_goto (tgt := 60) hx hb dX10_valueOf_56 (by decide) ?_
                exact hj60_1 ((3 : Int32)) ls h (lv_sub hl [0] rfl)
          refine lv_icmp_ne (tgt := 45) hx hb dX10_valueOf_33 (by decide) (fun hc => ?_) (fun hc => ?_)
          · replace h := if_f hc h
            exact hj45_1  ls h hl
          · replace h := if_t hc h
            refine lv_iload_n hx hb dX10_valueOf_36 rfl (lv_at hl 2 rfl) ?_
            refine lv_iconst (v := (1 : Int32)) hx hb dX10_valueOf_37 (by decide) ?_
            refine lv_icmp_ne (tgt := 45) hx hb dX10_valueOf_38 (by decide) (fun hc => ?_) (fun hc => ?_)
            · replace h := if_f hc h
              exact hj45_1  ls h hl
            · replace h := if_t hc h
              refine lv_iconst (v := (1 : Int32)) hx hb dX10_valueOf_41 (by decide) ?_
              refine lv_goto (tgt := 60) hx hb dX10_valueOf_42 (by decide) ?_
              exact hj60_1 ((1 : Int32)) ls h (lv_sub hl [0] rfl)
        · replace h := if_t hc h
          exact hj27_1  ls h (lv_sub hl [0] rfl)
    refine lv_if_eq (tgt := 19) hx hb dX10_valueOf_11 (by decide) (fun hc => ?_) (fun hc => ?_)
    · replace h := if_t hc h
      exact hj19_1  ls h hl
    · replace h := if_f hc h
      refine lv_iload_n hx hb dX10_valueOf_14 rfl (lv_at hl 0 rfl) ?_
      refine lv_iconst (v := (2 : Int32)) hx hb dX10_valueOf_15 (by decide) ?_
      refine lv_icmp_ne (tgt := 64) hx hb dX10_valueOf_16 (by decide) (fun hc => ?_) (fun hc => ?_)
      · replace h := if_f hc h
        refine lv_iload_n hx hb dX10_valueOf_64 rfl (lv_at hl 1 rfl) ?_
        refine lv_iconst (v := (1 : Int32)) hx hb dX10_valueOf_65 (by decide) ?_
        obtain ⟨j105_1, ej105_1, h⟩ := bnd_ex h
        have hj105_1 : ∀ (t_4 : Int32) (ls : Array Slot), j105_1 t_4 = some (rr) → lv_has ls 4 [(0, .int y0)] → W p l e rmX10_valueOf s m args below meth c s.heap [] 0 0 Q (F0 m 105 ls [.int t_4]) := by
          intro t_4 ls h hl
          replace h := ap1 ej105_1 h
          refine lv_istore_n (lv' := [(3, .int t_4), (0, .int y0)]) hx hb dX10_valueOf_105 rfl hl (by decide) rfl (fun ls hl => ?_)
          exact hj106_1 t_4 ls h (lv_sub hl [1, 0] rfl)
        obtain ⟨j74_1, ej74_1, h⟩ := bnd_ex h
        have hj74_1 : ∀ (ls : Array Slot), j74_1 = some (rr) → lv_has ls 4 [(0, .int y0)] → W p l e rmX10_valueOf s m args below meth c s.heap [] 0 0 Q (F0 m 74 ls []) := by
          intro ls h hl
          replace h := ap0 ej74_1 h
          refine lv_iconst (v := (1 : Int32)) hx hb dX10_valueOf_74 (by decide) ?_
          refine lv_goto (tgt := 105) hx hb dX10_valueOf_75 (by decide) ?_
          exact hj105_1 ((1 : Int32)) ls h hl
        refine lv_icmp_eq (tgt := 74) hx hb dX10_valueOf_66 (by decide) (fun hc => ?_) (fun hc => ?_)
        · replace h := if_t hc h
          exact hj74_1  ls h (lv_sub hl [0] rfl)
        · replace h := if_f hc h
          refine lv_iload_n hx hb dX10_valueOf_69 rfl (lv_at hl 2 rfl) ?_
          refine lv_iconst (v := (1 : Int32)) hx hb dX10_valueOf_70 (by decide) ?_
          refine lv_icmp_ne (tgt := 78) hx hb dX10_valueOf_71 (by decide) (fun hc => ?_) (fun hc => ?_)
          · replace h := if_f hc h
            refine lv_iload_n hx hb dX10_valueOf_78 rfl (lv_at hl 1 rfl) ?_
            obtain ⟨j90_1, ej90_1, h⟩ := bnd_ex h
            have hj90_1 : ∀ (ls : Array Slot), j90_1 = some (rr) → lv_has ls 4 [(0, .int y0), (1, .int y1), (2, .int y2)] → W p l e rmX10_valueOf s m args below meth c s.heap [] 0 0 Q (F0 m 90 ls []) := by
              intro ls h hl
              replace h := ap0 ej90_1 h
              refine lv_iload_n hx hb dX10_valueOf_90 rfl (lv_at hl 1 rfl) ?_
              refine lv_iconst (v := (3 : Int32)) hx hb dX10_valueOf_91 (by decide) ?_
              obtain ⟨j104_1, ej104_1, h⟩ := bnd_ex h
              have hj104_1 : ∀ (ls : Array Slot), j104_1 = some (rr) → lv_has ls 4 [(0, .int y0)] → W p l e rmX10_valueOf s m args below meth c s.heap [] 0 0 Q (F0 m 104 ls []) := by
                intro ls h hl
                replace h := ap0 ej104_1 h
                refine lv_iconst (v := (3 : Int32)) hx hb dX10_valueOf_104 (by decide) ?_
                exact hj105_1 ((3 : Int32)) ls h hl
              refine lv_icmp_eq (tgt := 104) hx hb dX10_valueOf_92 (by decide) (fun hc => ?_) (fun hc => ?_)
              · replace h := if_t hc h
                exact hj104_1  ls h (lv_sub hl [0] rfl)
              · replace h := if_f hc h
                refine lv_iload_n hx hb dX10_valueOf_95 rfl (lv_at hl 2 rfl) ?_
                refine lv_iconst (v := (3 : Int32)) hx hb dX10_valueOf_96 (by decide) ?_
                refine lv_icmp_eq (tgt := 104) hx hb dX10_valueOf_97 (by decide) (fun hc => ?_) (fun hc => ?_)
                · replace h := if_t hc h
                  exact hj104_1  ls h (lv_sub hl [0] rfl)
                · replace h := if_f hc h
                  refine lv_iconst (v := (2 : Int32)) hx hb dX10_valueOf_100 (by decide) ?_
                  refine lv_goto (tgt := 105) hx hb dX10_valueOf_101 (by decide) ?_
                  exact hj105_1 ((2 : Int32)) ls h (lv_sub hl [0] rfl)
            refine lv_if_ne (tgt := 90) hx hb dX10_valueOf_79 (by decide) (fun hc => ?_) (fun hc => ?_)
            · replace h := if_f hc h
              exact hj90_1  ls h hl
            · replace h := if_t hc h
              refine lv_iload_n hx hb dX10_valueOf_82 rfl (lv_at hl 2 rfl) ?_
              refine lv_if_ne (tgt := 90) hx hb dX10_valueOf_83 (by decide) (fun hc => ?_) (fun hc => ?_)
              · replace h := if_f hc h
                exact hj90_1  ls h hl
              · replace h := if_t hc h
                refine lv_iconst (v := (0 : Int32)) hx hb dX10_valueOf_86 (by decide) ?_
                refine lv_goto (tgt := 105) hx hb dX10_valueOf_87 (by decide) ?_
                exact hj105_1 ((0 : Int32)) ls h (lv_sub hl [0] rfl)
          · replace h := if_t hc h
            exact hj74_1  ls h (lv_sub hl [0] rfl)
      · replace h := if_t hc h
        exact hj19_1  ls h hl
  · replace h := if_t hc h
    refine lv_iload_n hx hb dX10_valueOf_5 rfl (lv_at hl 1 rfl) ?_
    obtain ⟨r_5, e6_1, h⟩ := obd1_el h
    refine zr_SI (As := [.int y1]) (rest := []) (q0 := 0) (ci := 0) (fs := []) (qc := (RX0, TX0, 4)) S hw (c_X10_swapped l D cI cJ cZ cS s.heap.size N y1 r_5 e6_1) (va_cwS 1 hts gX10_valueOf_X10_swapped rfl rfl rfl ds_X10_swapped ⟨Nat.le_of_ble_eq_true rfl, Nat.le_of_ble_eq_true rfl⟩) [] rfl rfl rfl hl.1 rfl (Nat.le_of_ble_eq_true rfl) dX10_valueOf_6 ⟨Nat.zero_le _, Nat.zero_le _⟩ ?_
    cases h
    exact z_iretr S hQ hr dX10_valueOf_9
