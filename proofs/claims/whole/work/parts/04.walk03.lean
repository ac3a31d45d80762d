abbrev rmX3_isLaunched : Room := { frames := 1, cells := 0, slots := 0, locals := 20 }
theorem dv_X3_isLaunched : yX3_isLaunched.cls = RX3 ∧ yX3_isLaunched.cls ≠ "java/lang/invoke/MethodHandle" ∧ yX3_isLaunched.cls ≠ "java/lang/invoke/VarHandle" ∧ (parseMethodDescriptor yX3_isLaunched.desc).map (fun d => d.parameters.length) = some 3 := by decide +kernel
noncomputable def f_X3_isLaunched (N : Nat) (y2 : Int32) (y3 : Int32) (i_p1_inputs : Int32) (k_captured : (Nat → Int32)) : Option (Int32) :=
  bnd ((y3 >>> ((4 : Int32) &&& 31))) fun (x4_1 : Int32) => bnd ((y3 &&& (15 : Int32))) fun (x5_2 : Int32) => (if y2 = (0 : Int32) then (some ((1 : Int32))) else (if y2 = (1 : Int32) then (obd1 (f_X2_allBits N i_p1_inputs) fun (r_3 : Int32) => (if (x5_2 &&& (-2 : Int32)) = ((x4_1 <<< ((1 : Int32) &&& 31)) &&& r_3) then (some ((1 : Int32))) else (some ((0 : Int32))))) else grd (inb x4_1 16) <| (if (k_captured x4_1.toNatClampNeg) = x5_2 then (some ((1 : Int32))) else (some ((0 : Int32))))))
set_option maxHeartbeats 4000000 in
set_option maxRecDepth 100000 in
theorem c_X3_isLaunched (l : Launch) (D : va_G) (cI cJ cZ cS : ClassId) (sz N : Nat) (a_p1 a_this a_captured a_p1_told a_p1_lefts a_p1_rights a_p1_nexts a_p1_starts a_p1_sizes a_p1_steps a_p1_links a_levels a_sureLinks a_risers a_fallers : Nat) (i_p1_inputs : Int32) (i_p1_gates : Int32) (i_p1_paths : Int32) (i_this_madeFor : Int32) (k_captured : (Nat → Int32)) (y2 : Int32) (y3 : Int32) (rr : Int32) (hf : f_X3_isLaunched N y2 y3 i_p1_inputs k_captured = some (rr)) : MetIr l yX3_isLaunched wsX3_isLaunched rmX3_isLaunched D (tyA cI cJ cZ cS) [(a_p1, .inr (2, [.int i_p1_inputs, .int i_p1_gates, .int i_p1_paths, .ref a_p1_told, .ref a_p1_lefts, .ref a_p1_rights, .ref a_p1_nexts, .ref a_p1_starts, .ref a_p1_sizes, .ref a_p1_steps, .ref a_p1_links])), (a_this, .inr (3, [.ref a_levels, .ref a_sureLinks, .ref a_risers, .ref a_fallers, .ref a_captured, .int i_this_madeFor])), (a_captured, .inl (cI, 16, .inl k_captured))] sz [.ref a_this, .ref a_p1, .int y2, .int y3] rr := by
  refine entZr (cc := cX3_isLaunched) (maxL := 6) (own := RX3) (by decide) rfl rfl (Nat.le_of_ble_eq_true rfl) ?_
  intro p e s m args below meth c A ls Q S hr hw hl hQ
  have hx := S.1.1
  have hb := S.1.2.1
  have hts := S.1.2.2.2.2
  have hl : lv_has ls 6 [(0, .ref a_this), (1, .ref a_p1), (2, .int y2), (3, .int y3)] := hl
  have hinX3 : ∀ w ∈ u_ws RX3 TX3 6, w ∈ wsX3_isLaunched := (fun _ h => List.mem_cons_of_mem _ (List.mem_append_left _ (List.mem_append_right _ h)))
  have F29 : FLk s args wsX3_isLaunched RX3 29 RX3 TX3 6 3 4 := ⟨hinX3, rfl, by decide, hts (.fieldLink RX3 29 "SlowPaths$PairTable" "captured" "[I") (List.mem_of_getElem? (i := 1) rfl)⟩
  have h := hf
  rw [f_X3_isLaunched] at h
  refine lv_iload_n hx hb dX3_isLaunched_0 rfl (lv_at hl 3 rfl) ?_
  refine lv_iconst (v := (4 : Int32)) hx hb dX3_isLaunched_1 (by decide) ?_
  refine lv_ishr hx hb dX3_isLaunched_2 ?_
  refine lv_topi (fun x4_1 ex4_1 => ?_)
  replace h := bnd_at ex4_1 h
  refine lv_istore (lv' := [(4, .int x4_1), (0, .ref a_this), (1, .ref a_p1), (2, .int y2), (3, .int y3)]) hx hb dX3_isLaunched_3 hl (by decide) rfl (fun ls hl => ?_)
  refine lv_iload_n hx hb dX3_isLaunched_5 rfl (lv_at hl 4 rfl) ?_
  refine lv_bipush (v := (15 : Int32)) hx hb dX3_isLaunched_6 (by decide) ?_
  refine lv_iand hx hb dX3_isLaunched_8 ?_
  refine lv_topi (fun x5_2 ex5_2 => ?_)
  replace h := bnd_at ex5_2 h
  refine lv_istore (lv' := [(5, .int x5_2), (4, .int x4_1), (0, .ref a_this), (1, .ref a_p1), (2, .int y2), (3, .int y3)]) hx hb dX3_isLaunched_9 hl (by decide) rfl (fun ls hl => ?_)
  refine lv_iload_n hx hb dX3_isLaunched_11 rfl (lv_at hl 4 rfl) ?_
  by_cases hs0 : y2 = (0 : Int32)
  · replace h := if_t hs0 h
    refine lv_lookup (off := 28) (tgt := 40) hx hb dX3_isLaunched_12 (by decide) (by rw [hs0]; decide) (by decide) ?_
    refine lv_iconst (v := (1 : Int32)) hx hb dX3_isLaunched_40 (by decide) ?_
    cases h
    exact z_zretr S hQ hr rfl dX3_isLaunched_41
  replace h := if_f hs0 h
  by_cases hs1 : y2 = (1 : Int32)
  · replace h := if_t hs1 h
    refine lv_lookup (off := 30) (tgt := 42) hx hb dX3_isLaunched_12 (by decide) (by rw [hs1]; decide) (by decide) ?_
    refine lv_iload hx hb dX3_isLaunched_42 (lv_at hl 0 rfl) ?_
    refine lv_bipush (v := (-2 : Int32)) hx hb dX3_isLaunched_44 (by decide) ?_
    refine lv_iand hx hb dX3_isLaunched_46 ?_
    refine lv_iload hx hb dX3_isLaunched_47 (lv_at hl 1 rfl) ?_
    refine lv_iconst (v := (1 : Int32)) hx hb dX3_isLaunched_49 (by decide) ?_
    refine lv_ishl hx hb dX3_isLaunched_50 ?_
    refine lv_aload_n hx hb dX3_isLaunched_51 rfl (lv_at hl 3 rfl) ?_
    obtain ⟨r_3, e52_1, h⟩ := obd1_el h
    refine zr_VI (As := []) (rest := [.int (x4_1 <<< ((1 : Int32) &&& 31)), .int (x5_2 &&& (-2 : Int32))]) (q0 := 0) S hw (c_X2_allBits l D cI cJ cZ cS s.heap.size N a_p1 a_p1_told a_p1_lefts a_p1_rights a_p1_nexts a_p1_starts a_p1_sizes a_p1_steps a_p1_links i_p1_inputs i_p1_gates i_p1_paths r_3 e52_1) (cwV 0 hts gX3_isLaunched_X2_allBits rfl rfl rfl dv_X2_allBits ⟨Nat.le_of_ble_eq_true rfl, Nat.le_of_ble_eq_true rfl⟩) [0] rfl rfl rfl rfl rfl rfl hl.1 rfl (Nat.le_of_ble_eq_true rfl) dX3_isLaunched_52 ⟨Nat.zero_le _, Nat.zero_le _⟩ ?_
    refine lv_iand hx hb dX3_isLaunched_55 ?_
    refine lv_icmp_ne (tgt := 63) hx hb dX3_isLaunched_56 (by decide) (fun hc => ?_) (fun hc => ?_)
    · replace h := if_f hc h
      refine lv_iconst (v := (0 : Int32)) hx hb dX3_isLaunched_63 (by decide) ?_
      cases h
      exact z_zretr S hQ hr rfl dX3_isLaunched_64
    · replace h := if_t hc h
      refine lv_iconst (v := (1 : Int32)) hx hb dX3_isLaunched_59 (by decide) ?_
      refine lv_goto (tgt := 64) hx hb dX3_isLaunched_60 (by decide) ?_
      cases h
      exact z_zretr S hQ hr rfl dX3_isLaunched_64
  replace h := if_f hs1 h
  refine lv_lookup (off := 53) (tgt := 65) hx hb dX3_isLaunched_12 (by decide) ((lv_osw hs0 (by decide)).trans ((lv_osw hs1 (by decide)).trans (rfl))) (by decide) ?_
  refine lv_aload_n hx hb dX3_isLaunched_65 rfl (lv_at hl 2 rfl) ?_
  refine z_get S hw F29 1 rfl rfl dX3_isLaunched_66 ?_
  refine lv_iload hx hb dX3_isLaunched_69 (lv_at hl 1 rfl) ?_
  obtain ⟨hg, h⟩ := grd_el h
  refine z_iald S hw 2 0 rfl rfl hg dX3_isLaunched_71 ?_
  refine lv_iload hx hb dX3_isLaunched_72 (lv_at hl 0 rfl) ?_
  refine lv_icmp_ne (tgt := 81) hx hb dX3_isLaunched_74 (by decide) (fun hc => ?_) (fun hc => ?_)
  · replace h := if_f hc h
    refine lv_iconst (v := (0 : Int32)) hx hb dX3_isLaunched_81 (by decide) ?_
    cases h
    exact z_zretr S hQ hr rfl dX3_isLaunched_82
  · replace h := if_t hc h
    refine lv_iconst (v := (1 : Int32)) hx hb dX3_isLaunched_77 (by decide) ?_
    refine lv_goto (tgt := 82) hx hb dX3_isLaunched_78 (by decide) ?_
    cases h
    exact z_zretr S hQ hr rfl dX3_isLaunched_82
abbrev rmX3_gatesAlive : Room := { frames := 1, cells := 0, slots := 0, locals := 23 }
theorem dv_X3_gatesAlive : yX3_gatesAlive.cls = RX3 ∧ yX3_gatesAlive.cls ≠ "java/lang/invoke/MethodHandle" ∧ yX3_gatesAlive.cls ≠ "java/lang/invoke/VarHandle" ∧ (parseMethodDescriptor yX3_gatesAlive.desc).map (fun d => d.parameters.length) = some 3 := by decide +kernel
noncomputable def f_X3_gatesAlive_L44 (N : Nat) (y2 : Int32) (k_p1_steps : (Nat → Int32)) (k_p1_links : (Nat → Int32)) (k_sureLinks : (Nat → Int32)) (x5_1 : Int32) (x6_4 : Int32) (j75_1 : Int32 → Option (Int32)) : Nat → Int32 → Option (Int32)
  | 0, _ => none
  | n_44 + 1, x4_8 =>
    (if x5_1 ≤ x4_8 then (j75_1 x4_8) else (obd1 (f_X2_beginning N y2 (x4_8 + (1 : Int32)) k_p1_steps k_p1_links) fun (r_9 : Int32) => obd1 (f_X3_holds N x6_4 r_9 k_sureLinks) fun (r_10 : Int32) => (if r_10 = (0 : Int32) then (j75_1 x4_8) else (bnd (x4_8 + (1 : Int32)) fun (x4_11 : Int32) => f_X3_gatesAlive_L44 N y2 k_p1_steps k_p1_links k_sureLinks x5_1 x6_4 j75_1 n_44 x4_11))))
noncomputable def f_X3_gatesAlive_L14 (N : Nat) (y2 : Int32) (y3 : Int32) (k_p1_starts : (Nat → Int32)) (k_p1_steps : (Nat → Int32)) (k_p1_links : (Nat → Int32)) (k_sureLinks : (Nat → Int32)) (x5_1 : Int32) (j81_1 : Int32 → Option (Int32)) : Nat → Int32 → Int32 → Option (Int32)
  | 0, _, _ => none
  | n_14 + 1, x4_3, x6_4 =>
    (if (256 : Int32) ≤ x6_4 then (j81_1 x4_3) else ((if x5_1 ≤ x4_3 then (j81_1 x4_3) else (grd (inb y2 55) <| obd1 (f_X3_goesOver N x6_4 (k_p1_starts y2.toNatClampNeg) y3) fun (r_5 : Int32) => bnd (fun (x4_6 : Int32) => (bnd (x6_4 + (1 : Int32)) fun (x6_7 : Int32) => f_X3_gatesAlive_L14 N y2 y3 k_p1_starts k_p1_steps k_p1_links k_sureLinks x5_1 j81_1 n_14 x4_6 x6_7)) fun (j75_1 : Int32 → Option (Int32)) => (if r_5 = (0 : Int32) then (j75_1 x4_3) else (f_X3_gatesAlive_L44 N y2 k_p1_steps k_p1_links k_sureLinks x5_1 x6_4 j75_1 N x4_3))))))
noncomputable def f_X3_gatesAlive (N : Nat) (y2 : Int32) (y3 : Int32) (k_p1_sizes : (Nat → Int32)) (k_p1_starts : (Nat → Int32)) (k_p1_steps : (Nat → Int32)) (k_p1_links : (Nat → Int32)) (k_sureLinks : (Nat → Int32)) : Option (Int32) :=
  grd (inb y2 55) <| bnd ((k_p1_sizes y2.toNatClampNeg)) fun (x5_1 : Int32) => bnd (fun (x4_2 : Int32) => (some (x4_2))) fun (j81_1 : Int32 → Option (Int32)) => f_X3_gatesAlive_L14 N y2 y3 k_p1_starts k_p1_steps k_p1_links k_sureLinks x5_1 j81_1 N ((0 : Int32)) ((0 : Int32))
set_option maxHeartbeats 4000000 in
set_option maxRecDepth 100000 in
theorem c_X3_gatesAlive (l : Launch) (D : va_G) (cI cJ cZ cS : ClassId) (sz N : Nat) (a_p1 a_this a_p1_sizes a_p1_starts a_p1_steps a_p1_links a_sureLinks a_p1_told a_p1_lefts a_p1_rights a_p1_nexts a_levels a_risers a_fallers a_captured : Nat) (i_p1_inputs : Int32) (i_p1_gates : Int32) (i_p1_paths : Int32) (i_this_madeFor : Int32) (k_p1_sizes : (Nat → Int32)) (k_p1_starts : (Nat → Int32)) (k_p1_steps : (Nat → Int32)) (k_p1_links : (Nat → Int32)) (k_sureLinks : (Nat → Int32)) (y2 : Int32) (y3 : Int32) (rr : Int32) (hf : f_X3_gatesAlive N y2 y3 k_p1_sizes k_p1_starts k_p1_steps k_p1_links k_sureLinks = some (rr)) : MetIr l yX3_gatesAlive wsX3_gatesAlive rmX3_gatesAlive D (tyA cI cJ cZ cS) [(a_p1, .inr (2, [.int i_p1_inputs, .int i_p1_gates, .int i_p1_paths, .ref a_p1_told, .ref a_p1_lefts, .ref a_p1_rights, .ref a_p1_nexts, .ref a_p1_starts, .ref a_p1_sizes, .ref a_p1_steps, .ref a_p1_links])), (a_this, .inr (3, [.ref a_levels, .ref a_sureLinks, .ref a_risers, .ref a_fallers, .ref a_captured, .int i_this_madeFor])), (a_p1_sizes, .inl (cI, 55, .inl k_p1_sizes)), (a_p1_starts, .inl (cI, 55, .inl k_p1_starts)), (a_p1_steps, .inl (cI, 440, .inl k_p1_steps)), (a_p1_links, .inl (cI, 55, .inl k_p1_links)), (a_sureLinks, .inl (cI, 256, .inl k_sureLinks))] sz [.ref a_this, .ref a_p1, .int y2, .int y3] rr := by
  refine entIr (cc := cX3_gatesAlive) (maxL := 7) (own := RX3) (by decide) rfl rfl (Nat.le_of_ble_eq_true rfl) ?_
  intro p e s m args below meth c A ls Q S hr hw hl hQ
  have hx := S.1.1
  have hb := S.1.2.1
  have hts := S.1.2.2.2.2
  have hl : lv_has ls 7 [(0, .ref a_this), (1, .ref a_p1), (2, .int y2), (3, .int y3)] := hl
  have hinX2 : ∀ w ∈ u_ws RX2 TX2 11, w ∈ wsX3_gatesAlive := (fun _ h => List.mem_cons_of_mem _ (List.mem_append_left _ (List.mem_append_right _ h)))
  have F64 : FLk s args wsX3_gatesAlive RX3 64 RX2 TX2 11 2 7 := ⟨hinX2, rfl, by decide, hts (.fieldLink RX3 64 "SlowPaths$Net" "starts" "[I") (List.mem_of_getElem? (i := 2) rfl)⟩
  have F98 : FLk s args wsX3_gatesAlive RX3 98 RX2 TX2 11 2 8 := ⟨hinX2, rfl, by decide, hts (.fieldLink RX3 98 "SlowPaths$Net" "sizes" "[I") (List.mem_of_getElem? (i := 1) rfl)⟩
  have h := hf
  rw [f_X3_gatesAlive] at h
  refine lv_iconst (v := (0 : Int32)) hx hb dX3_gatesAlive_0 (by decide) ?_
  refine lv_istore (lv' := [(4, .int (0 : Int32)), (0, .ref a_this), (1, .ref a_p1), (2, .int y2), (3, .int y3)]) hx hb dX3_gatesAlive_1 hl (by decide) rfl (fun ls hl => ?_)
  refine lv_aload_n hx hb dX3_gatesAlive_3 rfl (lv_at hl 2 rfl) ?_
  refine z_get S hw F98 0 rfl rfl dX3_gatesAlive_4 ?_
  refine lv_iload_n hx hb dX3_gatesAlive_7 rfl (lv_at hl 3 rfl) ?_
  obtain ⟨hg, h⟩ := grd_el h
  refine z_iald S hw 2 0 rfl rfl hg dX3_gatesAlive_8 ?_
  refine lv_topi (fun x5_1 ex5_1 => ?_)
  replace h := bnd_at ex5_1 h
  refine lv_istore (lv' := [(5, .int x5_1), (4, .int (0 : Int32)), (0, .ref a_this), (1, .ref a_p1), (2, .int y2), (3, .int y3)]) hx hb dX3_gatesAlive_9 hl (by decide) rfl (fun ls hl => ?_)
  refine lv_iconst (v := (0 : Int32)) hx hb dX3_gatesAlive_11 (by decide) ?_
  refine lv_istore (lv' := [(6, .int (0 : Int32)), (5, .int x5_1), (4, .int (0 : Int32)), (0, .ref a_this), (1, .ref a_p1), (2, .int y2), (3, .int y3)]) hx hb dX3_gatesAlive_12 hl (by decide) rfl (fun ls hl => ?_)
  obtain ⟨j81_1, ej81_1, h⟩ := bnd_ex h
  have hj81_1 : ∀ (x4_2 : Int32) (ls : Array Slot), j81_1 x4_2 = some (rr) → lv_has ls 7 [(4, .int x4_2)] → W p l e rmX3_gatesAlive s m args below meth c s.heap [] 0 0 Q (F0 m 81 ls []) := by
    intro x4_2 ls h hl
    replace h := ap1 ej81_1 h
    refine lv_iload hx hb dX3_gatesAlive_81 (lv_at hl 0 rfl) ?_
    cases h
    exact z_iretr S hQ hr dX3_gatesAlive_83
  have hL14_1 : ∀ (nf : Nat) (x4_3 : Int32) (x6_4 : Int32) (ls : Array Slot), f_X3_gatesAlive_L14 N y2 y3 k_p1_starts k_p1_steps k_p1_links k_sureLinks x5_1 j81_1 nf x4_3 x6_4 = some (rr) → lv_has ls 7 [(0, .ref a_this), (1, .ref a_p1), (2, .int y2), (3, .int y3), (4, .int x4_3), (5, .int x5_1), (6, .int x6_4)] → W p l e rmX3_gatesAlive s m args below meth c s.heap [] 0 0 Q (F0 m 14 ls []) := by
    intro nf
    induction nf with
    | zero =>
      intro x4_3 x6_4 ls h
      rw [f_X3_gatesAlive_L14] at h
      cases h
    | succ n_14 ih_14 =>
      intro x4_3 x6_4 ls h hl
      rw [f_X3_gatesAlive_L14] at h
      refine lv_iload hx hb dX3_gatesAlive_14 (lv_at hl 6 rfl) ?_
      refine lv_sipush (v := (256 : Int32)) hx hb dX3_gatesAlive_16 (by decide) ?_
      refine lv_icmp_ge (tgt := 81) hx hb dX3_gatesAlive_19 (by decide) (fun hc => ?_) (fun hc => ?_)
      · replace h := if_t hc h
        exact hj81_1 x4_3 ls h (lv_sub hl [4] rfl)
      · replace h := if_f hc h
        refine lv_iload hx hb dX3_gatesAlive_22 (lv_at hl 4 rfl) ?_
        refine lv_iload hx hb dX3_gatesAlive_24 (lv_at hl 5 rfl) ?_
        refine lv_icmp_ge (tgt := 81) hx hb dX3_gatesAlive_26 (by decide) (fun hc => ?_) (fun hc => ?_)
        · replace h := if_t hc h
          exact hj81_1 x4_3 ls h (lv_sub hl [4] rfl)
        · replace h := if_f hc h
          refine lv_iload hx hb dX3_gatesAlive_29 (lv_at hl 6 rfl) ?_
          refine lv_aload_n hx hb dX3_gatesAlive_31 rfl (lv_at hl 1 rfl) ?_
          refine z_get S hw F64 0 rfl rfl dX3_gatesAlive_32 ?_
          refine lv_iload_n hx hb dX3_gatesAlive_35 rfl (lv_at hl 2 rfl) ?_
          obtain ⟨hg, h⟩ := grd_el h
          refine z_iald S hw 3 0 rfl rfl hg dX3_gatesAlive_36 ?_
          refine lv_iload_n hx hb dX3_gatesAlive_37 rfl (lv_at hl 3 rfl) ?_
          obtain ⟨r_5, e38_1, h⟩ := obd1_el h
          refine zr_SI (As := [.int x6_4, .int (k_p1_starts y2.toNatClampNeg), .int y3]) (rest := []) (q0 := 0) (ci := 0) (fs := []) (qc := (RX0, TX0, 4)) S hw (c_X3_goesOver l D cI cJ cZ cS s.heap.size N x6_4 (k_p1_starts y2.toNatClampNeg) y3 r_5 e38_1) (va_cwS 3 hts gX3_gatesAlive_X3_goesOver rfl rfl rfl ds_X3_goesOver ⟨Nat.le_of_ble_eq_true rfl, Nat.le_of_ble_eq_true rfl⟩) [] rfl rfl rfl hl.1 rfl (Nat.le_of_ble_eq_true rfl) dX3_gatesAlive_38 ⟨Nat.zero_le _, Nat.zero_le _⟩ ?_
          obtain ⟨j75_1, ej75_1, h⟩ := bnd_ex h
          have hj75_1 : ∀ (x4_6 : Int32) (ls : Array Slot), j75_1 x4_6 = some (rr) → lv_has ls 7 [(0, .ref a_this), (1, .ref a_p1), (2, .int y2), (3, .int y3), (4, .int x4_6), (5, .int x5_1), (6, .int x6_4)] → W p l e rmX3_gatesAlive s m args below meth c s.heap [] 0 0 Q (F0 m 75 ls []) := by
            intro x4_6 ls h hl
            replace h := ap1 ej75_1 h
            obtain ⟨x6_7, ex6_7, h⟩ := bnd_ex h
            refine lv_iinc (v := x6_7) (lv' := [(6, .int x6_7), (0, .ref a_this), (1, .ref a_p1), (2, .int y2), (3, .int y3), (4, .int x4_6), (5, .int x5_1)]) hx hb dX3_gatesAlive_75 hl (k := 6) rfl (by rw [ex6_7]; rfl) (by decide) rfl (fun ls hl => ?_)
            refine lv_goto (tgt := 14) hx hb dX3_gatesAlive_78 (by decide) ?_
            exact ih_14 x4_6 x6_7 ls h (lv_sub hl [1, 2, 3, 4, 5, 6, 0] rfl)
          have hL44_1 : ∀ (nf : Nat) (x4_8 : Int32) (ls : Array Slot), f_X3_gatesAlive_L44 N y2 k_p1_steps k_p1_links k_sureLinks x5_1 x6_4 j75_1 nf x4_8 = some (rr) → lv_has ls 7 [(0, .ref a_this), (1, .ref a_p1), (2, .int y2), (3, .int y3), (4, .int x4_8), (5, .int x5_1), (6, .int x6_4)] → W p l e rmX3_gatesAlive s m args below meth c s.heap [] 0 0 Q (F0 m 44 ls []) := by
            intro nf
            induction nf with
            | zero =>
              intro x4_8 ls h
              rw [f_X3_gatesAlive_L44] at h
              cases h
            | succ n_44 ih_44 =>
              intro x4_8 ls h hl
              rw [f_X3_gatesAlive_L44] at h
              refine lv_iload hx hb dX3_gatesAlive_44 (lv_at hl 4 rfl) ?_
              refine lv_iload hx hb dX3_gatesAlive_46 (lv_at hl 5 rfl) ?_
              refine lv_icmp_ge (tgt := 75) hx hb dX3_gatesAlive_48 (by decide) (fun hc => ?_) (fun hc => ?_)
              · replace h := if_t hc h
                exact hj75_1 x4_8 ls h hl
              · replace h := if_f hc h
                refine lv_aload_n hx hb dX3_gatesAlive_51 rfl (lv_at hl 0 rfl) ?_
                refine lv_iload hx hb dX3_gatesAlive_52 (lv_at hl 6 rfl) ?_
                refine lv_aload_n hx hb dX3_gatesAlive_54 rfl (lv_at hl 1 rfl) ?_
                refine lv_iload_n hx hb dX3_gatesAlive_55 rfl (lv_at hl 2 rfl) ?_
                refine lv_iload hx hb dX3_gatesAlive_56 (lv_at hl 4 rfl) ?_
                refine lv_iconst (v := (1 : Int32)) hx hb dX3_gatesAlive_58 (by decide) ?_
                refine lv_iadd hx hb dX3_gatesAlive_59 ?_
                obtain ⟨r_9, e60_1, h⟩ := obd1_el h
                refine zr_VI (As := [.int y2, .int (x4_8 + (1 : Int32))]) (rest := [.int x6_4, .ref a_this]) (q0 := 0) S hw (c_X2_beginning l D cI cJ cZ cS s.heap.size N a_p1 a_p1_steps a_p1_links a_p1_told a_p1_lefts a_p1_rights a_p1_nexts a_p1_starts a_p1_sizes i_p1_inputs i_p1_gates i_p1_paths k_p1_steps k_p1_links y2 (x4_8 + (1 : Int32)) r_9 e60_1) (cwV 2 hts gX3_gatesAlive_X2_beginning rfl rfl rfl dv_X2_beginning ⟨Nat.le_of_ble_eq_true rfl, Nat.le_of_ble_eq_true rfl⟩) [0, 4, 5] rfl rfl rfl rfl rfl rfl hl.1 rfl (Nat.le_of_ble_eq_true rfl) dX3_gatesAlive_60 ⟨Nat.zero_le _, Nat.zero_le _⟩ ?_
                obtain ⟨r_10, e63_1, h⟩ := obd1_el h
                refine zr_VI (As := [.int x6_4, .int r_9]) (rest := []) (q0 := 0) S hw (c_X3_holds l D cI cJ cZ cS s.heap.size N a_this a_sureLinks a_levels a_risers a_fallers a_captured i_this_madeFor k_sureLinks x6_4 r_9 r_10 e63_1) (cwV 2 hts gX3_gatesAlive_X3_holds rfl rfl rfl dv_X3_holds ⟨Nat.le_of_ble_eq_true rfl, Nat.le_of_ble_eq_true rfl⟩) [1, 6] rfl rfl rfl rfl rfl rfl hl.1 rfl (Nat.le_of_ble_eq_true rfl) dX3_gatesAlive_63 ⟨Nat.zero_le _, Nat.zero_le _⟩ ?_
                refine lv_if_eq (tgt := 75) hx hb dX3_gatesAlive_66 (by decide) (fun hc => ?_) (fun hc => ?_)
                · replace h := if_t hc h
                  exact hj75_1 x4_8 ls h hl
                · replace h := if_f hc h
                  obtain ⟨x4_11, ex4_11, h⟩ := bnd_ex h
                  refine lv_iinc (v := x4_11) (lv' := [(4, .int x4_11), (0, .ref a_this), (1, .ref a_p1), (2, .int y2), (3, .int y3), (5, .int x5_1), (6, .int x6_4)]) hx hb dX3_gatesAlive_69 hl (k := 4) rfl (by rw [ex4_11]; rfl) (by decide) rfl (fun ls hl => ?_)
                  refine lv_goto (tgt := 44) hx hb dX3_gatesAlive_72 (by decide) ?_
                  exact ih_44 x4_11 ls h (lv_sub hl [1, 2, 3, 4, 0, 5, 6] rfl)
          refine lv_if_eq (tgt := 75) hx hb dX3_gatesAlive_41 (by decide) (fun hc => ?_) (fun hc => ?_)
          · replace h := if_t hc h
            exact hj75_1 x4_3 ls h hl
          · replace h := if_f hc h
            exact hL44_1 N x4_3 ls h hl
  exact hL14_1 N ((0 : Int32)) ((0 : Int32)) ls h (lv_sub hl [3, 4, 5, 6, 2, 1, 0] rfl)
abbrev rmX3_deadBeginnings : Room := { frames := 2, cells := 0, slots := 0, locals := 49 }
theorem dv_X3_deadBeginnings : yX3_deadBeginnings.cls = RX3 ∧ yX3_deadBeginnings.cls ≠ "java/lang/invoke/MethodHandle" ∧ yX3_deadBeginnings.cls ≠ "java/lang/invoke/VarHandle" ∧ (parseMethodDescriptor yX3_deadBeginnings.desc).map (fun d => d.parameters.length) = some 1 := by decide +kernel
noncomputable def f_X3_deadBeginnings_L15 (N : Nat) (k_p1_sizes : (Nat → Int32)) (k_p1_starts : (Nat → Int32)) (k_p1_steps : (Nat → Int32)) (k_p1_links : (Nat → Int32)) (k_sureLinks : (Nat → Int32)) (x3_3 : Int32) (j63_1 : Int32 → Option (Int32)) : Nat → Int32 → Int32 → Option (Int32)
  | 0, _, _ => none
  | n_15 + 1, x2_6, x4_7 =>
    (if (1 : Int32) < x4_7 then (j63_1 x2_6) else (obd1 (f_X3_gatesAlive N x3_3 x4_7 k_p1_sizes k_p1_starts k_p1_steps k_p1_links k_sureLinks) fun (r_8 : Int32) => grd (inb x3_3 55) <| bnd (fun (x2_9 : Int32) => (bnd (x4_7 + (1 : Int32)) fun (x4_10 : Int32) => f_X3_deadBeginnings_L15 N k_p1_sizes k_p1_starts k_p1_steps k_p1_links k_sureLinks x3_3 j63_1 n_15 x2_9 x4_10)) fun (j57_1 : Int32 → Option (Int32)) => (if (k_p1_sizes x3_3.toNatClampNeg) ≤ r_8 then (j57_1 x2_6) else (obd1 (f_X2_isSharedBefore N x3_3 (r_8 + (1 : Int32)) k_p1_starts k_p1_sizes k_p1_steps k_p1_links) fun (r_11 : Int32) => (if r_11 = (0 : Int32) then (bnd (x2_6 + (1 : Int32)) fun (x2_12 : Int32) => j57_1 x2_12) else (j57_1 x2_6))))))
noncomputable def f_X3_deadBeginnings_L4 (N : Nat) (i_p1_paths : Int32) (k_p1_sizes : (Nat → Int32)) (k_p1_starts : (Nat → Int32)) (k_p1_steps : (Nat → Int32)) (k_p1_links : (Nat → Int32)) (k_sureLinks : (Nat → Int32)) (j69_1 : Int32 → Option (Int32)) : Nat → Int32 → Int32 → Option (Int32)
  | 0, _, _ => none
  | n_4 + 1, x2_2, x3_3 =>
    (if i_p1_paths ≤ x3_3 then (j69_1 x2_2) else (bnd (fun (x2_4 : Int32) => (bnd (x3_3 + (1 : Int32)) fun (x3_5 : Int32) => f_X3_deadBeginnings_L4 N i_p1_paths k_p1_sizes k_p1_starts k_p1_steps k_p1_links k_sureLinks j69_1 n_4 x2_4 x3_5)) fun (j63_1 : Int32 → Option (Int32)) => f_X3_deadBeginnings_L15 N k_p1_sizes k_p1_starts k_p1_steps k_p1_links k_sureLinks x3_3 j63_1 N x2_2 ((0 : Int32))))
noncomputable def f_X3_deadBeginnings (N : Nat)  (i_p1_paths : Int32) (k_p1_sizes : (Nat → Int32)) (k_p1_starts : (Nat → Int32)) (k_p1_steps : (Nat → Int32)) (k_p1_links : (Nat → Int32)) (k_sureLinks : (Nat → Int32)) : Option (Int32) :=
  bnd (fun (x2_1 : Int32) => (some (x2_1))) fun (j69_1 : Int32 → Option (Int32)) => f_X3_deadBeginnings_L4 N i_p1_paths k_p1_sizes k_p1_starts k_p1_steps k_p1_links k_sureLinks j69_1 N ((0 : Int32)) ((0 : Int32))
set_option maxHeartbeats 4000000 in
set_option maxRecDepth 100000 in
theorem c_X3_deadBeginnings (l : Launch) (D : va_G) (cI cJ cZ cS : ClassId) (sz N : Nat) (a_p1 a_this a_p1_sizes a_p1_starts a_p1_steps a_p1_links a_sureLinks a_p1_told a_p1_lefts a_p1_rights a_p1_nexts a_levels a_risers a_fallers a_captured : Nat) (i_p1_inputs : Int32) (i_p1_gates : Int32) (i_p1_paths : Int32) (i_this_madeFor : Int32) (k_p1_sizes : (Nat → Int32)) (k_p1_starts : (Nat → Int32)) (k_p1_steps : (Nat → Int32)) (k_p1_links : (Nat → Int32)) (k_sureLinks : (Nat → Int32))  (rr : Int32) (hf : f_X3_deadBeginnings N i_p1_paths k_p1_sizes k_p1_starts k_p1_steps k_p1_links k_sureLinks = some (rr)) : MetIr l yX3_deadBeginnings wsX3_deadBeginnings rmX3_deadBeginnings D (tyA cI cJ cZ cS) [(a_p1, .inr (2, [.int i_p1_inputs, .int i_p1_gates, .int i_p1_paths, .ref a_p1_told, .ref a_p1_lefts, .ref a_p1_rights, .ref a_p1_nexts, .ref a_p1_starts, .ref a_p1_sizes, .ref a_p1_steps, .ref a_p1_links])), (a_this, .inr (3, [.ref a_levels, .ref a_sureLinks, .ref a_risers, .ref a_fallers, .ref a_captured, .int i_this_madeFor])), (a_p1_sizes, .inl (cI, 55, .inl k_p1_sizes)), (a_p1_starts, .inl (cI, 55, .inl k_p1_starts)), (a_p1_steps, .inl (cI, 440, .inl k_p1_steps)), (a_p1_links, .inl (cI, 55, .inl k_p1_links)), (a_sureLinks, .inl (cI, 256, .inl k_sureLinks))] sz [.ref a_this, .ref a_p1] rr := by
  refine entIr (cc := cX3_deadBeginnings) (maxL := 6) (own := RX3) (by decide) rfl rfl (Nat.le_of_ble_eq_true rfl) ?_
  intro p e s m args below meth c A ls Q S hr hw hl hQ
  have hx := S.1.1
  have hb := S.1.2.1
  have hts := S.1.2.2.2.2
  have hl : lv_has ls 6 [(0, .ref a_this), (1, .ref a_p1)] := hl
  have hinX2 : ∀ w ∈ u_ws RX2 TX2 11, w ∈ wsX3_deadBeginnings := (fun _ h => List.mem_cons_of_mem _ (List.mem_append_left _ (List.mem_append_right _ h)))
  have F54 : FLk s args wsX3_deadBeginnings RX3 54 RX2 TX2 11 2 2 := ⟨hinX2, rfl, by decide, hts (.fieldLink RX3 54 "SlowPaths$Net" "paths" "I") (List.mem_of_getElem? (i := 1) rfl)⟩
  have F98 : FLk s args wsX3_deadBeginnings RX3 98 RX2 TX2 11 2 8 := ⟨hinX2, rfl, by decide, hts (.fieldLink RX3 98 "SlowPaths$Net" "sizes" "[I") (List.mem_of_getElem? (i := 2) rfl)⟩
  have h := hf
  rw [f_X3_deadBeginnings] at h
  refine lv_iconst (v := (0 : Int32)) hx hb dX3_deadBeginnings_0 (by decide) ?_
  refine lv_istore_n (lv' := [(2, .int (0 : Int32)), (0, .ref a_this), (1, .ref a_p1)]) hx hb dX3_deadBeginnings_1 rfl hl (by decide) rfl (fun ls hl => ?_)
  refine lv_iconst (v := (0 : Int32)) hx hb dX3_deadBeginnings_2 (by decide) ?_
  refine lv_istore_n (lv' := [(3, .int (0 : Int32)), (2, .int (0 : Int32)), (0, .ref a_this), (1, .ref a_p1)]) hx hb dX3_deadBeginnings_3 rfl hl (by decide) rfl (fun ls hl => ?_)
  obtain ⟨j69_1, ej69_1, h⟩ := bnd_ex h
  have hj69_1 : ∀ (x2_1 : Int32) (ls : Array Slot), j69_1 x2_1 = some (rr) → lv_has ls 6 [(2, .int x2_1)] → W p l e rmX3_deadBeginnings s m args below meth c s.heap [] 0 0 Q (F0 m 69 ls []) := by
    intro x2_1 ls h hl
    replace h := ap1 ej69_1 h
    refine lv_iload_n hx hb dX3_deadBeginnings_69 rfl (lv_at hl 0 rfl) ?_
    cases h
    exact z_iretr S hQ hr dX3_deadBeginnings_70
  have hL4_1 : ∀ (nf : Nat) (x2_2 : Int32) (x3_3 : Int32) (ls : Array Slot), f_X3_deadBeginnings_L4 N i_p1_paths k_p1_sizes k_p1_starts k_p1_steps k_p1_links k_sureLinks j69_1 nf x2_2 x3_3 = some (rr) → lv_has ls 6 [(0, .ref a_this), (1, .ref a_p1), (2, .int x2_2), (3, .int x3_3)] → W p l e rmX3_deadBeginnings s m args below meth c s.heap [] 0 0 Q (F0 m 4 ls []) := by
    intro nf
    induction nf with
    | zero =>
      intro x2_2 x3_3 ls h
      rw [f_X3_deadBeginnings_L4] at h
      cases h
    | succ n_4 ih_4 =>
      intro x2_2 x3_3 ls h hl
      rw [f_X3_deadBeginnings_L4] at h
      refine lv_iload_n hx hb dX3_deadBeginnings_4 rfl (lv_at hl 3 rfl) ?_
      refine lv_aload_n hx hb dX3_deadBeginnings_5 rfl (lv_at hl 1 rfl) ?_
      refine z_get S hw F54 0 rfl rfl dX3_deadBeginnings_6 ?_
      refine lv_icmp_ge (tgt := 69) hx hb dX3_deadBeginnings_9 (by decide) (fun hc => ?_) (fun hc => ?_)
      · replace h := if_t hc h
        exact hj69_1 x2_2 ls h (lv_sub hl [2] rfl)
      · replace h := if_f hc h
        refine lv_iconst (v := (0 : Int32)) hx hb dX3_deadBeginnings_12 (by decide) ?_
        refine lv_istore (lv' := [(4, .int (0 : Int32)), (0, .ref a_this), (1, .ref a_p1), (2, .int x2_2), (3, .int x3_3)]) hx hb dX3_deadBeginnings_13 hl (by decide) rfl (fun ls hl => ?_)
        obtain ⟨j63_1, ej63_1, h⟩ := bnd_ex h
        have hj63_1 : ∀ (x2_4 : Int32) (ls : Array Slot), j63_1 x2_4 = some (rr) → lv_has ls 6 [(0, .ref a_this), (1, .ref a_p1), (2, .int x2_4), (3, .int x3_3)] → W p l e rmX3_deadBeginnings s m args below meth c s.heap [] 0 0 Q (F0 m 63 ls []) := by
          intro x2_4 ls h hl
          replace h := ap1 ej63_1 h
          obtain ⟨x3_5, ex3_5, h⟩ := bnd_ex h
          refine lv_iinc (v := x3_5) (lv' := [(3, .int x3_5), (0, .ref a_this), (1, .ref a_p1), (2, .int x2_4)]) hx hb dX3_deadBeginnings_63 hl (k := 3) rfl (by rw [ex3_5]; rfl) (by decide) rfl (fun ls hl => ?_)
          refine lv_goto (tgt := 4) hx hb dX3_deadBeginnings_66 (by decide) ?_
          exact ih_4 x2_4 x3_5 ls h (lv_sub hl [1, 2, 3, 0] rfl)
        have hL15_1 : ∀ (nf : Nat) (x2_6 : Int32) (x4_7 : Int32) (ls : Array Slot), f_X3_deadBeginnings_L15 N k_p1_sizes k_p1_starts k_p1_steps k_p1_links k_sureLinks x3_3 j63_1 nf x2_6 x4_7 = some (rr) → lv_has ls 6 [(0, .ref a_this), (1, .ref a_p1), (2, .int x2_6), (3, .int x3_3), (4, .int x4_7)] → W p l e rmX3_deadBeginnings s m args below meth c s.heap [] 0 0 Q (F0 m 15 ls []) := by
          intro nf
          induction nf with
          | zero =>
            intro x2_6 x4_7 ls h
            rw [f_X3_deadBeginnings_L15] at h
            cases h
          | succ n_15 ih_15 =>
            intro x2_6 x4_7 ls h hl
            rw [f_X3_deadBeginnings_L15] at h
            refine lv_iload hx hb dX3_deadBeginnings_15 (lv_at hl 4 rfl) ?_
            refine lv_iconst (v := (1 : Int32)) hx hb dX3_deadBeginnings_17 (by decide) ?_
            refine lv_icmp_gt (tgt := 63) hx hb dX3_deadBeginnings_18 (by decide) (fun hc => ?_) (fun hc => ?_)
            · replace h := if_t hc h
              exact hj63_1 x2_6 ls h (lv_sub hl [0, 1, 2, 3] rfl)
            · replace h := if_f hc h
              refine lv_aload_n hx hb dX3_deadBeginnings_21 rfl (lv_at hl 0 rfl) ?_
              refine lv_aload_n hx hb dX3_deadBeginnings_22 rfl (lv_at hl 1 rfl) ?_
              refine lv_iload_n hx hb dX3_deadBeginnings_23 rfl (lv_at hl 3 rfl) ?_
              refine lv_iload hx hb dX3_deadBeginnings_24 (lv_at hl 4 rfl) ?_
              obtain ⟨r_8, e26_1, h⟩ := obd1_el h
              refine zr_VI (As := [.ref a_p1, .int x3_3, .int x4_7]) (rest := []) (q0 := 1) S hw (c_X3_gatesAlive l D cI cJ cZ cS s.heap.size N a_p1 a_this a_p1_sizes a_p1_starts a_p1_steps a_p1_links a_sureLinks a_p1_told a_p1_lefts a_p1_rights a_p1_nexts a_levels a_risers a_fallers a_captured i_p1_inputs i_p1_gates i_p1_paths i_this_madeFor k_p1_sizes k_p1_starts k_p1_steps k_p1_links k_sureLinks x3_3 x4_7 r_8 e26_1) (cwV 3 hts gX3_deadBeginnings_X3_gatesAlive rfl rfl rfl dv_X3_gatesAlive ⟨Nat.le_of_ble_eq_true rfl, Nat.le_of_ble_eq_true rfl⟩) [0, 1, 2, 3, 4, 5, 6] rfl rfl rfl rfl rfl rfl hl.1 rfl (Nat.le_of_ble_eq_true rfl) dX3_deadBeginnings_26 ⟨Nat.zero_le _, Nat.zero_le _⟩ ?_
              refine lv_istore (lv' := [(5, .int r_8), (0, .ref a_this), (1, .ref a_p1), (2, .int x2_6), (3, .int x3_3), (4, .int x4_7)]) hx hb dX3_deadBeginnings_29 hl (by decide) rfl (fun ls hl => ?_)
              refine lv_iload hx hb dX3_deadBeginnings_31 (lv_at hl 0 rfl) ?_
              refine lv_aload_n hx hb dX3_deadBeginnings_33 rfl (lv_at hl 2 rfl) ?_
              refine z_get S hw F98 0 rfl rfl dX3_deadBeginnings_34 ?_
              refine lv_iload_n hx hb dX3_deadBeginnings_37 rfl (lv_at hl 4 rfl) ?_
              obtain ⟨hg, h⟩ := grd_el h
              refine z_iald S hw 2 0 rfl rfl hg dX3_deadBeginnings_38 ?_
              obtain ⟨j57_1, ej57_1, h⟩ := bnd_ex h
              have hj57_1 : ∀ (x2_9 : Int32) (ls : Array Slot), j57_1 x2_9 = some (rr) → lv_has ls 6 [(0, .ref a_this), (1, .ref a_p1), (2, .int x2_9), (3, .int x3_3), (4, .int x4_7)] → W p l e rmX3_deadBeginnings s m args below meth c s.heap [] 0 0 Q (F0 m 57 ls []) := by
                intro x2_9 ls h hl
                replace h := ap1 ej57_1 h
                obtain ⟨x4_10, ex4_10, h⟩ := bnd_ex h
                refine lv_iinc (v := x4_10) (lv' := [(4, .int x4_10), (0, .ref a_this), (1, .ref a_p1), (2, .int x2_9), (3, .int x3_3)]) hx hb dX3_deadBeginnings_57 hl (k := 4) rfl (by rw [ex4_10]; rfl) (by decide) rfl (fun ls hl => ?_)
                refine lv_goto (tgt := 15) hx hb dX3_deadBeginnings_60 (by decide) ?_
                exact ih_15 x2_9 x4_10 ls h (lv_sub hl [1, 2, 3, 4, 0] rfl)
              refine lv_icmp_ge (tgt := 57) hx hb dX3_deadBeginnings_39 (by decide) (fun hc => ?_) (fun hc => ?_)
              · replace h := if_t hc h
                exact hj57_1 x2_6 ls h (lv_sub hl [1, 2, 3, 4, 5] rfl)
              · replace h := if_f hc h
                refine lv_aload_n hx hb dX3_deadBeginnings_42 rfl (lv_at hl 2 rfl) ?_
                refine lv_iload_n hx hb dX3_deadBeginnings_43 rfl (lv_at hl 4 rfl) ?_
                refine lv_iload hx hb dX3_deadBeginnings_44 (lv_at hl 0 rfl) ?_
                refine lv_iconst (v := (1 : Int32)) hx hb dX3_deadBeginnings_46 (by decide) ?_
                refine lv_iadd hx hb dX3_deadBeginnings_47 ?_
                obtain ⟨r_11, e48_1, h⟩ := obd1_el h
                refine zr_VI (As := [.int x3_3, .int (r_8 + (1 : Int32))]) (rest := []) (q0 := 0) S hw (c_X2_isSharedBefore l D cI cJ cZ cS s.heap.size N a_p1 a_p1_starts a_p1_sizes a_p1_steps a_p1_links a_p1_told a_p1_lefts a_p1_rights a_p1_nexts i_p1_inputs i_p1_gates i_p1_paths k_p1_starts k_p1_sizes k_p1_steps k_p1_links x3_3 (r_8 + (1 : Int32)) r_11 e48_1) (cwV 2 hts gX3_deadBeginnings_X2_isSharedBefore rfl rfl rfl dv_X2_isSharedBefore ⟨Nat.le_of_ble_eq_true rfl, Nat.le_of_ble_eq_true rfl⟩) [0, 3, 2, 4, 5] rfl rfl rfl rfl rfl rfl hl.1 rfl (Nat.le_of_ble_eq_true rfl) dX3_deadBeginnings_48 ⟨Nat.zero_le _, Nat.zero_le _⟩ ?_
                refine lv_if_ne (tgt := 57) hx hb dX3_deadBeginnings_51 (by decide) (fun hc => ?_) (fun hc => ?_)
                · replace h := if_f hc h
                  exact hj57_1 x2_6 ls h (lv_sub hl [1, 2, 3, 4, 5] rfl)
                · replace h := if_t hc h
                  obtain ⟨x2_12, ex2_12, h⟩ := bnd_ex h
                  refine lv_iinc (v := x2_12) (lv' := [(2, .int x2_12), (5, .int r_8), (0, .ref a_this), (1, .ref a_p1), (3, .int x3_3), (4, .int x4_7)]) hx hb dX3_deadBeginnings_54 hl (k := 3) rfl (by rw [ex2_12]; rfl) (by decide) rfl (fun ls hl => ?_)
                  exact hj57_1 x2_12 ls h (lv_sub hl [2, 3, 0, 4, 5] rfl)
        exact hL15_1 N x2_2 ((0 : Int32)) ls h (lv_sub hl [1, 2, 3, 4, 0] rfl)
  exact hL4_1 N ((0 : Int32)) ((0 : Int32)) ls h (lv_sub hl [2, 3, 1, 0] rfl)
abbrev rmX3_fullest : Room := { frames := 2, cells := 0, slots := 0, locals := 45 }
theorem dv_X3_fullest : yX3_fullest.cls = RX3 ∧ yX3_fullest.cls ≠ "java/lang/invoke/MethodHandle" ∧ yX3_fullest.cls ≠ "java/lang/invoke/VarHandle" ∧ (parseMethodDescriptor yX3_fullest.desc).map (fun d => d.parameters.length) = some 4 := by decide +kernel
noncomputable def f_X3_fullest_L10 (N : Nat) (y2 : Int32) (y3 : Int64) (y4 : Int64) (i_p1_inputs : Int32) (k_risers : (Nat → Int64)) (k_fallers : (Nat → Int64)) (k_captured : (Nat → Int32)) (j86_1 : Int32 → Option (Int32)) : Nat → Int32 → Int32 → Int32 → Option (Int32)
  | 0, _, _, _ => none
  | n_10 + 1, x7_2, x8_3, x9_4 =>
    (if (256 : Int32) ≤ x9_4 then (j86_1 x8_3) else (grd (inb x9_4 256) <| obd1 (f_J13_bitCount_95d88 N ((k_risers x9_4.toNatClampNeg) &&& (y3 ^^^ (-1 : Int64)))) fun (r_5 : Int32) => grd (inb x9_4 256) <| obd1 (f_J13_bitCount_95d88 N ((k_fallers x9_4.toNatClampNeg) &&& (y4 ^^^ (-1 : Int64)))) fun (r_6 : Int32) => bnd ((r_5 + r_6)) fun (x10_7 : Int32) => bnd (fun (x7_8 : Int32) (x8_9 : Int32) => (bnd (x9_4 + (1 : Int32)) fun (x9_10 : Int32) => f_X3_fullest_L10 N y2 y3 y4 i_p1_inputs k_risers k_fallers k_captured j86_1 n_10 x7_8 x8_9 x9_10)) fun (j80_1 : Int32 → Int32 → Option (Int32)) => (if x10_7 ≤ x7_2 then (j80_1 x7_2 x8_3) else (obd1 (f_X3_isLaunched N y2 x9_4 i_p1_inputs k_captured) fun (r_11 : Int32) => (if r_11 = (0 : Int32) then (j80_1 x7_2 x8_3) else (j80_1 x10_7 x9_4))))))
noncomputable def f_X3_fullest (N : Nat) (y2 : Int32) (y3 : Int64) (y4 : Int64) (i_p1_inputs : Int32) (k_risers : (Nat → Int64)) (k_fallers : (Nat → Int64)) (k_captured : (Nat → Int32)) : Option (Int32) :=
  bnd (fun (x8_1 : Int32) => (some (x8_1))) fun (j86_1 : Int32 → Option (Int32)) => f_X3_fullest_L10 N y2 y3 y4 i_p1_inputs k_risers k_fallers k_captured j86_1 N ((0 : Int32)) ((-9 : Int32)) ((0 : Int32))
set_option maxHeartbeats 4000000 in
set_option maxRecDepth 100000 in
theorem c_X3_fullest (l : Launch) (D : va_G) (cI cJ cZ cS : ClassId) (sz N : Nat) (a_this a_p1 a_risers a_fallers a_captured a_levels a_sureLinks a_p1_told a_p1_lefts a_p1_rights a_p1_nexts a_p1_starts a_p1_sizes a_p1_steps a_p1_links : Nat) (i_this_madeFor : Int32) (i_p1_inputs : Int32) (i_p1_gates : Int32) (i_p1_paths : Int32) (k_risers : (Nat → Int64)) (k_fallers : (Nat → Int64)) (k_captured : (Nat → Int32)) (y2 : Int32) (y3 : Int64) (y4 : Int64) (rr : Int32) (hf : f_X3_fullest N y2 y3 y4 i_p1_inputs k_risers k_fallers k_captured = some (rr)) : MetIr l yX3_fullest wsX3_fullest rmX3_fullest D (tyA cI cJ cZ cS) [(a_this, .inr (3, [.ref a_levels, .ref a_sureLinks, .ref a_risers, .ref a_fallers, .ref a_captured, .int i_this_madeFor])), (a_p1, .inr (2, [.int i_p1_inputs, .int i_p1_gates, .int i_p1_paths, .ref a_p1_told, .ref a_p1_lefts, .ref a_p1_rights, .ref a_p1_nexts, .ref a_p1_starts, .ref a_p1_sizes, .ref a_p1_steps, .ref a_p1_links])), (a_risers, .inl (cJ, 256, .inr (.inl k_risers))), (a_fallers, .inl (cJ, 256, .inr (.inl k_fallers))), (a_captured, .inl (cI, 16, .inl k_captured))] sz [.ref a_this, .ref a_p1, .int y2, .long y3, .long y4] rr := by
  refine entIr (cc := cX3_fullest) (maxL := 11) (own := RX3) (by decide) rfl rfl (Nat.le_of_ble_eq_true rfl) ?_
  intro p e s m args below meth c A ls Q S hr hw hl hQ
  have hx := S.1.1
  have hb := S.1.2.1
  have hts := S.1.2.2.2.2
  have hl : lv_has ls 11 [(0, .ref a_this), (1, .ref a_p1), (2, .int y2), (3, .long y3), (5, .long y4)] := hl
  have hinX3 : ∀ w ∈ u_ws RX3 TX3 6, w ∈ wsX3_fullest := (fun _ h => List.mem_cons_of_mem _ (List.mem_append_left _ (List.mem_append_right _ h)))
  have F22 : FLk s args wsX3_fullest RX3 22 RX3 TX3 6 3 2 := ⟨hinX3, rfl, by decide, hts (.fieldLink RX3 22 "SlowPaths$PairTable" "risers" "[J") (List.mem_of_getElem? (i := 1) rfl)⟩
  have F26 : FLk s args wsX3_fullest RX3 26 RX3 TX3 6 3 3 := ⟨hinX3, rfl, by decide, hts (.fieldLink RX3 26 "SlowPaths$PairTable" "fallers" "[J") (List.mem_of_getElem? (i := 3) rfl)⟩
  have h := hf
  rw [f_X3_fullest] at h
  refine lv_iconst (v := (0 : Int32)) hx hb dX3_fullest_0 (by decide) ?_
  refine lv_istore (lv' := [(7, .int (0 : Int32)), (0, .ref a_this), (1, .ref a_p1), (2, .int y2), (3, .long y3), (5, .long y4)]) hx hb dX3_fullest_1 hl (by decide) rfl (fun ls hl => ?_)
  refine lv_bipush (v := (-9 : Int32)) hx hb dX3_fullest_3 (by decide) ?_
  refine lv_istore (lv' := [(8, .int (-9 : Int32)), (7, .int (0 : Int32)), (0, .ref a_this), (1, .ref a_p1), (2, .int y2), (3, .long y3), (5, .long y4)]) hx hb dX3_fullest_5 hl (by decide) rfl (fun ls hl => ?_)
  refine lv_iconst (v := (0 : Int32)) hx hb dX3_fullest_7 (by decide) ?_
  refine lv_istore (lv' := [(9, .int (0 : Int32)), (8, .int (-9 : Int32)), (7, .int (0 : Int32)), (0, .ref a_this), (1, .ref a_p1), (2, .int y2), (3, .long y3), (5, .long y4)]) hx hb dX3_fullest_8 hl (by decide) rfl (fun ls hl => ?_)
  obtain ⟨j86_1, ej86_1, h⟩ := bnd_ex h
  have hj86_1 : ∀ (x8_1 : Int32) (ls : Array Slot), j86_1 x8_1 = some (rr) → lv_has ls 11 [(8, .int x8_1)] → W p l e rmX3_fullest s m args below meth c s.heap [] 0 0 Q (F0 m 86 ls []) := by
    intro x8_1 ls h hl
    replace h := ap1 ej86_1 h
    refine lv_iload hx hb dX3_fullest_86 (lv_at hl 0 rfl) ?_
    cases h
    exact z_iretr S hQ hr dX3_fullest_88
  have hL10_1 : ∀ (nf : Nat) (x7_2 : Int32) (x8_3 : Int32) (x9_4 : Int32) (ls : Array Slot), f_X3_fullest_L10 N y2 y3 y4 i_p1_inputs k_risers k_fallers k_captured j86_1 nf x7_2 x8_3 x9_4 = some (rr) → lv_has ls 11 [(0, .ref a_this), (1, .ref a_p1), (2, .int y2), (3, .long y3), (5, .long y4), (7, .int x7_2), (8, .int x8_3), (9, .int x9_4)] → W p l e rmX3_fullest s m args below meth c s.heap [] 0 0 Q (F0 m 10 ls []) := by
    intro nf
    induction nf with
    | zero =>
      intro x7_2 x8_3 x9_4 ls h
      rw [f_X3_fullest_L10] at h
      cases h
    | succ n_10 ih_10 =>
      intro x7_2 x8_3 x9_4 ls h hl
      rw [f_X3_fullest_L10] at h
      refine lv_iload hx hb dX3_fullest_10 (lv_at hl 7 rfl) ?_
      refine lv_sipush (v := (256 : Int32)) hx hb dX3_fullest_12 (by decide) ?_
      refine lv_icmp_ge (tgt := 86) hx hb dX3_fullest_15 (by decide) (fun hc => ?_) (fun hc => ?_)
      · replace h := if_t hc h
        exact hj86_1 x8_3 ls h (lv_sub hl [6] rfl)
      · replace h := if_f hc h
        refine lv_aload_n hx hb dX3_fullest_18 rfl (lv_at hl 0 rfl) ?_
        refine z_get S hw F22 0 rfl rfl dX3_fullest_19 ?_
        refine lv_iload hx hb dX3_fullest_22 (lv_at hl 7 rfl) ?_
        obtain ⟨hg, h⟩ := grd_el h
        refine z_lald S hw 2 1 rfl rfl hg dX3_fullest_24 ?_
        refine lv_lload_n hx hb dX3_fullest_25 rfl (lv_at hl 3 rfl) ?_
        refine lv_ldc2 (v := (-1 : Int64)) hx hb S.1.2.2.2.1 (hts (.constantLong RX3 115 (-1)) (List.mem_of_getElem? (i := 2) rfl)) dX3_fullest_26 ?_
        refine lv_lxor hx hb dX3_fullest_29 ?_
        refine lv_land hx hb dX3_fullest_30 ?_
        obtain ⟨r_5, e31_1, h⟩ := obd1_el h
        refine zr_SI (As := [.long ((k_risers x9_4.toNatClampNeg) &&& (y3 ^^^ (-1 : Int64)))]) (rest := []) (q0 := 0) (ci := 0) (fs := []) (qc := (RX0, TX0, 4)) S hw (c_J13_bitCount_95d88 l D cI cJ cZ cS s.heap.size N ((k_risers x9_4.toNatClampNeg) &&& (y3 ^^^ (-1 : Int64))) r_5 e31_1) (va_cwS 1 hts gX3_fullest_J13_bitCount_95d88 rfl rfl rfl ds_J13_bitCount_95d88 ⟨Nat.le_of_ble_eq_true rfl, Nat.le_of_ble_eq_true rfl⟩) [] rfl rfl rfl hl.1 rfl (Nat.le_of_ble_eq_true rfl) dX3_fullest_31 ⟨Nat.zero_le _, Nat.zero_le _⟩ ?_
        refine lv_aload_n hx hb dX3_fullest_34 rfl (lv_at hl 0 rfl) ?_
        refine z_get S hw F26 0 rfl rfl dX3_fullest_35 ?_
        refine lv_iload hx hb dX3_fullest_38 (lv_at hl 7 rfl) ?_
        obtain ⟨hg, h⟩ := grd_el h
        refine z_lald S hw 3 1 rfl rfl hg dX3_fullest_40 ?_
        refine lv_lload hx hb dX3_fullest_41 (lv_at hl 4 rfl) ?_
        refine lv_ldc2 (v := (-1 : Int64)) hx hb S.1.2.2.2.1 (hts (.constantLong RX3 115 (-1)) (List.mem_of_getElem? (i := 2) rfl)) dX3_fullest_43 ?_
        refine lv_lxor hx hb dX3_fullest_46 ?_
        refine lv_land hx hb dX3_fullest_47 ?_
        obtain ⟨r_6, e48_1, h⟩ := obd1_el h
        refine zr_SI (As := [.long ((k_fallers x9_4.toNatClampNeg) &&& (y4 ^^^ (-1 : Int64)))]) (rest := [.int r_5]) (q0 := 0) (ci := 0) (fs := []) (qc := (RX0, TX0, 4)) S hw (c_J13_bitCount_95d88 l D cI cJ cZ cS s.heap.size N ((k_fallers x9_4.toNatClampNeg) &&& (y4 ^^^ (-1 : Int64))) r_6 e48_1) (va_cwS 1 hts gX3_fullest_J13_bitCount_95d88 rfl rfl rfl ds_J13_bitCount_95d88 ⟨Nat.le_of_ble_eq_true rfl, Nat.le_of_ble_eq_true rfl⟩) [] rfl rfl rfl hl.1 rfl (Nat.le_of_ble_eq_true rfl) dX3_fullest_48 ⟨Nat.zero_le _, Nat.zero_le _⟩ ?_
        refine lv_iadd hx hb dX3_fullest_51 ?_
        refine lv_topi (fun x10_7 ex10_7 => ?_)
        replace h := bnd_at ex10_7 h
        refine lv_istore (lv' := [(10, .int x10_7), (0, .ref a_this), (1, .ref a_p1), (2, .int y2), (3, .long y3), (5, .long y4), (7, .int x7_2), (8, .int x8_3), (9, .int x9_4)]) hx hb dX3_fullest_52 hl (by decide) rfl (fun ls hl => ?_)
        refine lv_iload hx hb dX3_fullest_54 (lv_at hl 0 rfl) ?_
        refine lv_iload hx hb dX3_fullest_56 (lv_at hl 6 rfl) ?_
        obtain ⟨j80_1, ej80_1, h⟩ := bnd_ex h
        have hj80_1 : ∀ (x7_8 : Int32) (x8_9 : Int32) (ls : Array Slot), j80_1 x7_8 x8_9 = some (rr) → lv_has ls 11 [(0, .ref a_this), (1, .ref a_p1), (2, .int y2), (3, .long y3), (5, .long y4), (7, .int x7_8), (8, .int x8_9), (9, .int x9_4)] → W p l e rmX3_fullest s m args below meth c s.heap [] 0 0 Q (F0 m 80 ls []) := by
          intro x7_8 x8_9 ls h hl
          replace h := ap2 ej80_1 h
          obtain ⟨x9_10, ex9_10, h⟩ := bnd_ex h
          refine lv_iinc (v := x9_10) (lv' := [(9, .int x9_10), (0, .ref a_this), (1, .ref a_p1), (2, .int y2), (3, .long y3), (5, .long y4), (7, .int x7_8), (8, .int x8_9)]) hx hb dX3_fullest_80 hl (k := 7) rfl (by rw [ex9_10]; rfl) (by decide) rfl (fun ls hl => ?_)
          refine lv_goto (tgt := 10) hx hb dX3_fullest_83 (by decide) ?_
          exact ih_10 x7_8 x8_9 x9_10 ls h (lv_sub hl [1, 2, 3, 4, 5, 6, 7, 0] rfl)
        refine lv_icmp_le (tgt := 80) hx hb dX3_fullest_58 (by decide) (fun hc => ?_) (fun hc => ?_)
        · replace h := if_t hc h
          exact hj80_1 x7_2 x8_3 ls h (lv_sub hl [1, 2, 3, 4, 5, 6, 7, 8] rfl)
        · replace h := if_f hc h
          refine lv_aload_n hx hb dX3_fullest_61 rfl (lv_at hl 1 rfl) ?_
          refine lv_aload_n hx hb dX3_fullest_62 rfl (lv_at hl 2 rfl) ?_
          refine lv_iload_n hx hb dX3_fullest_63 rfl (lv_at hl 3 rfl) ?_
          refine lv_iload hx hb dX3_fullest_64 (lv_at hl 8 rfl) ?_
          obtain ⟨r_11, e66_1, h⟩ := obd1_el h
          refine zr_VI (As := [.ref a_p1, .int y2, .int x9_4]) (rest := []) (q0 := 1) S hw (c_X3_isLaunched l D cI cJ cZ cS s.heap.size N a_p1 a_this a_captured a_p1_told a_p1_lefts a_p1_rights a_p1_nexts a_p1_starts a_p1_sizes a_p1_steps a_p1_links a_levels a_sureLinks a_risers a_fallers i_p1_inputs i_p1_gates i_p1_paths i_this_madeFor k_captured y2 x9_4 r_11 e66_1) (cwV 3 hts gX3_fullest_X3_isLaunched rfl rfl rfl dv_X3_isLaunched ⟨Nat.le_of_ble_eq_true rfl, Nat.le_of_ble_eq_true rfl⟩) [1, 0, 4] rfl rfl rfl rfl rfl rfl hl.1 rfl (Nat.le_of_ble_eq_true rfl) dX3_fullest_66 ⟨Nat.zero_le _, Nat.zero_le _⟩ ?_
          refine lv_if_eq (tgt := 80) hx hb dX3_fullest_69 (by decide) (fun hc => ?_) (fun hc => ?_)
          · replace h := if_t hc h
            exact hj80_1 x7_2 x8_3 ls h (lv_sub hl [1, 2, 3, 4, 5, 6, 7, 8] rfl)
          · replace h := if_f hc h
            refine lv_iload hx hb dX3_fullest_72 (lv_at hl 0 rfl) ?_
            refine lv_istore (lv' := [(7, .int x10_7), (10, .int x10_7), (0, .ref a_this), (1, .ref a_p1), (2, .int y2), (3, .long y3), (5, .long y4), (8, .int x8_3), (9, .int x9_4)]) hx hb dX3_fullest_74 hl (by decide) rfl (fun ls hl => ?_)
            refine lv_iload hx hb dX3_fullest_76 (lv_at hl 8 rfl) ?_
            refine lv_istore (lv' := [(8, .int x9_4), (7, .int x10_7), (10, .int x10_7), (0, .ref a_this), (1, .ref a_p1), (2, .int y2), (3, .long y3), (5, .long y4), (9, .int x9_4)]) hx hb dX3_fullest_78 hl (by decide) rfl (fun ls hl => ?_)
            exact hj80_1 x10_7 x9_4 ls h (lv_sub hl [3, 4, 5, 6, 7, 1, 0, 8] rfl)
  exact hL10_1 N ((0 : Int32)) ((-9 : Int32)) ((0 : Int32)) ls h (lv_sub hl [3, 4, 5, 6, 7, 2, 1, 0] rfl)
abbrev rmX3_pack : Room := { frames := 3, cells := 0, slots := 0, locals := 75 }
theorem dv_X3_pack : yX3_pack.cls = RX3 ∧ yX3_pack.cls ≠ "java/lang/invoke/MethodHandle" ∧ yX3_pack.cls ≠ "java/lang/invoke/VarHandle" ∧ (parseMethodDescriptor yX3_pack.desc).map (fun d => d.parameters.length) = some 3 := by decide +kernel
noncomputable def f_X3_pack_L9 (N : Nat) (y2 : Int32) (y3 : Int32) (i_p1_inputs : Int32) (k_risers : (Nat → Int64)) (k_fallers : (Nat → Int64)) (k_captured : (Nat → Int32)) (j87_1 : Option (Int32)) : Nat → Int64 → Int64 → Int32 → Option (Int32)
  | 0, _, _, _ => none
  | n_9 + 1, x4_1, x6_2, x8_3 =>
    (if (110 : Int32) < x8_3 then (j87_1) else (obd1 (f_X3_fullest N y2 x4_1 x6_2 i_p1_inputs k_risers k_fallers k_captured) fun (r_4 : Int32) => (if r_4 = (-9 : Int32) then ((if y3 = (-1 : Int32) then (some (x8_3)) else (some ((-9 : Int32))))) else ((if x8_3 = y3 then (some (r_4)) else (grd (inb r_4 256) <| bnd ((x4_1 ||| (k_risers r_4.toNatClampNeg))) fun (x4_5 : Int64) => grd (inb r_4 256) <| bnd ((x6_2 ||| (k_fallers r_4.toNatClampNeg))) fun (x6_6 : Int64) => bnd (x8_3 + (1 : Int32)) fun (x8_7 : Int32) => f_X3_pack_L9 N y2 y3 i_p1_inputs k_risers k_fallers k_captured j87_1 n_9 x4_5 x6_6 x8_7))))))
noncomputable def f_X3_pack (N : Nat) (y2 : Int32) (y3 : Int32) (i_p1_inputs : Int32) (k_risers : (Nat → Int64)) (k_fallers : (Nat → Int64)) (k_captured : (Nat → Int32)) : Option (Int32) :=
  bnd (α := Option (Int32)) (some ((-9 : Int32))) fun (j87_1 : Option (Int32)) => f_X3_pack_L9 N y2 y3 i_p1_inputs k_risers k_fallers k_captured j87_1 N ((0 : Int64)) ((0 : Int64)) ((0 : Int32))
set_option maxHeartbeats 4000000 in
set_option maxRecDepth 100000 in
theorem c_X3_pack (l : Launch) (D : va_G) (cI cJ cZ cS : ClassId) (sz N : Nat) (a_this a_p1 a_risers a_fallers a_captured a_levels a_sureLinks a_p1_told a_p1_lefts a_p1_rights a_p1_nexts a_p1_starts a_p1_sizes a_p1_steps a_p1_links : Nat) (i_this_madeFor : Int32) (i_p1_inputs : Int32) (i_p1_gates : Int32) (i_p1_paths : Int32) (k_risers : (Nat → Int64)) (k_fallers : (Nat → Int64)) (k_captured : (Nat → Int32)) (y2 : Int32) (y3 : Int32) (rr : Int32) (hf : f_X3_pack N y2 y3 i_p1_inputs k_risers k_fallers k_captured = some (rr)) : MetIr l yX3_pack wsX3_pack rmX3_pack D (tyA cI cJ cZ cS) [(a_this, .inr (3, [.ref a_levels, .ref a_sureLinks, .ref a_risers, .ref a_fallers, .ref a_captured, .int i_this_madeFor])), (a_p1, .inr (2, [.int i_p1_inputs, .int i_p1_gates, .int i_p1_paths, .ref a_p1_told, .ref a_p1_lefts, .ref a_p1_rights, .ref a_p1_nexts, .ref a_p1_starts, .ref a_p1_sizes, .ref a_p1_steps, .ref a_p1_links])), (a_risers, .inl (cJ, 256, .inr (.inl k_risers))), (a_fallers, .inl (cJ, 256, .inr (.inl k_fallers))), (a_captured, .inl (cI, 16, .inl k_captured))] sz [.ref a_this, .ref a_p1, .int y2, .int y3] rr := by
  refine entIr (cc := cX3_pack) (maxL := 10) (own := RX3) (by decide) rfl rfl (Nat.le_of_ble_eq_true rfl) ?_
  intro p e s m args below meth c A ls Q S hr hw hl hQ
  have hx := S.1.1
  have hb := S.1.2.1
  have hts := S.1.2.2.2.2
  have hl : lv_has ls 10 [(0, .ref a_this), (1, .ref a_p1), (2, .int y2), (3, .int y3)] := hl
  have hinX3 : ∀ w ∈ u_ws RX3 TX3 6, w ∈ wsX3_pack := (fun _ h => List.mem_cons_of_mem _ (List.mem_append_left _ (List.mem_append_right _ h)))
  have F22 : FLk s args wsX3_pack RX3 22 RX3 TX3 6 3 2 := ⟨hinX3, rfl, by decide, hts (.fieldLink RX3 22 "SlowPaths$PairTable" "risers" "[J") (List.mem_of_getElem? (i := 1) rfl)⟩
  have F26 : FLk s args wsX3_pack RX3 26 RX3 TX3 6 3 3 := ⟨hinX3, rfl, by decide, hts (.fieldLink RX3 26 "SlowPaths$PairTable" "fallers" "[J") (List.mem_of_getElem? (i := 2) rfl)⟩
  have h := hf
  rw [f_X3_pack] at h
  refine lv_lconst (v := (0 : Int64)) hx hb dX3_pack_0 (by decide) ?_
  refine lv_lstore (lv' := [(4, .long (0 : Int64)), (0, .ref a_this), (1, .ref a_p1), (2, .int y2), (3, .int y3)]) hx hb dX3_pack_1 hl (by decide) rfl (fun ls hl => ?_)
  refine lv_lconst (v := (0 : Int64)) hx hb dX3_pack_3 (by decide) ?_
  refine lv_lstore (lv' := [(6, .long (0 : Int64)), (4, .long (0 : Int64)), (0, .ref a_this), (1, .ref a_p1), (2, .int y2), (3, .int y3)]) hx hb dX3_pack_4 hl (by decide) rfl (fun ls hl => ?_)
  refine lv_iconst (v := (0 : Int32)) hx hb dX3_pack_6 (by decide) ?_
  refine lv_istore (lv' := [(8, .int (0 : Int32)), (6, .long (0 : Int64)), (4, .long (0 : Int64)), (0, .ref a_this), (1, .ref a_p1), (2, .int y2), (3, .int y3)]) hx hb dX3_pack_7 hl (by decide) rfl (fun ls hl => ?_)
  obtain ⟨j87_1, ej87_1, h⟩ := bnd_ex h
  have hj87_1 : ∀ (ls : Array Slot), j87_1 = some (rr) → lv_has ls 10 [] → W p l e rmX3_pack s m args below meth c s.heap [] 0 0 Q (F0 m 87 ls []) := by
    intro ls h hl
    replace h := ap0 ej87_1 h
    refine lv_bipush (v := (-9 : Int32)) hx hb dX3_pack_87 (by decide) ?_
    cases h
    exact z_iretr S hQ hr dX3_pack_89
  have hL9_1 : ∀ (nf : Nat) (x4_1 : Int64) (x6_2 : Int64) (x8_3 : Int32) (ls : Array Slot), f_X3_pack_L9 N y2 y3 i_p1_inputs k_risers k_fallers k_captured j87_1 nf x4_1 x6_2 x8_3 = some (rr) → lv_has ls 10 [(0, .ref a_this), (1, .ref a_p1), (2, .int y2), (3, .int y3), (4, .long x4_1), (6, .long x6_2), (8, .int x8_3)] → W p l e rmX3_pack s m args below meth c s.heap [] 0 0 Q (F0 m 9 ls []) := by
    intro nf
    induction nf with
    | zero =>
      intro x4_1 x6_2 x8_3 ls h
      rw [f_X3_pack_L9] at h
      cases h
    | succ n_9 ih_9 =>
      intro x4_1 x6_2 x8_3 ls h hl
      rw [f_X3_pack_L9] at h
      refine lv_iload hx hb dX3_pack_9 (lv_at hl 6 rfl) ?_
      refine lv_bipush (v := (110 : Int32)) hx hb dX3_pack_11 (by decide) ?_
      refine lv_icmp_gt (tgt := 87) hx hb dX3_pack_13 (by decide) (fun hc => ?_) (fun hc => ?_)
      · replace h := if_t hc h
        exact hj87_1  ls h (lv_sub hl [] rfl)
      · replace h := if_f hc h
        refine lv_aload_n hx hb dX3_pack_16 rfl (lv_at hl 0 rfl) ?_
        refine lv_aload_n hx hb dX3_pack_17 rfl (lv_at hl 1 rfl) ?_
        refine lv_iload_n hx hb dX3_pack_18 rfl (lv_at hl 2 rfl) ?_
        refine lv_lload hx hb dX3_pack_19 (lv_at hl 4 rfl) ?_
        refine lv_lload hx hb dX3_pack_21 (lv_at hl 5 rfl) ?_
        obtain ⟨r_4, e23_1, h⟩ := obd1_el h
        refine zr_VI (As := [.ref a_p1, .int y2, .long x4_1, .long x6_2]) (rest := []) (q0 := 0) S hw (c_X3_fullest l D cI cJ cZ cS s.heap.size N a_this a_p1 a_risers a_fallers a_captured a_levels a_sureLinks a_p1_told a_p1_lefts a_p1_rights a_p1_nexts a_p1_starts a_p1_sizes a_p1_steps a_p1_links i_this_madeFor i_p1_inputs i_p1_gates i_p1_paths k_risers k_fallers k_captured y2 x4_1 x6_2 r_4 e23_1) (cwV 4 hts gX3_pack_X3_fullest rfl rfl rfl dv_X3_fullest ⟨Nat.le_of_ble_eq_true rfl, Nat.le_of_ble_eq_true rfl⟩) [0, 1, 2, 3, 4] rfl rfl rfl rfl rfl rfl hl.1 rfl (Nat.le_of_ble_eq_true rfl) dX3_pack_23 ⟨Nat.zero_le _, Nat.zero_le _⟩ ?_
        refine lv_istore (lv' := [(9, .int r_4), (0, .ref a_this), (1, .ref a_p1), (2, .int y2), (3, .int y3), (4, .long x4_1), (6, .long x6_2), (8, .int x8_3)]) hx hb dX3_pack_26 hl (by decide) rfl (fun ls hl => ?_)
        refine lv_iload hx hb dX3_pack_28 (lv_at hl 0 rfl) ?_
        refine lv_bipush (v := (-9 : Int32)) hx hb dX3_pack_30 (by decide) ?_
        refine lv_icmp_ne (tgt := 48) hx hb dX3_pack_32 (by decide) (fun hc => ?_) (fun hc => ?_)
        · replace h := if_f hc h
          refine lv_iload hx hb dX3_pack_48 (lv_at hl 7 rfl) ?_
          refine lv_iload_n hx hb dX3_pack_50 rfl (lv_at hl 4 rfl) ?_
          refine lv_icmp_ne (tgt := 57) hx hb dX3_pack_51 (by decide) (fun hc => ?_) (fun hc => ?_)
          · replace h := if_f hc h
            refine lv_lload hx hb dX3_pack_57 (lv_at hl 5 rfl) ?_
            refine lv_aload_n hx hb dX3_pack_59 rfl (lv_at hl 1 rfl) ?_
            refine z_get S hw F22 0 rfl rfl dX3_pack_60 ?_
            refine lv_iload hx hb dX3_pack_63 (lv_at hl 0 rfl) ?_
            obtain ⟨hg, h⟩ := grd_el h
            refine z_lald S hw 2 1 rfl rfl hg dX3_pack_65 ?_
            refine lv_lor hx hb dX3_pack_66 ?_
            refine lv_topl (fun x4_5 ex4_5 => ?_)
            replace h := bnd_at ex4_5 h
            refine lv_lstore (lv' := [(4, .long x4_5), (9, .int r_4), (0, .ref a_this), (1, .ref a_p1), (2, .int y2), (3, .int y3), (6, .long x6_2), (8, .int x8_3)]) hx hb dX3_pack_67 hl (by decide) rfl (fun ls hl => ?_)
            refine lv_lload hx hb dX3_pack_69 (lv_at hl 6 rfl) ?_
            refine lv_aload_n hx hb dX3_pack_71 rfl (lv_at hl 2 rfl) ?_
            refine z_get S hw F26 0 rfl rfl dX3_pack_72 ?_
            refine lv_iload hx hb dX3_pack_75 (lv_at hl 1 rfl) ?_
            obtain ⟨hg, h⟩ := grd_el h
            refine z_lald S hw 3 1 rfl rfl hg dX3_pack_77 ?_
            refine lv_lor hx hb dX3_pack_78 ?_
            refine lv_topl (fun x6_6 ex6_6 => ?_)
            replace h := bnd_at ex6_6 h
            refine lv_lstore (lv' := [(6, .long x6_6), (4, .long x4_5), (9, .int r_4), (0, .ref a_this), (1, .ref a_p1), (2, .int y2), (3, .int y3), (8, .int x8_3)]) hx hb dX3_pack_79 hl (by decide) rfl (fun ls hl => ?_)
            obtain ⟨x8_7, ex8_7, h⟩ := bnd_ex h
            refine lv_iinc (v := x8_7) (lv' := [(8, .int x8_7), (6, .long x6_6), (4, .long x4_5), (9, .int r_4), (0, .ref a_this), (1, .ref a_p1), (2, .int y2), (3, .int y3)]) hx hb dX3_pack_81 hl (k := 7) rfl (by rw [ex8_7]; rfl) (by decide) rfl (fun ls hl => ?_)
            refine lv_goto (tgt := 9) hx hb dX3_pack_84 (by decide) ?_
            exact ih_9 x4_5 x6_6 x8_7 ls h (lv_sub hl [4, 5, 6, 7, 2, 1, 0] rfl)
          · replace h := if_t hc h
            refine lv_iload hx hb dX3_pack_54 (lv_at hl 0 rfl) ?_
            cases h
            exact z_iretr S hQ hr dX3_pack_56
        · replace h := if_t hc h
          refine lv_iload_n hx hb dX3_pack_35 rfl (lv_at hl 4 rfl) ?_
          refine lv_iconst (v := (-1 : Int32)) hx hb dX3_pack_36 (by decide) ?_
          refine lv_icmp_ne (tgt := 45) hx hb dX3_pack_37 (by decide) (fun hc => ?_) (fun hc => ?_)
          · replace h := if_f hc h
            refine lv_bipush (v := (-9 : Int32)) hx hb dX3_pack_45 (by decide) ?_
            cases h
            exact z_iretr S hQ hr dX3_pack_47
          · replace h := if_t hc h
            refine lv_iload hx hb dX3_pack_40 (lv_at hl 7 rfl) ?_
            refine lv_goto (tgt := 47) hx hb dX3_pack_42 (by decide) ?_
            cases h
            exact z_iretr S hQ hr dX3_pack_47
  exact hL9_1 N ((0 : Int64)) ((0 : Int64)) ((0 : Int32)) ls h (lv_sub hl [3, 4, 5, 6, 2, 1, 0] rfl)
abbrev rmX4_letter : Room := { frames := 0, cells := 0, slots := 0, locals := 0 }
theorem dv_X4_letter : yX4_letter.cls = RX4 ∧ yX4_letter.cls ≠ "java/lang/invoke/MethodHandle" ∧ yX4_letter.cls ≠ "java/lang/invoke/VarHandle" ∧ (parseMethodDescriptor yX4_letter.desc).map (fun d => d.parameters.length) = some 0 := by decide +kernel
noncomputable def f_X4_letter (N : Nat)  (i_this_size : Int32) (i_this_at : Int32) (k_letters : (Nat → Int32)) : Option (Int32) :=
  bnd (α := Option (Int32)) (some ((-9 : Int32))) fun (j32_1 : Option (Int32)) => (if i_this_size ≤ i_this_at then (j32_1) else ((if (40 : Int32) ≤ i_this_at then (j32_1) else (grd (inb i_this_at 40) <| some ((k_letters i_this_at.toNatClampNeg))))))
set_option maxHeartbeats 4000000 in
set_option maxRecDepth 100000 in
theorem c_X4_letter (l : Launch) (D : va_G) (cI cJ cZ cS : ClassId) (sz N : Nat) (a_this a_letters : Nat) (i_this_size : Int32) (i_this_at : Int32) (k_letters : (Nat → Int32))  (rr : Int32) (hf : f_X4_letter N i_this_size i_this_at k_letters = some (rr)) : MetIr l yX4_letter wsX4_letter rmX4_letter D (tyA cI cJ cZ cS) [(a_this, .inr (4, [.ref a_letters, .int i_this_size, .int i_this_at])), (a_letters, .inl (cI, 40, .inl k_letters))] sz [.ref a_this] rr := by
  refine entIr (cc := cX4_letter) (maxL := 1) (own := RX4) (by decide) rfl rfl (Nat.le_of_ble_eq_true rfl) ?_
  intro p e s m args below meth c A ls Q S hr hw hl hQ
  have hx := S.1.1
  have hb := S.1.2.1
  have hts := S.1.2.2.2.2
  have hl : lv_has ls 1 [(0, .ref a_this)] := hl
  have hinX4 : ∀ w ∈ u_ws RX4 TX4 3, w ∈ wsX4_letter := (fun _ h => List.mem_cons_of_mem _ (List.mem_append_right _ h))
  have F9 : FLk s args wsX4_letter RX4 9 RX4 TX4 3 4 0 := ⟨hinX4, rfl, by decide, hts (.fieldLink RX4 9 "SlowPaths$Script" "letters" "[I") (List.mem_of_getElem? (i := 3) rfl)⟩
  have F15 : FLk s args wsX4_letter RX4 15 RX4 TX4 3 4 1 := ⟨hinX4, rfl, by decide, hts (.fieldLink RX4 15 "SlowPaths$Script" "size" "I") (List.mem_of_getElem? (i := 2) rfl)⟩
  have F19 : FLk s args wsX4_letter RX4 19 RX4 TX4 3 4 2 := ⟨hinX4, rfl, by decide, hts (.fieldLink RX4 19 "SlowPaths$Script" "at" "I") (List.mem_of_getElem? (i := 1) rfl)⟩
  have h := hf
  rw [f_X4_letter] at h
  refine lv_aload_n hx hb dX4_letter_0 rfl (lv_at hl 0 rfl) ?_
  refine z_get S hw F19 0 rfl rfl dX4_letter_1 ?_
  refine lv_aload_n hx hb dX4_letter_4 rfl (lv_at hl 0 rfl) ?_
  refine z_get S hw F15 0 rfl rfl dX4_letter_5 ?_
  obtain ⟨j32_1, ej32_1, h⟩ := bnd_ex h
  have hj32_1 : ∀ (ls : Array Slot), j32_1 = some (rr) → lv_has ls 1 [] → W p l e rmX4_letter s m args below meth c s.heap [] 0 0 Q (F0 m 32 ls []) := by
    intro ls h hl
    replace h := ap0 ej32_1 h
    refine lv_bipush (v := (-9 : Int32)) hx hb dX4_letter_32 (by decide) ?_
    cases h
    exact z_iretr S hQ hr dX4_letter_34
  refine lv_icmp_ge (tgt := 32) hx hb dX4_letter_8 (by decide) (fun hc => ?_) (fun hc => ?_)
  · replace h := if_t hc h
    exact hj32_1  ls h (lv_sub hl [] rfl)
  · replace h := if_f hc h
    refine lv_aload_n hx hb dX4_letter_11 rfl (lv_at hl 0 rfl) ?_
    refine z_get S hw F19 0 rfl rfl dX4_letter_12 ?_
    refine lv_bipush (v := (40 : Int32)) hx hb dX4_letter_15 (by decide) ?_
    refine lv_icmp_ge (tgt := 32) hx hb dX4_letter_17 (by decide) (fun hc => ?_) (fun hc => ?_)
    · replace h := if_t hc h
      exact hj32_1  ls h (lv_sub hl [] rfl)
    · replace h := if_f hc h
      refine lv_aload_n hx hb dX4_letter_20 rfl (lv_at hl 0 rfl) ?_
      refine z_get S hw F9 0 rfl rfl dX4_letter_21 ?_
      refine lv_aload_n hx hb dX4_letter_24 rfl (lv_at hl 0 rfl) ?_
      refine z_get S hw F19 0 rfl rfl dX4_letter_25 ?_
      obtain ⟨hg, h⟩ := grd_el h
      refine z_iald S hw 1 0 rfl rfl hg dX4_letter_28 ?_
      refine lv_goto (tgt := 34) hx hb dX4_letter_29 (by decide) ?_
      cases h
      exact z_iretr S hQ hr dX4_letter_34
abbrev rmX4_readHead : Room := { frames := 1, cells := 0, slots := 0, locals := 20 }
theorem dv_X4_readHead : yX4_readHead.cls = RX4 ∧ yX4_readHead.cls ≠ "java/lang/invoke/MethodHandle" ∧ yX4_readHead.cls ≠ "java/lang/invoke/VarHandle" ∧ (parseMethodDescriptor yX4_readHead.desc).map (fun d => d.parameters.length) = some 1 := by decide +kernel
noncomputable def f_X4_readHead (N : Nat)  (i_this_size : Int32) (i_this_at : Int32) (i_p1_inputs : Int32) (k_letters : (Nat → Int32)) : Option (Int32 × Int32 × Int32) :=
  obd1 (f_X4_letter N i_this_size i_this_at k_letters) fun (r_1 : Int32) => (if r_1 = (67 : Int32) then (bnd ((i_this_at + (1 : Int32))) fun (i_at_2 : Int32) => obd1 (f_X4_letter N i_this_size i_at_2 k_letters) fun (r_3 : Int32) => bnd ((r_3 - (48 : Int32))) fun (x2_4 : Int32) => (if x2_4 < (1 : Int32) then (some ((0 : Int32), i_at_2, i_p1_inputs)) else ((if x2_4 ≤ (4 : Int32) then (bnd ((i_at_2 + (1 : Int32))) fun (i_at_5 : Int32) => some ((1 : Int32), i_at_5, x2_4)) else (some ((0 : Int32), i_at_2, i_p1_inputs)))))) else (some ((0 : Int32), i_this_at, i_p1_inputs)))
set_option maxHeartbeats 4000000 in
set_option maxRecDepth 100000 in
theorem c_X4_readHead (l : Launch) (D : va_G) (cI cJ cZ cS : ClassId) (sz N : Nat) (a_this a_p1 a_letters a_p1_told a_p1_lefts a_p1_rights a_p1_nexts a_p1_starts a_p1_sizes a_p1_steps a_p1_links : Nat) (i_this_size : Int32) (i_this_at : Int32) (i_p1_inputs : Int32) (i_p1_gates : Int32) (i_p1_paths : Int32) (k_letters : (Nat → Int32))  (rr : Int32) (o_this_at : Int32) (o_p1_inputs : Int32) (hf : f_X4_readHead N i_this_size i_this_at i_p1_inputs k_letters = some (rr, o_this_at, o_p1_inputs)) : MetI l yX4_readHead wsX4_readHead rmX4_readHead D (tyA cI cJ cZ cS) [(a_this, .inr (4, [.ref a_letters, .int i_this_size, .int i_this_at])), (a_p1, .inr (2, [.int i_p1_inputs, .int i_p1_gates, .int i_p1_paths, .ref a_p1_told, .ref a_p1_lefts, .ref a_p1_rights, .ref a_p1_nexts, .ref a_p1_starts, .ref a_p1_sizes, .ref a_p1_steps, .ref a_p1_links])), (a_letters, .inl (cI, 40, .inl k_letters))] sz [.ref a_this, .ref a_p1] rr [(a_this, .inr (4, [.ref a_letters, .int i_this_size, .int o_this_at])), (a_p1, .inr (2, [.int o_p1_inputs, .int i_p1_gates, .int i_p1_paths, .ref a_p1_told, .ref a_p1_lefts, .ref a_p1_rights, .ref a_p1_nexts, .ref a_p1_starts, .ref a_p1_sizes, .ref a_p1_steps, .ref a_p1_links])), (a_letters, .inl (cI, 40, .inl k_letters))] := by
  refine entZ (cc := cX4_readHead) (maxL := 3) (own := RX4) (by decide) rfl rfl (Nat.le_of_ble_eq_true rfl) ?_
  intro p e s m args below meth c A ls Q H locs S hr hw hl hQ
  have hx := S.1.1
  have hb := S.1.2.1
  have hts := S.1.2.2.2.2
  have hl : lv_has ls 3 [(0, .ref a_this), (1, .ref a_p1)] := hl
  have hinX4 : ∀ w ∈ u_ws RX4 TX4 3, w ∈ wsX4_readHead := (fun _ h => List.mem_cons_of_mem _ (List.mem_append_left _ (List.mem_append_right _ h)))
  have F19 : FLk s args wsX4_readHead RX4 19 RX4 TX4 3 4 2 := ⟨hinX4, rfl, by decide, hts (.fieldLink RX4 19 "SlowPaths$Script" "at" "I") (List.mem_of_getElem? (i := 1) rfl)⟩
  have hinX2 : ∀ w ∈ u_ws RX2 TX2 11, w ∈ wsX4_readHead := (fun _ h => List.mem_cons_of_mem _ (List.mem_append_right _ h))
  have F22 : FLk s args wsX4_readHead RX4 22 RX2 TX2 11 2 0 := ⟨hinX2, rfl, by decide, hts (.fieldLink RX4 22 "SlowPaths$Net" "inputs" "I") (List.mem_of_getElem? (i := 2) rfl)⟩
  have P19 : PLk TX4 3 2 tyX4 false .int := ⟨tyX4_ok, nmX4, rfl, rfl⟩
  have P22 : PLk TX2 11 0 tyX2 false .int := ⟨tyX2_ok, nmX2, rfl, rfl⟩
  have h := hf
  rw [f_X4_readHead] at h
  refine lv_aload_n hx hb dX4_readHead_0 rfl (lv_at hl 0 rfl) ?_
  obtain ⟨r_1, e1_1, h⟩ := obd1_el h
  refine zr_VI (As := []) (rest := []) (q0 := 0) S hw (c_X4_letter l D cI cJ cZ cS H.size N a_this a_letters i_this_size i_this_at k_letters r_1 e1_1) (cwV 0 hts gX4_readHead_X4_letter rfl rfl rfl dv_X4_letter ⟨Nat.le_of_ble_eq_true rfl, Nat.le_of_ble_eq_true rfl⟩) [0, 2] rfl rfl rfl rfl rfl rfl hl.1 rfl (Nat.le_of_ble_eq_true rfl) dX4_readHead_1 ⟨Nat.zero_le _, Nat.zero_le _⟩ ?_
  refine lv_bipush (v := (67 : Int32)) hx hb dX4_readHead_4 (by decide) ?_
  refine lv_icmp_eq (tgt := 11) hx hb dX4_readHead_6 (by decide) (fun hc => ?_) (fun hc => ?_)
  · replace h := if_t hc h
    refine lv_aload_n hx hb dX4_readHead_11 rfl (lv_at hl 0 rfl) ?_
    refine lv_dup hx hb dX4_readHead_12 rfl ?_
    refine z_get S hw F19 0 rfl rfl dX4_readHead_13 ?_
    refine lv_iconst (v := (1 : Int32)) hx hb dX4_readHead_16 (by decide) ?_
    refine lv_iadd hx hb dX4_readHead_17 ?_
    refine lv_topi (fun i_at_2 ei_at_2 => ?_)
    replace h := bnd_at ei_at_2 h
    refine z_put S hw F19 P19 rfl rfl 0 rfl (Nat.le_of_ble_eq_true rfl) dX4_readHead_18 (fun H locs hw => ?_)
    refine lv_aload_n hx hb dX4_readHead_21 rfl (lv_at hl 0 rfl) ?_
    obtain ⟨r_3, e22_1, h⟩ := obd1_el h
    refine zr_VI (As := []) (rest := []) (q0 := 0) S hw (c_X4_letter l D cI cJ cZ cS H.size N a_this a_letters i_this_size i_at_2 k_letters r_3 e22_1) (cwV 0 hts gX4_readHead_X4_letter rfl rfl rfl dv_X4_letter ⟨Nat.le_of_ble_eq_true rfl, Nat.le_of_ble_eq_true rfl⟩) [0, 2] rfl rfl rfl rfl rfl rfl hl.1 rfl (Nat.le_of_ble_eq_true rfl) dX4_readHead_22 ⟨Nat.zero_le _, Nat.zero_le _⟩ ?_
    refine lv_bipush (v := (48 : Int32)) hx hb dX4_readHead_25 (by decide) ?_
    refine lv_isub hx hb dX4_readHead_27 ?_
    refine lv_topi (fun x2_4 ex2_4 => ?_)
    replace h := bnd_at ex2_4 h
    refine lv_istore_n (lv' := [(2, .int x2_4), (0, .ref a_this), (1, .ref a_p1)]) hx hb dX4_readHead_28 rfl hl (by decide) rfl (fun ls hl => ?_)
    refine lv_iload_n hx hb dX4_readHead_29 rfl (lv_at hl 0 rfl) ?_
    refine lv_iconst (v := (1 : Int32)) hx hb dX4_readHead_30 (by decide) ?_
    refine lv_icmp_lt (tgt := 39) hx hb dX4_readHead_31 (by decide) (fun hc => ?_) (fun hc => ?_)
    · replace h := if_t hc h
      refine lv_iconst (v := (0 : Int32)) hx hb dX4_readHead_39 (by decide) ?_
      cases h
      exact z_zret S hQ hr rfl hw [0, 1, 2] rfl rfl dX4_readHead_40
    · replace h := if_f hc h
      refine lv_iload_n hx hb dX4_readHead_34 rfl (lv_at hl 0 rfl) ?_
      refine lv_iconst (v := (4 : Int32)) hx hb dX4_readHead_35 (by decide) ?_
      refine lv_icmp_le (tgt := 41) hx hb dX4_readHead_36 (by decide) (fun hc => ?_) (fun hc => ?_)
      · replace h := if_t hc h
        refine lv_aload_n hx hb dX4_readHead_41 rfl (lv_at hl 1 rfl) ?_
        refine lv_dup hx hb dX4_readHead_42 rfl ?_
        refine z_get S hw F19 0 rfl rfl dX4_readHead_43 ?_
        refine lv_iconst (v := (1 : Int32)) hx hb dX4_readHead_46 (by decide) ?_
        refine lv_iadd hx hb dX4_readHead_47 ?_
        refine lv_topi (fun i_at_5 ei_at_5 => ?_)
        replace h := bnd_at ei_at_5 h
        refine z_put S hw F19 P19 rfl rfl 0 rfl (Nat.le_of_ble_eq_true rfl) dX4_readHead_48 (fun H locs hw => ?_)
        refine lv_aload_n hx hb dX4_readHead_51 rfl (lv_at hl 2 rfl) ?_
        refine lv_iload_n hx hb dX4_readHead_52 rfl (lv_at hl 0 rfl) ?_
        refine z_put S hw F22 P22 rfl rfl 1 rfl (Nat.le_of_ble_eq_true rfl) dX4_readHead_53 (fun H locs hw => ?_)
        refine lv_iconst (v := (1 : Int32)) hx hb dX4_readHead_56 (by decide) ?_
        cases h
        exact z_zret S hQ hr rfl hw [0, 1, 2] rfl rfl dX4_readHead_57
      · replace h := if_f hc h
        refine lv_iconst (v := (0 : Int32)) hx hb dX4_readHead_39 (by decide) ?_
        cases h
        exact z_zret S hQ hr rfl hw [0, 1, 2] rfl rfl dX4_readHead_40
  · replace h := if_f hc h
    refine lv_iconst (v := (0 : Int32)) hx hb dX4_readHead_9 (by decide) ?_
    cases h
    exact z_zret S hQ hr rfl hw [0, 1, 2] rfl rfl dX4_readHead_10
abbrev rmX4_kindOf : Room := { frames := 0, cells := 0, slots := 0, locals := 0 }
theorem ds_X4_kindOf : yX4_kindOf.cls ≠ "java/lang/invoke/MethodHandle" ∧ yX4_kindOf.cls ≠ "java/lang/invoke/VarHandle" ∧ (parseMethodDescriptor yX4_kindOf.desc).map (fun d => d.parameters.length) = some 1 := by decide +kernel
noncomputable def f_X4_kindOf (N : Nat) (y0 : Int32)  : Option (Int32) :=
  (if y0 = (38 : Int32) then (some ((0 : Int32))) else (if y0 = (110 : Int32) then (some ((2 : Int32))) else (if y0 = (111 : Int32) then (some ((3 : Int32))) else (if y0 = (124 : Int32) then (some ((1 : Int32))) else (if y0 = (126 : Int32) then (some ((4 : Int32))) else some ((-9 : Int32)))))))
set_option maxHeartbeats 4000000 in
set_option maxRecDepth 100000 in
theorem c_X4_kindOf (l : Launch) (D : va_G) (cI cJ cZ cS : ClassId) (sz N : Nat)   (y0 : Int32) (rr : Int32) (hf : f_X4_kindOf N y0 = some (rr)) : MetIr l yX4_kindOf wsX4_kindOf rmX4_kindOf D (tyA cI cJ cZ cS) [] sz [.int y0] rr := by
  refine entIr (cc := cX4_kindOf) (maxL := 1) (own := RX4) (by decide) rfl rfl (Nat.le_of_ble_eq_true rfl) ?_
  intro p e s m args below meth c A ls Q S hr hw hl hQ
  have hx := S.1.1
  have hb := S.1.2.1
  have hts := S.1.2.2.2.2
  have hl : lv_has ls 1 [(0, .int y0)] := hl
  have h := hf
  rw [f_X4_kindOf] at h
  refine lv_iload_n hx hb dX4_kindOf_0 rfl (lv_at hl 0 rfl) ?_
  by_cases hs38 : y0 = (38 : Int32)
  · replace h := if_t hs38 h
    refine lv_lookup (off := 51) (tgt := 52) hx hb dX4_kindOf_1 (by decide) (by rw [hs38]; decide) (by decide) ?_
    refine lv_iconst (v := (0 : Int32)) hx hb dX4_kindOf_52 (by decide) ?_
    cases h
    exact z_iretr S hQ hr dX4_kindOf_53
  replace h := if_f hs38 h
  by_cases hs110 : y0 = (110 : Int32)
  · replace h := if_t hs110 h
    refine lv_lookup (off := 55) (tgt := 56) hx hb dX4_kindOf_1 (by decide) (by rw [hs110]; decide) (by decide) ?_
    refine lv_iconst (v := (2 : Int32)) hx hb dX4_kindOf_56 (by decide) ?_
    cases h
    exact z_iretr S hQ hr dX4_kindOf_57
  replace h := if_f hs110 h
  by_cases hs111 : y0 = (111 : Int32)
  · replace h := if_t hs111 h
    refine lv_lookup (off := 57) (tgt := 58) hx hb dX4_kindOf_1 (by decide) (by rw [hs111]; decide) (by decide) ?_
    refine lv_iconst (v := (3 : Int32)) hx hb dX4_kindOf_58 (by decide) ?_
    cases h
    exact z_iretr S hQ hr dX4_kindOf_59
  replace h := if_f hs111 h
  by_cases hs124 : y0 = (124 : Int32)
  · replace h := if_t hs124 h
    refine lv_lookup (off := 53) (tgt := 54) hx hb dX4_kindOf_1 (by decide) (by rw [hs124]; decide) (by decide) ?_
    refine lv_iconst (v := (1 : Int32)) hx hb dX4_kindOf_54 (by decide) ?_
    cases h
    exact z_iretr S hQ hr dX4_kindOf_55
  replace h := if_f hs124 h
  by_cases hs126 : y0 = (126 : Int32)
  · replace h := if_t hs126 h
    refine lv_lookup (off := 59) (tgt := 60) hx hb dX4_kindOf_1 (by decide) (by rw [hs126]; decide) (by decide) ?_
    refine lv_iconst (v := (4 : Int32)) hx hb dX4_kindOf_60 (by decide) ?_
    cases h
    exact z_iretr S hQ hr dX4_kindOf_61
  replace h := if_f hs126 h
  refine lv_lookup (off := 61) (tgt := 62) hx hb dX4_kindOf_1 (by decide) ((lv_osw hs38 (by decide)).trans ((lv_osw hs110 (by decide)).trans ((lv_osw hs111 (by decide)).trans ((lv_osw hs124 (by decide)).trans ((lv_osw hs126 (by decide)).trans (rfl)))))) (by decide) ?_
  refine lv_bipush (v := (-9 : Int32)) hx hb dX4_kindOf_62 (by decide) ?_
  cases h
  exact z_iretr S hQ hr dX4_kindOf_64
abbrev rmX4_readSignal : Room := { frames := 1, cells := 0, slots := 0, locals := 20 }
theorem dv_X4_readSignal : yX4_readSignal.cls = RX4 ∧ yX4_readSignal.cls ≠ "java/lang/invoke/MethodHandle" ∧ yX4_readSignal.cls ≠ "java/lang/invoke/VarHandle" ∧ (parseMethodDescriptor yX4_readSignal.desc).map (fun d => d.parameters.length) = some 2 := by decide +kernel
noncomputable def f_X4_readSignal (N : Nat) (y2 : Int32) (i_this_size : Int32) (i_this_at : Int32) (i_p1_inputs : Int32) (i_p1_gates : Int32) (k_letters : (Nat → Int32)) : Option (Int32 × Int32) :=
  obd1 (f_X4_letter N i_this_size i_this_at k_letters) fun (r_1 : Int32) => bnd (fun (x4_2 : Int32) => ((if x4_2 = y2 then (some ((-9 : Int32), i_this_at)) else ((if x4_2 = (-9 : Int32) then (some (x4_2, i_this_at)) else (bnd ((i_this_at + (1 : Int32))) fun (i_at_3 : Int32) => some (x4_2, i_at_3))))))) fun (j61_1 : Int32 → Option (Int32 × Int32)) => bnd (α := Option (Int32 × Int32)) ((if r_1 < (48 : Int32) then (j61_1 ((-9 : Int32))) else ((if ((48 : Int32) + i_p1_gates) ≤ r_1 then (j61_1 ((-9 : Int32))) else (bnd ((((10 : Int32) + r_1) - (48 : Int32))) fun (x4_4 : Int32) => j61_1 x4_4))))) fun (j35_1 : Option (Int32 × Int32)) => (if r_1 < (97 : Int32) then (j35_1) else ((if ((97 : Int32) + i_p1_inputs) ≤ r_1 then (j35_1) else (bnd ((r_1 - (97 : Int32))) fun (x4_5 : Int32) => j61_1 x4_5))))
set_option maxHeartbeats 4000000 in
set_option maxRecDepth 100000 in
theorem c_X4_readSignal (l : Launch) (D : va_G) (cI cJ cZ cS : ClassId) (sz N : Nat) (a_this a_p1 a_letters a_p1_told a_p1_lefts a_p1_rights a_p1_nexts a_p1_starts a_p1_sizes a_p1_steps a_p1_links : Nat) (i_this_size : Int32) (i_this_at : Int32) (i_p1_inputs : Int32) (i_p1_gates : Int32) (i_p1_paths : Int32) (k_letters : (Nat → Int32)) (y2 : Int32) (rr : Int32) (o_this_at : Int32) (hf : f_X4_readSignal N y2 i_this_size i_this_at i_p1_inputs i_p1_gates k_letters = some (rr, o_this_at)) : MetI l yX4_readSignal wsX4_readSignal rmX4_readSignal D (tyA cI cJ cZ cS) [(a_this, .inr (4, [.ref a_letters, .int i_this_size, .int i_this_at])), (a_p1, .inr (2, [.int i_p1_inputs, .int i_p1_gates, .int i_p1_paths, .ref a_p1_told, .ref a_p1_lefts, .ref a_p1_rights, .ref a_p1_nexts, .ref a_p1_starts, .ref a_p1_sizes, .ref a_p1_steps, .ref a_p1_links])), (a_letters, .inl (cI, 40, .inl k_letters))] sz [.ref a_this, .ref a_p1, .int y2] rr [(a_this, .inr (4, [.ref a_letters, .int i_this_size, .int o_this_at])), (a_p1, .inr (2, [.int i_p1_inputs, .int i_p1_gates, .int i_p1_paths, .ref a_p1_told, .ref a_p1_lefts, .ref a_p1_rights, .ref a_p1_nexts, .ref a_p1_starts, .ref a_p1_sizes, .ref a_p1_steps, .ref a_p1_links])), (a_letters, .inl (cI, 40, .inl k_letters))] := by
  refine entI (cc := cX4_readSignal) (maxL := 5) (own := RX4) (by decide) rfl rfl (Nat.le_of_ble_eq_true rfl) ?_
  intro p e s m args below meth c A ls Q H locs S hr hw hl hQ
  have hx := S.1.1
  have hb := S.1.2.1
  have hts := S.1.2.2.2.2
  have hl : lv_has ls 5 [(0, .ref a_this), (1, .ref a_p1), (2, .int y2)] := hl
  have hinX4 : ∀ w ∈ u_ws RX4 TX4 3, w ∈ wsX4_readSignal := (fun _ h => List.mem_cons_of_mem _ (List.mem_append_right _ h))
  have F19 : FLk s args wsX4_readSignal RX4 19 RX4 TX4 3 4 2 := ⟨hinX4, rfl, by decide, hts (.fieldLink RX4 19 "SlowPaths$Script" "at" "I") (List.mem_of_getElem? (i := 3) rfl)⟩
  have hinX2 : ∀ w ∈ u_ws RX2 TX2 11, w ∈ wsX4_readSignal := (fun _ h => List.mem_cons_of_mem _ (List.mem_append_left _ (List.mem_append_right _ h)))
  have F22 : FLk s args wsX4_readSignal RX4 22 RX2 TX2 11 2 0 := ⟨hinX2, rfl, by decide, hts (.fieldLink RX4 22 "SlowPaths$Net" "inputs" "I") (List.mem_of_getElem? (i := 1) rfl)⟩
  have F27 : FLk s args wsX4_readSignal RX4 27 RX2 TX2 11 2 1 := ⟨hinX2, rfl, by decide, hts (.fieldLink RX4 27 "SlowPaths$Net" "gates" "I") (List.mem_of_getElem? (i := 2) rfl)⟩
  have P19 : PLk TX4 3 2 tyX4 false .int := ⟨tyX4_ok, nmX4, rfl, rfl⟩
  have h := hf
  rw [f_X4_readSignal] at h
  refine lv_aload_n hx hb dX4_readSignal_0 rfl (lv_at hl 0 rfl) ?_
  obtain ⟨r_1, e1_1, h⟩ := obd1_el h
  refine zr_VI (As := []) (rest := []) (q0 := 0) S hw (c_X4_letter l D cI cJ cZ cS H.size N a_this a_letters i_this_size i_this_at k_letters r_1 e1_1) (cwV 0 hts gX4_readSignal_X4_letter rfl rfl rfl dv_X4_letter ⟨Nat.le_of_ble_eq_true rfl, Nat.le_of_ble_eq_true rfl⟩) [0, 2] rfl rfl rfl rfl rfl rfl hl.1 rfl (Nat.le_of_ble_eq_true rfl) dX4_readSignal_1 ⟨Nat.zero_le _, Nat.zero_le _⟩ ?_
  refine lv_istore_n (lv' := [(3, .int r_1), (0, .ref a_this), (1, .ref a_p1), (2, .int y2)]) hx hb dX4_readSignal_4 rfl hl (by decide) rfl (fun ls hl => ?_)
  refine lv_bipush (v := (-9 : Int32)) hx hb dX4_readSignal_5 (by decide) ?_
  refine lv_istore (lv' := [(4, .int (-9 : Int32)), (3, .int r_1), (0, .ref a_this), (1, .ref a_p1), (2, .int y2)]) hx hb dX4_readSignal_7 hl (by decide) rfl (fun ls hl => ?_)
  refine lv_iload_n hx hb dX4_readSignal_9 rfl (lv_at hl 1 rfl) ?_
  refine lv_bipush (v := (97 : Int32)) hx hb dX4_readSignal_10 (by decide) ?_
  obtain ⟨j61_1, ej61_1, h⟩ := bnd_ex h
  have hj61_1 : ∀ (x4_2 : Int32) (H : Heap) (locs : List Loc) (ls : Array Slot), j61_1 x4_2 = some (rr, o_this_at) → Wd D (tyA cI cJ cZ cS) A s [(a_this, .inr (4, [.ref a_letters, .int i_this_size, .int i_this_at])), (a_p1, .inr (2, [.int i_p1_inputs, .int i_p1_gates, .int i_p1_paths, .ref a_p1_told, .ref a_p1_lefts, .ref a_p1_rights, .ref a_p1_nexts, .ref a_p1_starts, .ref a_p1_sizes, .ref a_p1_steps, .ref a_p1_links])), (a_letters, .inl (cI, 40, .inl k_letters))] H locs → lv_has ls 5 [(0, .ref a_this), (2, .int y2), (4, .int x4_2)] → W p l e rmX4_readSignal s m args below meth c H locs 0 0 Q (F0 m 61 ls []) := by
    intro x4_2 H locs ls h hw hl
    replace h := ap1 ej61_1 h
    refine lv_iload hx hb dX4_readSignal_61 (lv_at hl 2 rfl) ?_
    refine lv_iload_n hx hb dX4_readSignal_63 rfl (lv_at hl 1 rfl) ?_
    refine lv_icmp_ne (tgt := 70) hx hb dX4_readSignal_64 (by decide) (fun hc => ?_) (fun hc => ?_)
    · replace h := if_f hc h
      refine lv_iload hx hb dX4_readSignal_70 (lv_at hl 2 rfl) ?_
      refine lv_bipush (v := (-9 : Int32)) hx hb dX4_readSignal_72 (by decide) ?_
      refine lv_icmp_eq (tgt := 87) hx hb dX4_readSignal_74 (by decide) (fun hc => ?_) (fun hc => ?_)
      · replace h := if_t hc h
        refine lv_iload hx hb dX4_readSignal_87 (lv_at hl 2 rfl) ?_
        cases h
        exact z_iret S hQ hr hw [0, 1, 2] rfl rfl dX4_readSignal_89
      · replace h := if_f hc h
        refine lv_aload_n hx hb dX4_readSignal_77 rfl (lv_at hl 0 rfl) ?_
        refine lv_dup hx hb dX4_readSignal_78 rfl ?_
        refine z_get S hw F19 0 rfl rfl dX4_readSignal_79 ?_
        refine lv_iconst (v := (1 : Int32)) hx hb dX4_readSignal_82 (by decide) ?_
        refine lv_iadd hx hb dX4_readSignal_83 ?_
        refine lv_topi (fun i_at_3 ei_at_3 => ?_)
        replace h := bnd_at ei_at_3 h
        refine z_put S hw F19 P19 rfl rfl 0 rfl (Nat.le_of_ble_eq_true rfl) dX4_readSignal_84 (fun H locs hw => ?_)
        refine lv_iload hx hb dX4_readSignal_87 (lv_at hl 2 rfl) ?_
        cases h
        exact z_iret S hQ hr hw [0, 1, 2] rfl rfl dX4_readSignal_89
    · replace h := if_t hc h
      refine lv_bipush (v := (-9 : Int32)) hx hb dX4_readSignal_67 (by decide) ?_
      cases h
      exact z_iret S hQ hr hw [0, 1, 2] rfl rfl dX4_readSignal_69
  obtain ⟨j35_1, ej35_1, h⟩ := bnd_ex h
  have hj35_1 : ∀ (H : Heap) (locs : List Loc) (ls : Array Slot), j35_1 = some (rr, o_this_at) → Wd D (tyA cI cJ cZ cS) A s [(a_this, .inr (4, [.ref a_letters, .int i_this_size, .int i_this_at])), (a_p1, .inr (2, [.int i_p1_inputs, .int i_p1_gates, .int i_p1_paths, .ref a_p1_told, .ref a_p1_lefts, .ref a_p1_rights, .ref a_p1_nexts, .ref a_p1_starts, .ref a_p1_sizes, .ref a_p1_steps, .ref a_p1_links])), (a_letters, .inl (cI, 40, .inl k_letters))] H locs → lv_has ls 5 [(0, .ref a_this), (1, .ref a_p1), (2, .int y2), (3, .int r_1), (4, .int (-9 : Int32))] → W p l e rmX4_readSignal s m args below meth c H locs 0 0 Q (F0 m 35 ls []) := by
    intro H locs ls h hw hl
    replace h := ap0 ej35_1 h
    refine lv_iload_n hx hb dX4_readSignal_35 rfl (lv_at hl 3 rfl) ?_
    refine lv_bipush (v := (48 : Int32)) hx hb dX4_readSignal_36 (by decide) ?_
    refine lv_icmp_lt (tgt := 61) hx hb dX4_readSignal_38 (by decide) (fun hc => ?_) (fun hc => ?_)
    · replace h := if_t hc h
      exact hj61_1 ((-9 : Int32)) H locs ls h hw (lv_sub hl [0, 2, 4] rfl)
    · replace h := if_f hc h
      refine lv_iload_n hx hb dX4_readSignal_41 rfl (lv_at hl 3 rfl) ?_
      refine lv_bipush (v := (48 : Int32)) hx hb dX4_readSignal_42 (by decide) ?_
      refine lv_aload_n hx hb dX4_readSignal_44 rfl (lv_at hl 1 rfl) ?_
      refine z_get S hw F27 1 rfl rfl dX4_readSignal_45 ?_
      refine lv_iadd hx hb dX4_readSignal_48 ?_
      refine lv_icmp_ge (tgt := 61) hx hb dX4_readSignal_49 (by decide) (fun hc => ?_) (fun hc => ?_)
      · replace h := if_t hc h
        exact hj61_1 ((-9 : Int32)) H locs ls h hw (lv_sub hl [0, 2, 4] rfl)
      · replace h := if_f hc h
        refine lv_bipush (v := (10 : Int32)) hx hb dX4_readSignal_52 (by decide) ?_
        refine lv_iload_n hx hb dX4_readSignal_54 rfl (lv_at hl 3 rfl) ?_
        refine lv_iadd hx hb dX4_readSignal_55 ?_
        refine lv_bipush (v := (48 : Int32)) hx hb dX4_readSignal_56 (by decide) ?_
        refine lv_isub hx hb dX4_readSignal_58 ?_
        refine lv_topi (fun x4_4 ex4_4 => ?_)
        replace h := bnd_at ex4_4 h
        refine lv_istore (lv' := [(4, .int x4_4), (0, .ref a_this), (1, .ref a_p1), (2, .int y2), (3, .int r_1)]) hx hb dX4_readSignal_59 hl (by decide) rfl (fun ls hl => ?_)
        exact hj61_1 x4_4 H locs ls h hw (lv_sub hl [1, 3, 0] rfl)
  refine lv_icmp_lt (tgt := 35) hx hb dX4_readSignal_12 (by decide) (fun hc => ?_) (fun hc => ?_)
  · replace h := if_t hc h
    exact hj35_1  H locs ls h hw (lv_sub hl [2, 3, 4, 1, 0] rfl)
  · replace h := if_f hc h
    refine lv_iload_n hx hb dX4_readSignal_15 rfl (lv_at hl 1 rfl) ?_
    refine lv_bipush (v := (97 : Int32)) hx hb dX4_readSignal_16 (by decide) ?_
    refine lv_aload_n hx hb dX4_readSignal_18 rfl (lv_at hl 3 rfl) ?_
    refine z_get S hw F22 1 rfl rfl dX4_readSignal_19 ?_
    refine lv_iadd hx hb dX4_readSignal_22 ?_
    refine lv_icmp_ge (tgt := 35) hx hb dX4_readSignal_23 (by decide) (fun hc => ?_) (fun hc => ?_)
    · replace h := if_t hc h
      exact hj35_1  H locs ls h hw (lv_sub hl [2, 3, 4, 1, 0] rfl)
    · replace h := if_f hc h
      refine lv_iload_n hx hb dX4_readSignal_26 rfl (lv_at hl 1 rfl) ?_
      refine lv_bipush (v := (97 : Int32)) hx hb dX4_readSignal_27 (by decide) ?_
      refine lv_isub hx hb dX4_readSignal_29 ?_
      refine lv_topi (fun x4_5 ex4_5 => ?_)
      replace h := bnd_at ex4_5 h
      refine lv_istore (lv' := [(4, .int x4_5), (3, .int r_1), (0, .ref a_this), (1, .ref a_p1), (2, .int y2)]) hx hb dX4_readSignal_30 hl (by decide) rfl (fun ls hl => ?_)
      refine lv_goto (tgt := 61) hx hb dX4_readSignal_32 (by decide) ?_
      exact hj61_1 x4_5 H locs ls h hw (lv_sub hl [2, 4, 0] rfl)
