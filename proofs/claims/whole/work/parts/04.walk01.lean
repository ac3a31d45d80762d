abbrev rmX1_howFar : Room := { frames := 0, cells := 0, slots := 0, locals := 0 }
theorem dv_X1_howFar : yX1_howFar.cls = RX1 ∧ yX1_howFar.cls ≠ "java/lang/invoke/MethodHandle" ∧ yX1_howFar.cls ≠ "java/lang/invoke/VarHandle" ∧ (parseMethodDescriptor yX1_howFar.desc).map (fun d => d.parameters.length) = some 2 := by decide +kernel
noncomputable def f_X1_howFar (N : Nat) (y2 : Int32) (i_this_links : Int32) (i_this_sureLinks : Int32) (k_p1_starts : (Nat → Int32)) (k_of : (Nat → Int32)) (k_p1_links : (Nat → Int32)) : Option (Int32) :=
  grd (inb y2 55) <| grd (inb (k_p1_starts y2.toNatClampNeg) 18) <| (if (k_of (k_p1_starts y2.toNatClampNeg).toNatClampNeg) < (2 : Int32) then (some ((0 : Int32))) else (grd (inb y2 55) <| (if ((k_p1_links y2.toNatClampNeg) &&& (i_this_links ^^^ (-1 : Int32))) = (0 : Int32) then (grd (inb y2 55) <| (if ((k_p1_links y2.toNatClampNeg) &&& (i_this_sureLinks ^^^ (-1 : Int32))) = (0 : Int32) then (some ((2 : Int32))) else (some ((1 : Int32))))) else (some ((0 : Int32))))))
set_option maxHeartbeats 4000000 in
set_option maxRecDepth 100000 in
theorem c_X1_howFar (l : Launch) (D : va_G) (cI cJ cZ cS : ClassId) (sz N : Nat) (a_this a_p1 a_p1_starts a_of a_p1_links a_p1_told a_p1_lefts a_p1_rights a_p1_nexts a_p1_sizes a_p1_steps : Nat) (i_this_links : Int32) (i_this_sureLinks : Int32) (i_p1_inputs : Int32) (i_p1_gates : Int32) (i_p1_paths : Int32) (k_p1_starts : (Nat → Int32)) (k_of : (Nat → Int32)) (k_p1_links : (Nat → Int32)) (y2 : Int32) (rr : Int32) (hf : f_X1_howFar N y2 i_this_links i_this_sureLinks k_p1_starts k_of k_p1_links = some (rr)) : MetIr l yX1_howFar wsX1_howFar rmX1_howFar D (tyA cI cJ cZ cS) [(a_this, .inr (1, [.ref a_of, .int i_this_links, .int i_this_sureLinks])), (a_p1, .inr (2, [.int i_p1_inputs, .int i_p1_gates, .int i_p1_paths, .ref a_p1_told, .ref a_p1_lefts, .ref a_p1_rights, .ref a_p1_nexts, .ref a_p1_starts, .ref a_p1_sizes, .ref a_p1_steps, .ref a_p1_links])), (a_p1_starts, .inl (cI, 55, .inl k_p1_starts)), (a_of, .inl (cI, 18, .inl k_of)), (a_p1_links, .inl (cI, 55, .inl k_p1_links))] sz [.ref a_this, .ref a_p1, .int y2] rr := by
  refine entIr (cc := cX1_howFar) (maxL := 3) (own := RX1) (by decide) rfl rfl (Nat.le_of_ble_eq_true rfl) ?_
  intro p e s m args below meth c A ls Q S hr hw hl hQ
  have hx := S.1.1
  have hb := S.1.2.1
  have hts := S.1.2.2.2.2
  have hl : lv_has ls 3 [(0, .ref a_this), (1, .ref a_p1), (2, .int y2)] := hl
  have hinX1 : ∀ w ∈ u_ws RX1 TX1 3, w ∈ wsX1_howFar := (fun _ h => List.mem_cons_of_mem _ (List.mem_append_left _ (List.mem_append_right _ h)))
  have F9 : FLk s args wsX1_howFar RX1 9 RX1 TX1 3 1 0 := ⟨hinX1, rfl, by decide, hts (.fieldLink RX1 9 "SlowPaths$Levels" "of" "[I") (List.mem_of_getElem? (i := 1) rfl)⟩
  have F15 : FLk s args wsX1_howFar RX1 15 RX1 TX1 3 1 1 := ⟨hinX1, rfl, by decide, hts (.fieldLink RX1 15 "SlowPaths$Levels" "links" "I") (List.mem_of_getElem? (i := 4) rfl)⟩
  have F19 : FLk s args wsX1_howFar RX1 19 RX1 TX1 3 1 2 := ⟨hinX1, rfl, by decide, hts (.fieldLink RX1 19 "SlowPaths$Levels" "sureLinks" "I") (List.mem_of_getElem? (i := 5) rfl)⟩
  have hinX2 : ∀ w ∈ u_ws RX2 TX2 11, w ∈ wsX1_howFar := (fun _ h => List.mem_cons_of_mem _ (List.mem_append_right _ h))
  have F58 : FLk s args wsX1_howFar RX1 58 RX2 TX2 11 2 7 := ⟨hinX2, rfl, by decide, hts (.fieldLink RX1 58 "SlowPaths$Net" "starts" "[I") (List.mem_of_getElem? (i := 2) rfl)⟩
  have F61 : FLk s args wsX1_howFar RX1 61 RX2 TX2 11 2 10 := ⟨hinX2, rfl, by decide, hts (.fieldLink RX1 61 "SlowPaths$Net" "links" "[I") (List.mem_of_getElem? (i := 3) rfl)⟩
  have h := hf
  rw [f_X1_howFar] at h
  refine lv_aload_n hx hb dX1_howFar_0 rfl (lv_at hl 0 rfl) ?_
  refine z_get S hw F9 0 rfl rfl dX1_howFar_1 ?_
  refine lv_aload_n hx hb dX1_howFar_4 rfl (lv_at hl 1 rfl) ?_
  refine z_get S hw F58 1 rfl rfl dX1_howFar_5 ?_
  refine lv_iload_n hx hb dX1_howFar_8 rfl (lv_at hl 2 rfl) ?_
  obtain ⟨hg, h⟩ := grd_el h
  refine z_iald S hw 2 0 rfl rfl hg dX1_howFar_9 ?_
  obtain ⟨hg, h⟩ := grd_el h
  refine z_iald S hw 3 0 rfl rfl hg dX1_howFar_10 ?_
  refine lv_iconst (v := (2 : Int32)) hx hb dX1_howFar_11 (by decide) ?_
  refine lv_icmp_lt (tgt := 31) hx hb dX1_howFar_12 (by decide) (fun hc => ?_) (fun hc => ?_)
  · replace h := if_t hc h
    refine lv_iconst (v := (0 : Int32)) hx hb dX1_howFar_31 (by decide) ?_
    cases h
    exact z_iretr S hQ hr dX1_howFar_32
  · replace h := if_f hc h
    refine lv_aload_n hx hb dX1_howFar_15 rfl (lv_at hl 1 rfl) ?_
    refine z_get S hw F61 1 rfl rfl dX1_howFar_16 ?_
    refine lv_iload_n hx hb dX1_howFar_19 rfl (lv_at hl 2 rfl) ?_
    obtain ⟨hg, h⟩ := grd_el h
    refine z_iald S hw 4 0 rfl rfl hg dX1_howFar_20 ?_
    refine lv_aload_n hx hb dX1_howFar_21 rfl (lv_at hl 0 rfl) ?_
    refine z_get S hw F15 0 rfl rfl dX1_howFar_22 ?_
    refine lv_iconst (v := (-1 : Int32)) hx hb dX1_howFar_25 (by decide) ?_
    refine lv_ixor hx hb dX1_howFar_26 ?_
    refine lv_iand hx hb dX1_howFar_27 ?_
    refine lv_if_eq (tgt := 33) hx hb dX1_howFar_28 (by decide) (fun hc => ?_) (fun hc => ?_)
    · replace h := if_t hc h
      refine lv_aload_n hx hb dX1_howFar_33 rfl (lv_at hl 1 rfl) ?_
      refine z_get S hw F61 1 rfl rfl dX1_howFar_34 ?_
      refine lv_iload_n hx hb dX1_howFar_37 rfl (lv_at hl 2 rfl) ?_
      obtain ⟨hg, h⟩ := grd_el h
      refine z_iald S hw 4 0 rfl rfl hg dX1_howFar_38 ?_
      refine lv_aload_n hx hb dX1_howFar_39 rfl (lv_at hl 0 rfl) ?_
      refine z_get S hw F19 0 rfl rfl dX1_howFar_40 ?_
      refine lv_iconst (v := (-1 : Int32)) hx hb dX1_howFar_43 (by decide) ?_
      refine lv_ixor hx hb dX1_howFar_44 ?_
      refine lv_iand hx hb dX1_howFar_45 ?_
      refine lv_if_ne (tgt := 53) hx hb dX1_howFar_46 (by decide) (fun hc => ?_) (fun hc => ?_)
      · replace h := if_f hc h
        refine lv_iconst (v := (1 : Int32)) hx hb dX1_howFar_53 (by decide) ?_
        cases h
        exact z_iretr S hQ hr dX1_howFar_54
      · replace h := if_t hc h
        refine lv_iconst (v := (2 : Int32)) hx hb dX1_howFar_49 (by decide) ?_
        refine lv_goto (tgt := 54) hx hb dX1_howFar_50 (by decide) ?_
        cases h
        exact z_iretr S hQ hr dX1_howFar_54
    · replace h := if_f hc h
      refine lv_iconst (v := (0 : Int32)) hx hb dX1_howFar_31 (by decide) ?_
      cases h
      exact z_iretr S hQ hr dX1_howFar_32
abbrev rmX2_hasGate : Room := { frames := 0, cells := 0, slots := 0, locals := 0 }
theorem dv_X2_hasGate : yX2_hasGate.cls = RX2 ∧ yX2_hasGate.cls ≠ "java/lang/invoke/MethodHandle" ∧ yX2_hasGate.cls ≠ "java/lang/invoke/VarHandle" ∧ (parseMethodDescriptor yX2_hasGate.desc).map (fun d => d.parameters.length) = some 1 := by decide +kernel
noncomputable def f_X2_hasGate (N : Nat) (y1 : Int32) (i_this_gates : Int32) : Option (Int32) :=
  bnd (α := Option (Int32)) (some ((0 : Int32))) fun (j16_1 : Option (Int32)) => (if y1 < (0 : Int32) then (j16_1) else ((if i_this_gates ≤ y1 then (j16_1) else (some ((1 : Int32))))))
set_option maxHeartbeats 4000000 in
set_option maxRecDepth 100000 in
theorem c_X2_hasGate (l : Launch) (D : va_G) (cI cJ cZ cS : ClassId) (sz N : Nat) (a_this a_told a_lefts a_rights a_nexts a_starts a_sizes a_steps a_links : Nat) (i_this_inputs : Int32) (i_this_gates : Int32) (i_this_paths : Int32) (y1 : Int32) (rr : Int32) (hf : f_X2_hasGate N y1 i_this_gates = some (rr)) : MetIr l yX2_hasGate wsX2_hasGate rmX2_hasGate D (tyA cI cJ cZ cS) [(a_this, .inr (2, [.int i_this_inputs, .int i_this_gates, .int i_this_paths, .ref a_told, .ref a_lefts, .ref a_rights, .ref a_nexts, .ref a_starts, .ref a_sizes, .ref a_steps, .ref a_links]))] sz [.ref a_this, .int y1] rr := by
  refine entZr (cc := cX2_hasGate) (maxL := 2) (own := RX2) (by decide) rfl rfl (Nat.le_of_ble_eq_true rfl) ?_
  intro p e s m args below meth c A ls Q S hr hw hl hQ
  have hx := S.1.1
  have hb := S.1.2.1
  have hts := S.1.2.2.2.2
  have hl : lv_has ls 2 [(0, .ref a_this), (1, .int y1)] := hl
  have hinX2 : ∀ w ∈ u_ws RX2 TX2 11, w ∈ wsX2_hasGate := (fun _ h => List.mem_cons_of_mem _ (List.mem_append_right _ h))
  have F15 : FLk s args wsX2_hasGate RX2 15 RX2 TX2 11 2 1 := ⟨hinX2, rfl, by decide, hts (.fieldLink RX2 15 "SlowPaths$Net" "gates" "I") (List.mem_of_getElem? (i := 1) rfl)⟩
  have h := hf
  rw [f_X2_hasGate] at h
  refine lv_iload_n hx hb dX2_hasGate_0 rfl (lv_at hl 1 rfl) ?_
  obtain ⟨j16_1, ej16_1, h⟩ := bnd_ex h
  have hj16_1 : ∀ (ls : Array Slot), j16_1 = some (rr) → lv_has ls 2 [] → W p l e rmX2_hasGate s m args below meth c s.heap [] 0 0 Q (F0 m 16 ls []) := by
    intro ls h hl
    replace h := ap0 ej16_1 h
    refine lv_iconst (v := (0 : Int32)) hx hb dX2_hasGate_16 (by decide) ?_
    cases h
    exact z_zretr S hQ hr rfl dX2_hasGate_17
  refine lv_if_lt (tgt := 16) hx hb dX2_hasGate_1 (by decide) (fun hc => ?_) (fun hc => ?_)
  · replace h := if_t hc h
    exact hj16_1  ls h (lv_sub hl [] rfl)
  · replace h := if_f hc h
    refine lv_iload_n hx hb dX2_hasGate_4 rfl (lv_at hl 1 rfl) ?_
    refine lv_aload_n hx hb dX2_hasGate_5 rfl (lv_at hl 0 rfl) ?_
    refine z_get S hw F15 0 rfl rfl dX2_hasGate_6 ?_
    refine lv_icmp_ge (tgt := 16) hx hb dX2_hasGate_9 (by decide) (fun hc => ?_) (fun hc => ?_)
    · replace h := if_t hc h
      exact hj16_1  ls h (lv_sub hl [] rfl)
    · replace h := if_f hc h
      refine lv_iconst (v := (1 : Int32)) hx hb dX2_hasGate_12 (by decide) ?_
      refine lv_goto (tgt := 17) hx hb dX2_hasGate_13 (by decide) ?_
      cases h
      exact z_zretr S hQ hr rfl dX2_hasGate_17
abbrev rmX2_hasPath : Room := { frames := 0, cells := 0, slots := 0, locals := 0 }
theorem dv_X2_hasPath : yX2_hasPath.cls = RX2 ∧ yX2_hasPath.cls ≠ "java/lang/invoke/MethodHandle" ∧ yX2_hasPath.cls ≠ "java/lang/invoke/VarHandle" ∧ (parseMethodDescriptor yX2_hasPath.desc).map (fun d => d.parameters.length) = some 1 := by decide +kernel
noncomputable def f_X2_hasPath (N : Nat) (y1 : Int32) (i_this_paths : Int32) : Option (Int32) :=
  bnd (α := Option (Int32)) (some ((0 : Int32))) fun (j16_1 : Option (Int32)) => (if y1 < (0 : Int32) then (j16_1) else ((if i_this_paths ≤ y1 then (j16_1) else (some ((1 : Int32))))))
set_option maxHeartbeats 4000000 in
set_option maxRecDepth 100000 in
theorem c_X2_hasPath (l : Launch) (D : va_G) (cI cJ cZ cS : ClassId) (sz N : Nat) (a_this a_told a_lefts a_rights a_nexts a_starts a_sizes a_steps a_links : Nat) (i_this_inputs : Int32) (i_this_gates : Int32) (i_this_paths : Int32) (y1 : Int32) (rr : Int32) (hf : f_X2_hasPath N y1 i_this_paths = some (rr)) : MetIr l yX2_hasPath wsX2_hasPath rmX2_hasPath D (tyA cI cJ cZ cS) [(a_this, .inr (2, [.int i_this_inputs, .int i_this_gates, .int i_this_paths, .ref a_told, .ref a_lefts, .ref a_rights, .ref a_nexts, .ref a_starts, .ref a_sizes, .ref a_steps, .ref a_links]))] sz [.ref a_this, .int y1] rr := by
  refine entZr (cc := cX2_hasPath) (maxL := 2) (own := RX2) (by decide) rfl rfl (Nat.le_of_ble_eq_true rfl) ?_
  intro p e s m args below meth c A ls Q S hr hw hl hQ
  have hx := S.1.1
  have hb := S.1.2.1
  have hts := S.1.2.2.2.2
  have hl : lv_has ls 2 [(0, .ref a_this), (1, .int y1)] := hl
  have hinX2 : ∀ w ∈ u_ws RX2 TX2 11, w ∈ wsX2_hasPath := (fun _ h => List.mem_cons_of_mem _ (List.mem_append_right _ h))
  have F18 : FLk s args wsX2_hasPath RX2 18 RX2 TX2 11 2 2 := ⟨hinX2, rfl, by decide, hts (.fieldLink RX2 18 "SlowPaths$Net" "paths" "I") (List.mem_of_getElem? (i := 1) rfl)⟩
  have h := hf
  rw [f_X2_hasPath] at h
  refine lv_iload_n hx hb dX2_hasPath_0 rfl (lv_at hl 1 rfl) ?_
  obtain ⟨j16_1, ej16_1, h⟩ := bnd_ex h
  have hj16_1 : ∀ (ls : Array Slot), j16_1 = some (rr) → lv_has ls 2 [] → W p l e rmX2_hasPath s m args below meth c s.heap [] 0 0 Q (F0 m 16 ls []) := by
    intro ls h hl
    replace h := ap0 ej16_1 h
    refine lv_iconst (v := (0 : Int32)) hx hb dX2_hasPath_16 (by decide) ?_
    cases h
    exact z_zretr S hQ hr rfl dX2_hasPath_17
  refine lv_if_lt (tgt := 16) hx hb dX2_hasPath_1 (by decide) (fun hc => ?_) (fun hc => ?_)
  · replace h := if_t hc h
    exact hj16_1  ls h (lv_sub hl [] rfl)
  · replace h := if_f hc h
    refine lv_iload_n hx hb dX2_hasPath_4 rfl (lv_at hl 1 rfl) ?_
    refine lv_aload_n hx hb dX2_hasPath_5 rfl (lv_at hl 0 rfl) ?_
    refine z_get S hw F18 0 rfl rfl dX2_hasPath_6 ?_
    refine lv_icmp_ge (tgt := 16) hx hb dX2_hasPath_9 (by decide) (fun hc => ?_) (fun hc => ?_)
    · replace h := if_t hc h
      exact hj16_1  ls h (lv_sub hl [] rfl)
    · replace h := if_f hc h
      refine lv_iconst (v := (1 : Int32)) hx hb dX2_hasPath_12 (by decide) ?_
      refine lv_goto (tgt := 17) hx hb dX2_hasPath_13 (by decide) ?_
      cases h
      exact z_zretr S hQ hr rfl dX2_hasPath_17
abbrev rmX2_allBits : Room := { frames := 0, cells := 0, slots := 0, locals := 0 }
theorem dv_X2_allBits : yX2_allBits.cls = RX2 ∧ yX2_allBits.cls ≠ "java/lang/invoke/MethodHandle" ∧ yX2_allBits.cls ≠ "java/lang/invoke/VarHandle" ∧ (parseMethodDescriptor yX2_allBits.desc).map (fun d => d.parameters.length) = some 0 := by decide +kernel
noncomputable def f_X2_allBits (N : Nat)  (i_this_inputs : Int32) : Option (Int32) :=
  some ((((1 : Int32) <<< (i_this_inputs &&& 31)) - (1 : Int32)))
set_option maxHeartbeats 4000000 in
set_option maxRecDepth 100000 in
theorem c_X2_allBits (l : Launch) (D : va_G) (cI cJ cZ cS : ClassId) (sz N : Nat) (a_this a_told a_lefts a_rights a_nexts a_starts a_sizes a_steps a_links : Nat) (i_this_inputs : Int32) (i_this_gates : Int32) (i_this_paths : Int32)  (rr : Int32) (hf : f_X2_allBits N i_this_inputs = some (rr)) : MetIr l yX2_allBits wsX2_allBits rmX2_allBits D (tyA cI cJ cZ cS) [(a_this, .inr (2, [.int i_this_inputs, .int i_this_gates, .int i_this_paths, .ref a_told, .ref a_lefts, .ref a_rights, .ref a_nexts, .ref a_starts, .ref a_sizes, .ref a_steps, .ref a_links]))] sz [.ref a_this] rr := by
  refine entIr (cc := cX2_allBits) (maxL := 1) (own := RX2) (by decide) rfl rfl (Nat.le_of_ble_eq_true rfl) ?_
  intro p e s m args below meth c A ls Q S hr hw hl hQ
  have hx := S.1.1
  have hb := S.1.2.1
  have hts := S.1.2.2.2.2
  have hl : lv_has ls 1 [(0, .ref a_this)] := hl
  have hinX2 : ∀ w ∈ u_ws RX2 TX2 11, w ∈ wsX2_allBits := (fun _ h => List.mem_cons_of_mem _ (List.mem_append_right _ h))
  have F9 : FLk s args wsX2_allBits RX2 9 RX2 TX2 11 2 0 := ⟨hinX2, rfl, by decide, hts (.fieldLink RX2 9 "SlowPaths$Net" "inputs" "I") (List.mem_of_getElem? (i := 1) rfl)⟩
  have h := hf
  rw [f_X2_allBits] at h
  refine lv_iconst (v := (1 : Int32)) hx hb dX2_allBits_0 (by decide) ?_
  refine lv_aload_n hx hb dX2_allBits_1 rfl (lv_at hl 0 rfl) ?_
  refine z_get S hw F9 0 rfl rfl dX2_allBits_2 ?_
  refine lv_ishl hx hb dX2_allBits_5 ?_
  refine lv_iconst (v := (1 : Int32)) hx hb dX2_allBits_6 (by decide) ?_
  refine lv_isub hx hb dX2_allBits_7 ?_
  cases h
  exact z_iretr S hQ hr dX2_allBits_8
abbrev rmX2_pairWithin : Room := { frames := 1, cells := 0, slots := 0, locals := 20 }
theorem dv_X2_pairWithin : yX2_pairWithin.cls = RX2 ∧ yX2_pairWithin.cls ≠ "java/lang/invoke/MethodHandle" ∧ yX2_pairWithin.cls ≠ "java/lang/invoke/VarHandle" ∧ (parseMethodDescriptor yX2_pairWithin.desc).map (fun d => d.parameters.length) = some 1 := by decide +kernel
noncomputable def f_X2_pairWithin (N : Nat) (y1 : Int32) (i_this_inputs : Int32) : Option (Int32) :=
  obd1 (f_X2_allBits N i_this_inputs) fun (r_1 : Int32) => obd1 (f_X2_allBits N i_this_inputs) fun (r_2 : Int32) => some ((y1 &&& ((r_1 <<< ((4 : Int32) &&& 31)) ||| r_2)))
set_option maxHeartbeats 4000000 in
set_option maxRecDepth 100000 in
theorem c_X2_pairWithin (l : Launch) (D : va_G) (cI cJ cZ cS : ClassId) (sz N : Nat) (a_this a_told a_lefts a_rights a_nexts a_starts a_sizes a_steps a_links : Nat) (i_this_inputs : Int32) (i_this_gates : Int32) (i_this_paths : Int32) (y1 : Int32) (rr : Int32) (hf : f_X2_pairWithin N y1 i_this_inputs = some (rr)) : MetIr l yX2_pairWithin wsX2_pairWithin rmX2_pairWithin D (tyA cI cJ cZ cS) [(a_this, .inr (2, [.int i_this_inputs, .int i_this_gates, .int i_this_paths, .ref a_told, .ref a_lefts, .ref a_rights, .ref a_nexts, .ref a_starts, .ref a_sizes, .ref a_steps, .ref a_links]))] sz [.ref a_this, .int y1] rr := by
  refine entIr (cc := cX2_pairWithin) (maxL := 2) (own := RX2) (by decide) rfl rfl (Nat.le_of_ble_eq_true rfl) ?_
  intro p e s m args below meth c A ls Q S hr hw hl hQ
  have hx := S.1.1
  have hb := S.1.2.1
  have hts := S.1.2.2.2.2
  have hl : lv_has ls 2 [(0, .ref a_this), (1, .int y1)] := hl
  have h := hf
  rw [f_X2_pairWithin] at h
  refine lv_iload_n hx hb dX2_pairWithin_0 rfl (lv_at hl 1 rfl) ?_
  refine lv_aload_n hx hb dX2_pairWithin_1 rfl (lv_at hl 0 rfl) ?_
  obtain ⟨r_1, e2_1, h⟩ := obd1_el h
  refine zr_VI (As := []) (rest := [.int y1]) (q0 := 0) S hw (c_X2_allBits l D cI cJ cZ cS s.heap.size N a_this a_told a_lefts a_rights a_nexts a_starts a_sizes a_steps a_links i_this_inputs i_this_gates i_this_paths r_1 e2_1) (cwV 0 hts gX2_pairWithin_X2_allBits rfl rfl rfl dv_X2_allBits ⟨Nat.le_of_ble_eq_true rfl, Nat.le_of_ble_eq_true rfl⟩) [0] rfl rfl rfl rfl rfl rfl hl.1 rfl (Nat.le_of_ble_eq_true rfl) dX2_pairWithin_2 ⟨Nat.zero_le _, Nat.zero_le _⟩ ?_
  refine lv_iconst (v := (4 : Int32)) hx hb dX2_pairWithin_5 (by decide) ?_
  refine lv_ishl hx hb dX2_pairWithin_6 ?_
  refine lv_aload_n hx hb dX2_pairWithin_7 rfl (lv_at hl 0 rfl) ?_
  obtain ⟨r_2, e8_1, h⟩ := obd1_el h
  refine zr_VI (As := []) (rest := [.int (r_1 <<< ((4 : Int32) &&& 31)), .int y1]) (q0 := 0) S hw (c_X2_allBits l D cI cJ cZ cS s.heap.size N a_this a_told a_lefts a_rights a_nexts a_starts a_sizes a_steps a_links i_this_inputs i_this_gates i_this_paths r_2 e8_1) (cwV 0 hts gX2_pairWithin_X2_allBits rfl rfl rfl dv_X2_allBits ⟨Nat.le_of_ble_eq_true rfl, Nat.le_of_ble_eq_true rfl⟩) [0] rfl rfl rfl rfl rfl rfl hl.1 rfl (Nat.le_of_ble_eq_true rfl) dX2_pairWithin_8 ⟨Nat.zero_le _, Nat.zero_le _⟩ ?_
  refine lv_ior hx hb dX2_pairWithin_11 ?_
  refine lv_iand hx hb dX2_pairWithin_12 ?_
  cases h
  exact z_iretr S hQ hr dX2_pairWithin_13
abbrev rmX2_hasPair : Room := { frames := 2, cells := 0, slots := 0, locals := 41 }
theorem dv_X2_hasPair : yX2_hasPair.cls = RX2 ∧ yX2_hasPair.cls ≠ "java/lang/invoke/MethodHandle" ∧ yX2_hasPair.cls ≠ "java/lang/invoke/VarHandle" ∧ (parseMethodDescriptor yX2_hasPair.desc).map (fun d => d.parameters.length) = some 1 := by decide +kernel
noncomputable def f_X2_hasPair (N : Nat) (y1 : Int32) (i_this_inputs : Int32) : Option (Int32) :=
  bnd (α := Option (Int32)) (some ((0 : Int32))) fun (j24_1 : Option (Int32)) => (if y1 < (0 : Int32) then (j24_1) else ((if (256 : Int32) ≤ y1 then (j24_1) else (obd1 (f_X2_pairWithin N y1 i_this_inputs) fun (r_1 : Int32) => (if r_1 = y1 then (some ((1 : Int32))) else (j24_1))))))
set_option maxHeartbeats 4000000 in
set_option maxRecDepth 100000 in
theorem c_X2_hasPair (l : Launch) (D : va_G) (cI cJ cZ cS : ClassId) (sz N : Nat) (a_this a_told a_lefts a_rights a_nexts a_starts a_sizes a_steps a_links : Nat) (i_this_inputs : Int32) (i_this_gates : Int32) (i_this_paths : Int32) (y1 : Int32) (rr : Int32) (hf : f_X2_hasPair N y1 i_this_inputs = some (rr)) : MetIr l yX2_hasPair wsX2_hasPair rmX2_hasPair D (tyA cI cJ cZ cS) [(a_this, .inr (2, [.int i_this_inputs, .int i_this_gates, .int i_this_paths, .ref a_told, .ref a_lefts, .ref a_rights, .ref a_nexts, .ref a_starts, .ref a_sizes, .ref a_steps, .ref a_links]))] sz [.ref a_this, .int y1] rr := by
  refine entZr (cc := cX2_hasPair) (maxL := 2) (own := RX2) (by decide) rfl rfl (Nat.le_of_ble_eq_true rfl) ?_
  intro p e s m args below meth c A ls Q S hr hw hl hQ
  have hx := S.1.1
  have hb := S.1.2.1
  have hts := S.1.2.2.2.2
  have hl : lv_has ls 2 [(0, .ref a_this), (1, .int y1)] := hl
  have h := hf
  rw [f_X2_hasPair] at h
  refine lv_iload_n hx hb dX2_hasPair_0 rfl (lv_at hl 1 rfl) ?_
  obtain ⟨j24_1, ej24_1, h⟩ := bnd_ex h
  have hj24_1 : ∀ (ls : Array Slot), j24_1 = some (rr) → lv_has ls 2 [] → W p l e rmX2_hasPair s m args below meth c s.heap [] 0 0 Q (F0 m 24 ls []) := by
    intro ls h hl
    replace h := ap0 ej24_1 h
    refine lv_iconst (v := (0 : Int32)) hx hb dX2_hasPair_24 (by decide) ?_
    cases h
    exact z_zretr S hQ hr rfl dX2_hasPair_25
  refine lv_if_lt (tgt := 24) hx hb dX2_hasPair_1 (by decide) (fun hc => ?_) (fun hc => ?_)
  · replace h := if_t hc h
    exact hj24_1  ls h (lv_sub hl [] rfl)
  · replace h := if_f hc h
    refine lv_iload_n hx hb dX2_hasPair_4 rfl (lv_at hl 1 rfl) ?_
    refine lv_sipush (v := (256 : Int32)) hx hb dX2_hasPair_5 (by decide) ?_
    refine lv_icmp_ge (tgt := 24) hx hb dX2_hasPair_8 (by decide) (fun hc => ?_) (fun hc => ?_)
    · replace h := if_t hc h
      exact hj24_1  ls h (lv_sub hl [] rfl)
    · replace h := if_f hc h
      refine lv_aload_n hx hb dX2_hasPair_11 rfl (lv_at hl 0 rfl) ?_
      refine lv_iload_n hx hb dX2_hasPair_12 rfl (lv_at hl 1 rfl) ?_
      obtain ⟨r_1, e13_1, h⟩ := obd1_el h
      refine zr_VI (As := [.int y1]) (rest := []) (q0 := 0) S hw (c_X2_pairWithin l D cI cJ cZ cS s.heap.size N a_this a_told a_lefts a_rights a_nexts a_starts a_sizes a_steps a_links i_this_inputs i_this_gates i_this_paths y1 r_1 e13_1) (cwV 1 hts gX2_hasPair_X2_pairWithin rfl rfl rfl dv_X2_pairWithin ⟨Nat.le_of_ble_eq_true rfl, Nat.le_of_ble_eq_true rfl⟩) [0] rfl rfl rfl rfl rfl rfl hl.1 rfl (Nat.le_of_ble_eq_true rfl) dX2_hasPair_13 ⟨Nat.zero_le _, Nat.zero_le _⟩ ?_
      refine lv_iload_n hx hb dX2_hasPair_16 rfl (lv_at hl 1 rfl) ?_
      refine lv_icmp_ne (tgt := 24) hx hb dX2_hasPair_17 (by decide) (fun hc => ?_) (fun hc => ?_)
      · replace h := if_f hc h
        exact hj24_1  ls h (lv_sub hl [] rfl)
      · replace h := if_t hc h
        refine lv_iconst (v := (1 : Int32)) hx hb dX2_hasPair_20 (by decide) ?_
        refine lv_goto (tgt := 25) hx hb dX2_hasPair_21 (by decide) ?_
        cases h
        exact z_zretr S hQ hr rfl dX2_hasPair_25
abbrev rmX2_addIfLinked : Room := { frames := 0, cells := 0, slots := 0, locals := 0 }
theorem dv_X2_addIfLinked : yX2_addIfLinked.cls = RX2 ∧ yX2_addIfLinked.cls ≠ "java/lang/invoke/MethodHandle" ∧ yX2_addIfLinked.cls ≠ "java/lang/invoke/VarHandle" ∧ (parseMethodDescriptor yX2_addIfLinked.desc).map (fun d => d.parameters.length) = some 2 := by decide +kernel
noncomputable def f_X2_addIfLinked_L21 (N : Nat) (y2 : Int32) (i_this_gates : Int32) (i_this_paths : Int32) (k_starts : (Nat → Int32)) (k_sizes : (Nat → Int32)) (k_links : (Nat → Int32)) (k_lefts : (Nat → Int32)) (k_rights : (Nat → Int32)) (j128_1 : Int32 → Int32 → (Nat → Int32) → Option (Int32 × (Nat → Int32) × (Nat → Int32) × (Nat → Int32) × (Nat → Int32))) : Nat → Int32 → Int32 → Int32 → Int32 → (Nat → Int32) → Option (Int32 × (Nat → Int32) × (Nat → Int32) × (Nat → Int32) × (Nat → Int32))
  | 0, _, _, _, _, _ => none
  | n_21 + 1, x3_8, x4_9, x5_10, x6_11, k_steps_12 =>
    (if i_this_gates ≤ x6_11 then (j128_1 x4_9 x5_10 k_steps_12) else (bnd (fun (x3_13 : Int32) (x4_14 : Int32) (x5_15 : Int32) (k_steps_16 : (Nat → Int32)) => (bnd (x6_11 + (1 : Int32)) fun (x6_17 : Int32) => f_X2_addIfLinked_L21 N y2 i_this_gates i_this_paths k_starts k_sizes k_links k_lefts k_rights j128_1 n_21 x3_13 x4_14 x5_15 x6_17 k_steps_16)) fun (j122_1 : Int32 → Int32 → Int32 → (Nat → Int32) → Option (Int32 × (Nat → Int32) × (Nat → Int32) × (Nat → Int32) × (Nat → Int32))) => (if ((y2 >>> (((i_this_gates - (1 : Int32)) - x6_11) &&& 31)) &&& (1 : Int32)) = (1 : Int32) then (grd (inb x6_11 8) <| bnd (α := Option (Int32 × (Nat → Int32) × (Nat → Int32) × (Nat → Int32) × (Nat → Int32))) (grd (inb x6_11 8) <| bnd (fun (t_18 : Int32) (t_19 : Int32) => (bnd ((t_19 ||| (t_18 <<< (((2 : Int32) * x6_11) &&& 31)))) fun (x5_20 : Int32) => grd (inb ((i_this_paths * (8 : Int32)) + x4_9) 440) <| bnd (upd k_steps_12 ((i_this_paths * (8 : Int32)) + x4_9).toNatClampNeg x6_11) fun (k_steps_21 : (Nat → Int32)) => bnd (x4_9 + (1 : Int32)) fun (x4_22 : Int32) => bnd (((10 : Int32) + x6_11)) fun (x3_23 : Int32) => j122_1 x3_23 x4_22 x5_20 k_steps_21)) fun (j88_1 : Int32 → Int32 → Option (Int32 × (Nat → Int32) × (Nat → Int32) × (Nat → Int32) × (Nat → Int32))) => (if (k_lefts x6_11.toNatClampNeg) = x3_8 then (j88_1 ((1 : Int32)) x5_10) else (j88_1 ((2 : Int32)) x5_10))) fun (j70_1 : Option (Int32 × (Nat → Int32) × (Nat → Int32) × (Nat → Int32) × (Nat → Int32))) => (if (k_lefts x6_11.toNatClampNeg) = x3_8 then (j70_1) else (grd (inb x6_11 8) <| (if (k_rights x6_11.toNatClampNeg) = x3_8 then (j70_1) else (some (i_this_paths, k_starts, k_sizes, k_links, k_steps_12)))))) else (j122_1 x3_8 x4_9 x5_10 k_steps_12))))
noncomputable def f_X2_addIfLinked (N : Nat) (y1 : Int32) (y2 : Int32) (i_this_gates : Int32) (i_this_paths : Int32) (k_starts : (Nat → Int32)) (k_sizes : (Nat → Int32)) (k_links : (Nat → Int32)) (k_lefts : (Nat → Int32)) (k_steps : (Nat → Int32)) (k_rights : (Nat → Int32)) : Option (Int32 × (Nat → Int32) × (Nat → Int32) × (Nat → Int32) × (Nat → Int32)) :=
  (if i_this_paths < (55 : Int32) then (bnd (fun (x4_1 : Int32) (x5_2 : Int32) (k_steps_3 : (Nat → Int32)) => (grd (inb i_this_paths 55) <| bnd (upd k_starts i_this_paths.toNatClampNeg y1) fun (k_starts_4 : (Nat → Int32)) => grd (inb i_this_paths 55) <| bnd (upd k_sizes i_this_paths.toNatClampNeg x4_1) fun (k_sizes_5 : (Nat → Int32)) => grd (inb i_this_paths 55) <| bnd (upd k_links i_this_paths.toNatClampNeg x5_2) fun (k_links_6 : (Nat → Int32)) => bnd ((i_this_paths + (1 : Int32))) fun (i_paths_7 : Int32) => some (i_paths_7, k_starts_4, k_sizes_5, k_links_6, k_steps_3))) fun (j128_1 : Int32 → Int32 → (Nat → Int32) → Option (Int32 × (Nat → Int32) × (Nat → Int32) × (Nat → Int32) × (Nat → Int32))) => f_X2_addIfLinked_L21 N y2 i_this_gates i_this_paths k_starts k_sizes k_links k_lefts k_rights j128_1 N y1 ((0 : Int32)) ((0 : Int32)) ((0 : Int32)) k_steps) else (some (i_this_paths, k_starts, k_sizes, k_links, k_steps)))
set_option maxHeartbeats 4000000 in
set_option maxRecDepth 100000 in
theorem c_X2_addIfLinked (l : Launch) (D : va_G) (cI cJ cZ cS : ClassId) (sz N : Nat) (a_this a_starts a_sizes a_links a_lefts a_steps a_rights a_told a_nexts : Nat) (i_this_inputs : Int32) (i_this_gates : Int32) (i_this_paths : Int32) (k_starts : (Nat → Int32)) (k_sizes : (Nat → Int32)) (k_links : (Nat → Int32)) (k_lefts : (Nat → Int32)) (k_steps : (Nat → Int32)) (k_rights : (Nat → Int32)) (y1 : Int32) (y2 : Int32) (o_this_paths : Int32) (o_starts : (Nat → Int32)) (o_sizes : (Nat → Int32)) (o_links : (Nat → Int32)) (o_steps : (Nat → Int32)) (hf : f_X2_addIfLinked N y1 y2 i_this_gates i_this_paths k_starts k_sizes k_links k_lefts k_steps k_rights = some (o_this_paths, o_starts, o_sizes, o_links, o_steps)) : MetV l yX2_addIfLinked wsX2_addIfLinked rmX2_addIfLinked D (tyA cI cJ cZ cS) [(a_this, .inr (2, [.int i_this_inputs, .int i_this_gates, .int i_this_paths, .ref a_told, .ref a_lefts, .ref a_rights, .ref a_nexts, .ref a_starts, .ref a_sizes, .ref a_steps, .ref a_links])), (a_starts, .inl (cI, 55, .inl k_starts)), (a_sizes, .inl (cI, 55, .inl k_sizes)), (a_links, .inl (cI, 55, .inl k_links)), (a_lefts, .inl (cI, 8, .inl k_lefts)), (a_steps, .inl (cI, 440, .inl k_steps)), (a_rights, .inl (cI, 8, .inl k_rights))] sz [.ref a_this, .int y1, .int y2] [(a_this, .inr (2, [.int i_this_inputs, .int i_this_gates, .int o_this_paths, .ref a_told, .ref a_lefts, .ref a_rights, .ref a_nexts, .ref a_starts, .ref a_sizes, .ref a_steps, .ref a_links])), (a_starts, .inl (cI, 55, .inl o_starts)), (a_sizes, .inl (cI, 55, .inl o_sizes)), (a_links, .inl (cI, 55, .inl o_links)), (a_lefts, .inl (cI, 8, .inl k_lefts)), (a_steps, .inl (cI, 440, .inl o_steps)), (a_rights, .inl (cI, 8, .inl k_rights))] := by
  refine entV (cc := cX2_addIfLinked) (maxL := 7) (own := RX2) (by decide) rfl rfl (Nat.le_of_ble_eq_true rfl) ?_
  intro p e s m args below meth c A ls Q H locs S hr hw hl hQ
  have hx := S.1.1
  have hb := S.1.2.1
  have hts := S.1.2.2.2.2
  have hl : lv_has ls 7 [(0, .ref a_this), (1, .int y1), (2, .int y2)] := hl
  have hinX2 : ∀ w ∈ u_ws RX2 TX2 11, w ∈ wsX2_addIfLinked := (fun _ h => List.mem_cons_of_mem _ (List.mem_append_right _ h))
  have F15 : FLk s args wsX2_addIfLinked RX2 15 RX2 TX2 11 2 1 := ⟨hinX2, rfl, by decide, hts (.fieldLink RX2 15 "SlowPaths$Net" "gates" "I") (List.mem_of_getElem? (i := 2) rfl)⟩
  have F18 : FLk s args wsX2_addIfLinked RX2 18 RX2 TX2 11 2 2 := ⟨hinX2, rfl, by decide, hts (.fieldLink RX2 18 "SlowPaths$Net" "paths" "I") (List.mem_of_getElem? (i := 1) rfl)⟩
  have F25 : FLk s args wsX2_addIfLinked RX2 25 RX2 TX2 11 2 4 := ⟨hinX2, rfl, by decide, hts (.fieldLink RX2 25 "SlowPaths$Net" "lefts" "[I") (List.mem_of_getElem? (i := 3) rfl)⟩
  have F28 : FLk s args wsX2_addIfLinked RX2 28 RX2 TX2 11 2 5 := ⟨hinX2, rfl, by decide, hts (.fieldLink RX2 28 "SlowPaths$Net" "rights" "[I") (List.mem_of_getElem? (i := 4) rfl)⟩
  have F34 : FLk s args wsX2_addIfLinked RX2 34 RX2 TX2 11 2 7 := ⟨hinX2, rfl, by decide, hts (.fieldLink RX2 34 "SlowPaths$Net" "starts" "[I") (List.mem_of_getElem? (i := 6) rfl)⟩
  have F37 : FLk s args wsX2_addIfLinked RX2 37 RX2 TX2 11 2 8 := ⟨hinX2, rfl, by decide, hts (.fieldLink RX2 37 "SlowPaths$Net" "sizes" "[I") (List.mem_of_getElem? (i := 7) rfl)⟩
  have F40 : FLk s args wsX2_addIfLinked RX2 40 RX2 TX2 11 2 9 := ⟨hinX2, rfl, by decide, hts (.fieldLink RX2 40 "SlowPaths$Net" "steps" "[I") (List.mem_of_getElem? (i := 5) rfl)⟩
  have F43 : FLk s args wsX2_addIfLinked RX2 43 RX2 TX2 11 2 10 := ⟨hinX2, rfl, by decide, hts (.fieldLink RX2 43 "SlowPaths$Net" "links" "[I") (List.mem_of_getElem? (i := 8) rfl)⟩
  have P18 : PLk TX2 11 2 tyX2 false .int := ⟨tyX2_ok, nmX2, rfl, rfl⟩
  have h := hf
  rw [f_X2_addIfLinked] at h
  refine lv_aload_n hx hb dX2_addIfLinked_0 rfl (lv_at hl 0 rfl) ?_
  refine z_get S hw F18 0 rfl rfl dX2_addIfLinked_1 ?_
  refine lv_bipush (v := (55 : Int32)) hx hb dX2_addIfLinked_4 (by decide) ?_
  refine lv_icmp_lt (tgt := 10) hx hb dX2_addIfLinked_6 (by decide) (fun hc => ?_) (fun hc => ?_)
  · replace h := if_t hc h
    refine lv_iload_n hx hb dX2_addIfLinked_10 rfl (lv_at hl 1 rfl) ?_
    refine lv_istore_n (lv' := [(3, .int y1), (0, .ref a_this), (1, .int y1), (2, .int y2)]) hx hb dX2_addIfLinked_11 rfl hl (by decide) rfl (fun ls hl => ?_)
    refine lv_iconst (v := (0 : Int32)) hx hb dX2_addIfLinked_12 (by decide) ?_
    refine lv_istore (lv' := [(4, .int (0 : Int32)), (3, .int y1), (0, .ref a_this), (1, .int y1), (2, .int y2)]) hx hb dX2_addIfLinked_13 hl (by decide) rfl (fun ls hl => ?_)
    refine lv_iconst (v := (0 : Int32)) hx hb dX2_addIfLinked_15 (by decide) ?_
    refine lv_istore (lv' := [(5, .int (0 : Int32)), (4, .int (0 : Int32)), (3, .int y1), (0, .ref a_this), (1, .int y1), (2, .int y2)]) hx hb dX2_addIfLinked_16 hl (by decide) rfl (fun ls hl => ?_)
    refine lv_iconst (v := (0 : Int32)) hx hb dX2_addIfLinked_18 (by decide) ?_
    refine lv_istore (lv' := [(6, .int (0 : Int32)), (5, .int (0 : Int32)), (4, .int (0 : Int32)), (3, .int y1), (0, .ref a_this), (1, .int y1), (2, .int y2)]) hx hb dX2_addIfLinked_19 hl (by decide) rfl (fun ls hl => ?_)
    obtain ⟨j128_1, ej128_1, h⟩ := bnd_ex h
    have hj128_1 : ∀ (x4_1 : Int32) (x5_2 : Int32) (k_steps_3 : (Nat → Int32)) (H : Heap) (locs : List Loc) (ls : Array Slot), j128_1 x4_1 x5_2 k_steps_3 = some (o_this_paths, o_starts, o_sizes, o_links, o_steps) → Wd D (tyA cI cJ cZ cS) A s [(a_this, .inr (2, [.int i_this_inputs, .int i_this_gates, .int i_this_paths, .ref a_told, .ref a_lefts, .ref a_rights, .ref a_nexts, .ref a_starts, .ref a_sizes, .ref a_steps, .ref a_links])), (a_starts, .inl (cI, 55, .inl k_starts)), (a_sizes, .inl (cI, 55, .inl k_sizes)), (a_links, .inl (cI, 55, .inl k_links)), (a_lefts, .inl (cI, 8, .inl k_lefts)), (a_steps, .inl (cI, 440, .inl k_steps_3)), (a_rights, .inl (cI, 8, .inl k_rights))] H locs → lv_has ls 7 [(0, .ref a_this), (1, .int y1), (4, .int x4_1), (5, .int x5_2)] → W p l e rmX2_addIfLinked s m args below meth c H locs 0 0 Q (F0 m 128 ls []) := by
      intro x4_1 x5_2 k_steps_3 H locs ls h hw hl
      replace h := ap3 ej128_1 h
      refine lv_aload_n hx hb dX2_addIfLinked_128 rfl (lv_at hl 0 rfl) ?_
      refine z_get S hw F34 0 rfl rfl dX2_addIfLinked_129 ?_
      refine lv_aload_n hx hb dX2_addIfLinked_132 rfl (lv_at hl 0 rfl) ?_
      refine z_get S hw F18 0 rfl rfl dX2_addIfLinked_133 ?_
      refine lv_iload_n hx hb dX2_addIfLinked_136 rfl (lv_at hl 1 rfl) ?_
      obtain ⟨hg, h⟩ := grd_el h
      obtain ⟨k_starts_4, ek_starts_4, h⟩ := bnd_ex h
      refine z_iast S hw ek_starts_4 1 0 rfl rfl hg dX2_addIfLinked_137 (fun H locs hw => ?_)
      refine lv_aload_n hx hb dX2_addIfLinked_138 rfl (lv_at hl 0 rfl) ?_
      refine z_get S hw F37 0 rfl rfl dX2_addIfLinked_139 ?_
      refine lv_aload_n hx hb dX2_addIfLinked_142 rfl (lv_at hl 0 rfl) ?_
      refine z_get S hw F18 0 rfl rfl dX2_addIfLinked_143 ?_
      refine lv_iload hx hb dX2_addIfLinked_146 (lv_at hl 2 rfl) ?_
      obtain ⟨hg, h⟩ := grd_el h
      obtain ⟨k_sizes_5, ek_sizes_5, h⟩ := bnd_ex h
      refine z_iast S hw ek_sizes_5 2 0 rfl rfl hg dX2_addIfLinked_148 (fun H locs hw => ?_)
      refine lv_aload_n hx hb dX2_addIfLinked_149 rfl (lv_at hl 0 rfl) ?_
      refine z_get S hw F43 0 rfl rfl dX2_addIfLinked_150 ?_
      refine lv_aload_n hx hb dX2_addIfLinked_153 rfl (lv_at hl 0 rfl) ?_
      refine z_get S hw F18 0 rfl rfl dX2_addIfLinked_154 ?_
      refine lv_iload hx hb dX2_addIfLinked_157 (lv_at hl 3 rfl) ?_
      obtain ⟨hg, h⟩ := grd_el h
      obtain ⟨k_links_6, ek_links_6, h⟩ := bnd_ex h
      refine z_iast S hw ek_links_6 3 0 rfl rfl hg dX2_addIfLinked_159 (fun H locs hw => ?_)
      refine lv_aload_n hx hb dX2_addIfLinked_160 rfl (lv_at hl 0 rfl) ?_
      refine lv_dup hx hb dX2_addIfLinked_161 rfl ?_
      refine z_get S hw F18 0 rfl rfl dX2_addIfLinked_162 ?_
      refine lv_iconst (v := (1 : Int32)) hx hb dX2_addIfLinked_165 (by decide) ?_
      refine lv_iadd hx hb dX2_addIfLinked_166 ?_
      refine lv_topi (fun i_paths_7 ei_paths_7 => ?_)
      replace h := bnd_at ei_paths_7 h
      refine z_put S hw F18 P18 rfl rfl 0 rfl (Nat.le_of_ble_eq_true rfl) dX2_addIfLinked_167 (fun H locs hw => ?_)
      cases h
      exact z_vret S hQ hr hw [0, 1, 2, 3, 4, 5, 6] rfl rfl dX2_addIfLinked_170
    have hL21_1 : ∀ (nf : Nat) (x3_8 : Int32) (x4_9 : Int32) (x5_10 : Int32) (x6_11 : Int32) (k_steps_12 : (Nat → Int32)) (H : Heap) (locs : List Loc) (ls : Array Slot), f_X2_addIfLinked_L21 N y2 i_this_gates i_this_paths k_starts k_sizes k_links k_lefts k_rights j128_1 nf x3_8 x4_9 x5_10 x6_11 k_steps_12 = some (o_this_paths, o_starts, o_sizes, o_links, o_steps) → Wd D (tyA cI cJ cZ cS) A s [(a_this, .inr (2, [.int i_this_inputs, .int i_this_gates, .int i_this_paths, .ref a_told, .ref a_lefts, .ref a_rights, .ref a_nexts, .ref a_starts, .ref a_sizes, .ref a_steps, .ref a_links])), (a_starts, .inl (cI, 55, .inl k_starts)), (a_sizes, .inl (cI, 55, .inl k_sizes)), (a_links, .inl (cI, 55, .inl k_links)), (a_lefts, .inl (cI, 8, .inl k_lefts)), (a_steps, .inl (cI, 440, .inl k_steps_12)), (a_rights, .inl (cI, 8, .inl k_rights))] H locs → lv_has ls 7 [(0, .ref a_this), (1, .int y1), (2, .int y2), (3, .int x3_8), (4, .int x4_9), (5, .int x5_10), (6, .int x6_11)] → W p l e rmX2_addIfLinked s m args below meth c H locs 0 0 Q (F0 m 21 ls []) := by
      intro nf
      induction nf with
      | zero =>
        intro x3_8 x4_9 x5_10 x6_11 k_steps_12 H locs ls h
        rw [f_X2_addIfLinked_L21] at h
        cases h
      | succ n_21 ih_21 =>
        intro x3_8 x4_9 x5_10 x6_11 k_steps_12 H locs ls h hw hl
        rw [f_X2_addIfLinked_L21] at h
        refine lv_iload hx hb dX2_addIfLinked_21 (lv_at hl 6 rfl) ?_
        refine lv_aload_n hx hb dX2_addIfLinked_23 rfl (lv_at hl 0 rfl) ?_
        refine z_get S hw F15 0 rfl rfl dX2_addIfLinked_24 ?_
        refine lv_icmp_ge (tgt := 128) hx hb dX2_addIfLinked_27 (by decide) (fun hc => ?_) (fun hc => ?_)
        · replace h := if_t hc h
          exact hj128_1 x4_9 x5_10 k_steps_12 H locs ls h hw (lv_sub hl [0, 1, 4, 5] rfl)
        · replace h := if_f hc h
          refine lv_iload_n hx hb dX2_addIfLinked_30 rfl (lv_at hl 2 rfl) ?_
          refine lv_aload_n hx hb dX2_addIfLinked_31 rfl (lv_at hl 0 rfl) ?_
          refine z_get S hw F15 0 rfl rfl dX2_addIfLinked_32 ?_
          refine lv_iconst (v := (1 : Int32)) hx hb dX2_addIfLinked_35 (by decide) ?_
          refine lv_isub hx hb dX2_addIfLinked_36 ?_
          refine lv_iload hx hb dX2_addIfLinked_37 (lv_at hl 6 rfl) ?_
          refine lv_isub hx hb dX2_addIfLinked_39 ?_
          refine lv_ishr hx hb dX2_addIfLinked_40 ?_
          refine lv_iconst (v := (1 : Int32)) hx hb dX2_addIfLinked_41 (by decide) ?_
          refine lv_iand hx hb dX2_addIfLinked_42 ?_
          refine lv_iconst (v := (1 : Int32)) hx hb dX2_addIfLinked_43 (by decide) ?_
          obtain ⟨j122_1, ej122_1, h⟩ := bnd_ex h
          have hj122_1 : ∀ (x3_13 : Int32) (x4_14 : Int32) (x5_15 : Int32) (k_steps_16 : (Nat → Int32)) (H : Heap) (locs : List Loc) (ls : Array Slot), j122_1 x3_13 x4_14 x5_15 k_steps_16 = some (o_this_paths, o_starts, o_sizes, o_links, o_steps) → Wd D (tyA cI cJ cZ cS) A s [(a_this, .inr (2, [.int i_this_inputs, .int i_this_gates, .int i_this_paths, .ref a_told, .ref a_lefts, .ref a_rights, .ref a_nexts, .ref a_starts, .ref a_sizes, .ref a_steps, .ref a_links])), (a_starts, .inl (cI, 55, .inl k_starts)), (a_sizes, .inl (cI, 55, .inl k_sizes)), (a_links, .inl (cI, 55, .inl k_links)), (a_lefts, .inl (cI, 8, .inl k_lefts)), (a_steps, .inl (cI, 440, .inl k_steps_16)), (a_rights, .inl (cI, 8, .inl k_rights))] H locs → lv_has ls 7 [(0, .ref a_this), (1, .int y1), (2, .int y2), (3, .int x3_13), (4, .int x4_14), (5, .int x5_15), (6, .int x6_11)] → W p l e rmX2_addIfLinked s m args below meth c H locs 0 0 Q (F0 m 122 ls []) := by
            intro x3_13 x4_14 x5_15 k_steps_16 H locs ls h hw hl
            replace h := ap4 ej122_1 h
            obtain ⟨x6_17, ex6_17, h⟩ := bnd_ex h
            refine lv_iinc (v := x6_17) (lv' := [(6, .int x6_17), (0, .ref a_this), (1, .int y1), (2, .int y2), (3, .int x3_13), (4, .int x4_14), (5, .int x5_15)]) hx hb dX2_addIfLinked_122 hl (k := 6) rfl (by rw [ex6_17]; rfl) (by decide) rfl (fun ls hl => ?_)
            refine lv_goto (tgt := 21) hx hb dX2_addIfLinked_125 (by decide) ?_
            exact ih_21 x3_13 x4_14 x5_15 x6_17 k_steps_16 H locs ls h hw (lv_sub hl [1, 2, 3, 4, 5, 6, 0] rfl)
          refine lv_icmp_ne (tgt := 122) hx hb dX2_addIfLinked_44 (by decide) (fun hc => ?_) (fun hc => ?_)
          · replace h := if_f hc h
            exact hj122_1 x3_8 x4_9 x5_10 k_steps_12 H locs ls h hw hl
          · replace h := if_t hc h
            refine lv_aload_n hx hb dX2_addIfLinked_47 rfl (lv_at hl 0 rfl) ?_
            refine z_get S hw F25 0 rfl rfl dX2_addIfLinked_48 ?_
            refine lv_iload hx hb dX2_addIfLinked_51 (lv_at hl 6 rfl) ?_
            obtain ⟨hg, h⟩ := grd_el h
            refine z_iald S hw 4 0 rfl rfl hg dX2_addIfLinked_53 ?_
            refine lv_iload_n hx hb dX2_addIfLinked_54 rfl (lv_at hl 3 rfl) ?_
            obtain ⟨j70_1, ej70_1, h⟩ := bnd_ex h
            have hj70_1 : ∀ (H : Heap) (locs : List Loc) (ls : Array Slot), j70_1 = some (o_this_paths, o_starts, o_sizes, o_links, o_steps) → Wd D (tyA cI cJ cZ cS) A s [(a_this, .inr (2, [.int i_this_inputs, .int i_this_gates, .int i_this_paths, .ref a_told, .ref a_lefts, .ref a_rights, .ref a_nexts, .ref a_starts, .ref a_sizes, .ref a_steps, .ref a_links])), (a_starts, .inl (cI, 55, .inl k_starts)), (a_sizes, .inl (cI, 55, .inl k_sizes)), (a_links, .inl (cI, 55, .inl k_links)), (a_lefts, .inl (cI, 8, .inl k_lefts)), (a_steps, .inl (cI, 440, .inl k_steps_12)), (a_rights, .inl (cI, 8, .inl k_rights))] H locs → lv_has ls 7 [(0, .ref a_this), (1, .int y1), (2, .int y2), (3, .int x3_8), (4, .int x4_9), (5, .int x5_10), (6, .int x6_11)] → W p l e rmX2_addIfLinked s m args below meth c H locs 0 0 Q (F0 m 70 ls []) := by
              intro H locs ls h hw hl
              replace h := ap0 ej70_1 h
              refine lv_iload hx hb dX2_addIfLinked_70 (lv_at hl 5 rfl) ?_
              refine lv_aload_n hx hb dX2_addIfLinked_72 rfl (lv_at hl 0 rfl) ?_
              refine z_get S hw F25 0 rfl rfl dX2_addIfLinked_73 ?_
              refine lv_iload hx hb dX2_addIfLinked_76 (lv_at hl 6 rfl) ?_
              obtain ⟨hg, h⟩ := grd_el h
              refine z_iald S hw 4 0 rfl rfl hg dX2_addIfLinked_78 ?_
              refine lv_iload_n hx hb dX2_addIfLinked_79 rfl (lv_at hl 3 rfl) ?_
              obtain ⟨j88_1, ej88_1, h⟩ := bnd_ex h
              have hj88_1 : ∀ (t_18 : Int32) (t_19 : Int32) (H : Heap) (locs : List Loc) (ls : Array Slot), j88_1 t_18 t_19 = some (o_this_paths, o_starts, o_sizes, o_links, o_steps) → Wd D (tyA cI cJ cZ cS) A s [(a_this, .inr (2, [.int i_this_inputs, .int i_this_gates, .int i_this_paths, .ref a_told, .ref a_lefts, .ref a_rights, .ref a_nexts, .ref a_starts, .ref a_sizes, .ref a_steps, .ref a_links])), (a_starts, .inl (cI, 55, .inl k_starts)), (a_sizes, .inl (cI, 55, .inl k_sizes)), (a_links, .inl (cI, 55, .inl k_links)), (a_lefts, .inl (cI, 8, .inl k_lefts)), (a_steps, .inl (cI, 440, .inl k_steps_12)), (a_rights, .inl (cI, 8, .inl k_rights))] H locs → lv_has ls 7 [(0, .ref a_this), (1, .int y1), (2, .int y2), (4, .int x4_9), (6, .int x6_11)] → W p l e rmX2_addIfLinked s m args below meth c H locs 0 0 Q (F0 m 88 ls [.int t_18, .int t_19]) := by
                intro t_18 t_19 H locs ls h hw hl
                replace h := ap2 ej88_1 h
                refine lv_iconst (v := (2 : Int32)) hx hb dX2_addIfLinked_88 (by decide) ?_
                refine lv_iload hx hb dX2_addIfLinked_89 (lv_at hl 4 rfl) ?_
                refine lv_imul hx hb dX2_addIfLinked_91 ?_
                refine lv_ishl hx hb dX2_addIfLinked_92 ?_
                refine lv_ior hx hb dX2_addIfLinked_93 ?_
                refine lv_topi (fun x5_20 ex5_20 => ?_)
                replace h := bnd_at ex5_20 h
                refine lv_istore (lv' := [(5, .int x5_20), (0, .ref a_this), (1, .int y1), (2, .int y2), (4, .int x4_9), (6, .int x6_11)]) hx hb dX2_addIfLinked_94 hl (by decide) rfl (fun ls hl => ?_)
                refine lv_aload_n hx hb dX2_addIfLinked_96 rfl (lv_at hl 1 rfl) ?_
                refine z_get S hw F40 0 rfl rfl dX2_addIfLinked_97 ?_
                refine lv_aload_n hx hb dX2_addIfLinked_100 rfl (lv_at hl 1 rfl) ?_
                refine z_get S hw F18 0 rfl rfl dX2_addIfLinked_101 ?_
                refine lv_bipush (v := (8 : Int32)) hx hb dX2_addIfLinked_104 (by decide) ?_
                refine lv_imul hx hb dX2_addIfLinked_106 ?_
                refine lv_iload hx hb dX2_addIfLinked_107 (lv_at hl 4 rfl) ?_
                refine lv_iadd hx hb dX2_addIfLinked_109 ?_
                refine lv_iload hx hb dX2_addIfLinked_110 (lv_at hl 5 rfl) ?_
                obtain ⟨hg, h⟩ := grd_el h
                obtain ⟨k_steps_21, ek_steps_21, h⟩ := bnd_ex h
                refine z_iast S hw ek_steps_21 5 0 rfl rfl hg dX2_addIfLinked_112 (fun H locs hw => ?_)
                obtain ⟨x4_22, ex4_22, h⟩ := bnd_ex h
                refine lv_iinc (v := x4_22) (lv' := [(4, .int x4_22), (5, .int x5_20), (0, .ref a_this), (1, .int y1), (2, .int y2), (6, .int x6_11)]) hx hb dX2_addIfLinked_113 hl (k := 4) rfl (by rw [ex4_22]; rfl) (by decide) rfl (fun ls hl => ?_)
                refine lv_bipush (v := (10 : Int32)) hx hb dX2_addIfLinked_116 (by decide) ?_
                refine lv_iload hx hb dX2_addIfLinked_118 (lv_at hl 5 rfl) ?_
                refine lv_iadd hx hb dX2_addIfLinked_120 ?_
                refine lv_topi (fun x3_23 ex3_23 => ?_)
                replace h := bnd_at ex3_23 h
                refine lv_istore_n (lv' := [(3, .int x3_23), (4, .int x4_22), (5, .int x5_20), (0, .ref a_this), (1, .int y1), (2, .int y2), (6, .int x6_11)]) hx hb dX2_addIfLinked_121 rfl hl (by decide) rfl (fun ls hl => ?_)
                exact hj122_1 x3_23 x4_22 x5_20 k_steps_21 H locs ls h hw (lv_sub hl [3, 4, 5, 0, 1, 2, 6] rfl)
              refine lv_icmp_ne (tgt := 87) hx hb dX2_addIfLinked_80 (by decide) (fun hc => ?_) (fun hc => ?_)
              · replace h := if_f hc h
                refine lv_iconst (v := (2 : Int32)) hx hb dX2_addIfLinked_87 (by decide) ?_
                exact hj88_1 ((2 : Int32)) x5_10 H locs ls h hw (lv_sub hl [0, 1, 2, 4, 6] rfl)
              · replace h := if_t hc h
                refine lv_iconst (v := (1 : Int32)) hx hb dX2_addIfLinked_83 (by decide) ?_
                refine lv_goto (tgt := 88) hx hb dX2_addIfLinked_84 (by decide) ?_
                exact hj88_1 ((1 : Int32)) x5_10 H locs ls h hw (lv_sub hl [0, 1, 2, 4, 6] rfl)
            refine lv_icmp_eq (tgt := 70) hx hb dX2_addIfLinked_55 (by decide) (fun hc => ?_) (fun hc => ?_)
            · replace h := if_t hc h
              exact hj70_1  H locs ls h hw hl
            · replace h := if_f hc h
              refine lv_aload_n hx hb dX2_addIfLinked_58 rfl (lv_at hl 0 rfl) ?_
              refine z_get S hw F28 0 rfl rfl dX2_addIfLinked_59 ?_
              refine lv_iload hx hb dX2_addIfLinked_62 (lv_at hl 6 rfl) ?_
              obtain ⟨hg, h⟩ := grd_el h
              refine z_iald S hw 6 0 rfl rfl hg dX2_addIfLinked_64 ?_
              refine lv_iload_n hx hb dX2_addIfLinked_65 rfl (lv_at hl 3 rfl) ?_
              refine lv_icmp_eq (tgt := 70) hx hb dX2_addIfLinked_66 (by decide) (fun hc => ?_) (fun hc => ?_)
              · replace h := if_t hc h
                exact hj70_1  H locs ls h hw hl
              · replace h := if_f hc h
                cases h
                exact z_vret S hQ hr hw [0, 1, 2, 3, 4, 5, 6] rfl rfl dX2_addIfLinked_69
    exact hL21_1 N y1 ((0 : Int32)) ((0 : Int32)) ((0 : Int32)) k_steps H locs ls h hw (lv_sub hl [4, 5, 6, 3, 2, 1, 0] rfl)
  · replace h := if_f hc h
    cases h
    exact z_vret S hQ hr hw [0, 1, 2, 3, 4, 5, 6] rfl rfl dX2_addIfLinked_9
abbrev rmX2_numberPaths : Room := { frames := 1, cells := 0, slots := 0, locals := 26 }
theorem dv_X2_numberPaths : yX2_numberPaths.cls = RX2 ∧ yX2_numberPaths.cls ≠ "java/lang/invoke/MethodHandle" ∧ yX2_numberPaths.cls ≠ "java/lang/invoke/VarHandle" ∧ (parseMethodDescriptor yX2_numberPaths.desc).map (fun d => d.parameters.length) = some 0 := by decide +kernel
noncomputable def f_X2_numberPaths_L24 (N : Nat) (i_this_gates : Int32) (k_lefts : (Nat → Int32)) (k_rights : (Nat → Int32)) (x1_6 : Int32) (j40_1 : Int32 → (Nat → Int32) → (Nat → Int32) → (Nat → Int32) → (Nat → Int32) → Option (Int32 × (Nat → Int32) × (Nat → Int32) × (Nat → Int32) × (Nat → Int32))) : Nat → Int32 → Int32 → (Nat → Int32) → (Nat → Int32) → (Nat → Int32) → (Nat → Int32) → Option (Int32 × (Nat → Int32) × (Nat → Int32) × (Nat → Int32) × (Nat → Int32))
  | 0, _, _, _, _, _, _ => none
  | n_24 + 1, x2_19, i_this_paths_20, k_starts_21, k_sizes_22, k_links_23, k_steps_24 =>
    (if x2_19 ≤ (0 : Int32) then (j40_1 i_this_paths_20 k_starts_21 k_sizes_22 k_links_23 k_steps_24) else (obd5 (f_X2_addIfLinked N x1_6 x2_19 i_this_gates i_this_paths_20 k_starts_21 k_sizes_22 k_links_23 k_lefts k_steps_24 k_rights) fun (i_this_paths_25 : Int32) (k_starts_26 : (Nat → Int32)) (k_sizes_27 : (Nat → Int32)) (k_links_28 : (Nat → Int32)) (k_steps_29 : (Nat → Int32)) => bnd (x2_19 + (-2 : Int32)) fun (x2_30 : Int32) => f_X2_numberPaths_L24 N i_this_gates k_lefts k_rights x1_6 j40_1 n_24 x2_30 i_this_paths_25 k_starts_26 k_sizes_27 k_links_28 k_steps_29))
noncomputable def f_X2_numberPaths_L7 (N : Nat) (i_this_inputs : Int32) (i_this_gates : Int32) (k_lefts : (Nat → Int32)) (k_rights : (Nat → Int32)) (j46_1 : Int32 → (Nat → Int32) → (Nat → Int32) → (Nat → Int32) → (Nat → Int32) → Option (Int32 × (Nat → Int32) × (Nat → Int32) × (Nat → Int32) × (Nat → Int32))) : Nat → Int32 → Int32 → (Nat → Int32) → (Nat → Int32) → (Nat → Int32) → (Nat → Int32) → Option (Int32 × (Nat → Int32) × (Nat → Int32) × (Nat → Int32) × (Nat → Int32))
  | 0, _, _, _, _, _, _ => none
  | n_7 + 1, x1_6, i_this_paths_7, k_starts_8, k_sizes_9, k_links_10, k_steps_11 =>
    (if i_this_inputs ≤ x1_6 then (j46_1 i_this_paths_7 k_starts_8 k_sizes_9 k_links_10 k_steps_11) else (bnd ((((1 : Int32) <<< (i_this_gates &&& 31)) - (1 : Int32))) fun (x2_12 : Int32) => bnd (fun (i_this_paths_13 : Int32) (k_starts_14 : (Nat → Int32)) (k_sizes_15 : (Nat → Int32)) (k_links_16 : (Nat → Int32)) (k_steps_17 : (Nat → Int32)) => (bnd (x1_6 + (1 : Int32)) fun (x1_18 : Int32) => f_X2_numberPaths_L7 N i_this_inputs i_this_gates k_lefts k_rights j46_1 n_7 x1_18 i_this_paths_13 k_starts_14 k_sizes_15 k_links_16 k_steps_17)) fun (j40_1 : Int32 → (Nat → Int32) → (Nat → Int32) → (Nat → Int32) → (Nat → Int32) → Option (Int32 × (Nat → Int32) × (Nat → Int32) × (Nat → Int32) × (Nat → Int32))) => f_X2_numberPaths_L24 N i_this_gates k_lefts k_rights x1_6 j40_1 N x2_12 i_this_paths_7 k_starts_8 k_sizes_9 k_links_10 k_steps_11))
noncomputable def f_X2_numberPaths (N : Nat)  (i_this_inputs : Int32) (i_this_gates : Int32) (i_this_paths : Int32) (k_starts : (Nat → Int32)) (k_sizes : (Nat → Int32)) (k_links : (Nat → Int32)) (k_lefts : (Nat → Int32)) (k_steps : (Nat → Int32)) (k_rights : (Nat → Int32)) : Option (Int32 × (Nat → Int32) × (Nat → Int32) × (Nat → Int32) × (Nat → Int32)) :=
  bnd (fun (i_this_paths_1 : Int32) (k_starts_2 : (Nat → Int32)) (k_sizes_3 : (Nat → Int32)) (k_links_4 : (Nat → Int32)) (k_steps_5 : (Nat → Int32)) => (some (i_this_paths_1, k_starts_2, k_sizes_3, k_links_4, k_steps_5))) fun (j46_1 : Int32 → (Nat → Int32) → (Nat → Int32) → (Nat → Int32) → (Nat → Int32) → Option (Int32 × (Nat → Int32) × (Nat → Int32) × (Nat → Int32) × (Nat → Int32))) => f_X2_numberPaths_L7 N i_this_inputs i_this_gates k_lefts k_rights j46_1 N ((0 : Int32)) ((0 : Int32)) k_starts k_sizes k_links k_steps
set_option maxHeartbeats 4000000 in
set_option maxRecDepth 100000 in
theorem c_X2_numberPaths (l : Launch) (D : va_G) (cI cJ cZ cS : ClassId) (sz N : Nat) (a_this a_starts a_sizes a_links a_lefts a_steps a_rights a_told a_nexts : Nat) (i_this_inputs : Int32) (i_this_gates : Int32) (i_this_paths : Int32) (k_starts : (Nat → Int32)) (k_sizes : (Nat → Int32)) (k_links : (Nat → Int32)) (k_lefts : (Nat → Int32)) (k_steps : (Nat → Int32)) (k_rights : (Nat → Int32))  (o_this_paths : Int32) (o_starts : (Nat → Int32)) (o_sizes : (Nat → Int32)) (o_links : (Nat → Int32)) (o_steps : (Nat → Int32)) (hf : f_X2_numberPaths N i_this_inputs i_this_gates i_this_paths k_starts k_sizes k_links k_lefts k_steps k_rights = some (o_this_paths, o_starts, o_sizes, o_links, o_steps)) : MetV l yX2_numberPaths wsX2_numberPaths rmX2_numberPaths D (tyA cI cJ cZ cS) [(a_this, .inr (2, [.int i_this_inputs, .int i_this_gates, .int i_this_paths, .ref a_told, .ref a_lefts, .ref a_rights, .ref a_nexts, .ref a_starts, .ref a_sizes, .ref a_steps, .ref a_links])), (a_starts, .inl (cI, 55, .inl k_starts)), (a_sizes, .inl (cI, 55, .inl k_sizes)), (a_links, .inl (cI, 55, .inl k_links)), (a_lefts, .inl (cI, 8, .inl k_lefts)), (a_steps, .inl (cI, 440, .inl k_steps)), (a_rights, .inl (cI, 8, .inl k_rights))] sz [.ref a_this] [(a_this, .inr (2, [.int i_this_inputs, .int i_this_gates, .int o_this_paths, .ref a_told, .ref a_lefts, .ref a_rights, .ref a_nexts, .ref a_starts, .ref a_sizes, .ref a_steps, .ref a_links])), (a_starts, .inl (cI, 55, .inl o_starts)), (a_sizes, .inl (cI, 55, .inl o_sizes)), (a_links, .inl (cI, 55, .inl o_links)), (a_lefts, .inl (cI, 8, .inl k_lefts)), (a_steps, .inl (cI, 440, .inl o_steps)), (a_rights, .inl (cI, 8, .inl k_rights))] := by
  refine entV (cc := cX2_numberPaths) (maxL := 3) (own := RX2) (by decide) rfl rfl (Nat.le_of_ble_eq_true rfl) ?_
  intro p e s m args below meth c A ls Q H locs S hr hw hl hQ
  have hx := S.1.1
  have hb := S.1.2.1
  have hts := S.1.2.2.2.2
  have hl : lv_has ls 3 [(0, .ref a_this)] := hl
  have hinX2 : ∀ w ∈ u_ws RX2 TX2 11, w ∈ wsX2_numberPaths := (fun _ h => List.mem_cons_of_mem _ (List.mem_append_right _ h))
  have F9 : FLk s args wsX2_numberPaths RX2 9 RX2 TX2 11 2 0 := ⟨hinX2, rfl, by decide, hts (.fieldLink RX2 9 "SlowPaths$Net" "inputs" "I") (List.mem_of_getElem? (i := 2) rfl)⟩
  have F15 : FLk s args wsX2_numberPaths RX2 15 RX2 TX2 11 2 1 := ⟨hinX2, rfl, by decide, hts (.fieldLink RX2 15 "SlowPaths$Net" "gates" "I") (List.mem_of_getElem? (i := 3) rfl)⟩
  have F18 : FLk s args wsX2_numberPaths RX2 18 RX2 TX2 11 2 2 := ⟨hinX2, rfl, by decide, hts (.fieldLink RX2 18 "SlowPaths$Net" "paths" "I") (List.mem_of_getElem? (i := 1) rfl)⟩
  have P18 : PLk TX2 11 2 tyX2 false .int := ⟨tyX2_ok, nmX2, rfl, rfl⟩
  have h := hf
  rw [f_X2_numberPaths] at h
  refine lv_aload_n hx hb dX2_numberPaths_0 rfl (lv_at hl 0 rfl) ?_
  refine lv_iconst (v := (0 : Int32)) hx hb dX2_numberPaths_1 (by decide) ?_
  refine z_put S hw F18 P18 rfl rfl 0 rfl (Nat.le_of_ble_eq_true rfl) dX2_numberPaths_2 (fun H locs hw => ?_)
  refine lv_iconst (v := (0 : Int32)) hx hb dX2_numberPaths_5 (by decide) ?_
  refine lv_istore_n (lv' := [(1, .int (0 : Int32)), (0, .ref a_this)]) hx hb dX2_numberPaths_6 rfl hl (by decide) rfl (fun ls hl => ?_)
  obtain ⟨j46_1, ej46_1, h⟩ := bnd_ex h
  have hj46_1 : ∀ (i_this_paths_1 : Int32) (k_starts_2 : (Nat → Int32)) (k_sizes_3 : (Nat → Int32)) (k_links_4 : (Nat → Int32)) (k_steps_5 : (Nat → Int32)) (H : Heap) (locs : List Loc) (ls : Array Slot), j46_1 i_this_paths_1 k_starts_2 k_sizes_3 k_links_4 k_steps_5 = some (o_this_paths, o_starts, o_sizes, o_links, o_steps) → Wd D (tyA cI cJ cZ cS) A s [(a_this, .inr (2, [.int i_this_inputs, .int i_this_gates, .int i_this_paths_1, .ref a_told, .ref a_lefts, .ref a_rights, .ref a_nexts, .ref a_starts, .ref a_sizes, .ref a_steps, .ref a_links])), (a_starts, .inl (cI, 55, .inl k_starts_2)), (a_sizes, .inl (cI, 55, .inl k_sizes_3)), (a_links, .inl (cI, 55, .inl k_links_4)), (a_lefts, .inl (cI, 8, .inl k_lefts)), (a_steps, .inl (cI, 440, .inl k_steps_5)), (a_rights, .inl (cI, 8, .inl k_rights))] H locs → lv_has ls 3 [] → W p l e rmX2_numberPaths s m args below meth c H locs 0 0 Q (F0 m 46 ls []) := by
    intro i_this_paths_1 k_starts_2 k_sizes_3 k_links_4 k_steps_5 H locs ls h hw hl
    replace h := ap5 ej46_1 h
    cases h
    exact z_vret S hQ hr hw [0, 1, 2, 3, 4, 5, 6] rfl rfl dX2_numberPaths_46
  have hL7_1 : ∀ (nf : Nat) (x1_6 : Int32) (i_this_paths_7 : Int32) (k_starts_8 : (Nat → Int32)) (k_sizes_9 : (Nat → Int32)) (k_links_10 : (Nat → Int32)) (k_steps_11 : (Nat → Int32)) (H : Heap) (locs : List Loc) (ls : Array Slot), f_X2_numberPaths_L7 N i_this_inputs i_this_gates k_lefts k_rights j46_1 nf x1_6 i_this_paths_7 k_starts_8 k_sizes_9 k_links_10 k_steps_11 = some (o_this_paths, o_starts, o_sizes, o_links, o_steps) → Wd D (tyA cI cJ cZ cS) A s [(a_this, .inr (2, [.int i_this_inputs, .int i_this_gates, .int i_this_paths_7, .ref a_told, .ref a_lefts, .ref a_rights, .ref a_nexts, .ref a_starts, .ref a_sizes, .ref a_steps, .ref a_links])), (a_starts, .inl (cI, 55, .inl k_starts_8)), (a_sizes, .inl (cI, 55, .inl k_sizes_9)), (a_links, .inl (cI, 55, .inl k_links_10)), (a_lefts, .inl (cI, 8, .inl k_lefts)), (a_steps, .inl (cI, 440, .inl k_steps_11)), (a_rights, .inl (cI, 8, .inl k_rights))] H locs → lv_has ls 3 [(0, .ref a_this), (1, .int x1_6)] → W p l e rmX2_numberPaths s m args below meth c H locs 0 0 Q (F0 m 7 ls []) := by
    intro nf
    induction nf with
    | zero =>
      intro x1_6 i_this_paths_7 k_starts_8 k_sizes_9 k_links_10 k_steps_11 H locs ls h
      rw [f_X2_numberPaths_L7] at h
      cases h
    | succ n_7 ih_7 =>
      intro x1_6 i_this_paths_7 k_starts_8 k_sizes_9 k_links_10 k_steps_11 H locs ls h hw hl
      rw [f_X2_numberPaths_L7] at h
      refine lv_iload_n hx hb dX2_numberPaths_7 rfl (lv_at hl 1 rfl) ?_
      refine lv_aload_n hx hb dX2_numberPaths_8 rfl (lv_at hl 0 rfl) ?_
      refine z_get S hw F9 0 rfl rfl dX2_numberPaths_9 ?_
      refine lv_icmp_ge (tgt := 46) hx hb dX2_numberPaths_12 (by decide) (fun hc => ?_) (fun hc => ?_)
      · replace h := if_t hc h
        exact hj46_1 i_this_paths_7 k_starts_8 k_sizes_9 k_links_10 k_steps_11 H locs ls h hw (lv_sub hl [] rfl)
      · replace h := if_f hc h
        refine lv_iconst (v := (1 : Int32)) hx hb dX2_numberPaths_15 (by decide) ?_
        refine lv_aload_n hx hb dX2_numberPaths_16 rfl (lv_at hl 0 rfl) ?_
        refine z_get S hw F15 0 rfl rfl dX2_numberPaths_17 ?_
        refine lv_ishl hx hb dX2_numberPaths_20 ?_
        refine lv_iconst (v := (1 : Int32)) hx hb dX2_numberPaths_21 (by decide) ?_
        refine lv_isub hx hb dX2_numberPaths_22 ?_
        refine lv_topi (fun x2_12 ex2_12 => ?_)
        replace h := bnd_at ex2_12 h
        refine lv_istore_n (lv' := [(2, .int x2_12), (0, .ref a_this), (1, .int x1_6)]) hx hb dX2_numberPaths_23 rfl hl (by decide) rfl (fun ls hl => ?_)
        obtain ⟨j40_1, ej40_1, h⟩ := bnd_ex h
        have hj40_1 : ∀ (i_this_paths_13 : Int32) (k_starts_14 : (Nat → Int32)) (k_sizes_15 : (Nat → Int32)) (k_links_16 : (Nat → Int32)) (k_steps_17 : (Nat → Int32)) (H : Heap) (locs : List Loc) (ls : Array Slot), j40_1 i_this_paths_13 k_starts_14 k_sizes_15 k_links_16 k_steps_17 = some (o_this_paths, o_starts, o_sizes, o_links, o_steps) → Wd D (tyA cI cJ cZ cS) A s [(a_this, .inr (2, [.int i_this_inputs, .int i_this_gates, .int i_this_paths_13, .ref a_told, .ref a_lefts, .ref a_rights, .ref a_nexts, .ref a_starts, .ref a_sizes, .ref a_steps, .ref a_links])), (a_starts, .inl (cI, 55, .inl k_starts_14)), (a_sizes, .inl (cI, 55, .inl k_sizes_15)), (a_links, .inl (cI, 55, .inl k_links_16)), (a_lefts, .inl (cI, 8, .inl k_lefts)), (a_steps, .inl (cI, 440, .inl k_steps_17)), (a_rights, .inl (cI, 8, .inl k_rights))] H locs → lv_has ls 3 [(0, .ref a_this), (1, .int x1_6)] → W p l e rmX2_numberPaths s m args below meth c H locs 0 0 Q (F0 m 40 ls []) := by
          intro i_this_paths_13 k_starts_14 k_sizes_15 k_links_16 k_steps_17 H locs ls h hw hl
          replace h := ap5 ej40_1 h
          obtain ⟨x1_18, ex1_18, h⟩ := bnd_ex h
          refine lv_iinc (v := x1_18) (lv' := [(1, .int x1_18), (0, .ref a_this)]) hx hb dX2_numberPaths_40 hl (k := 1) rfl (by rw [ex1_18]; rfl) (by decide) rfl (fun ls hl => ?_)
          refine lv_goto (tgt := 7) hx hb dX2_numberPaths_43 (by decide) ?_
          exact ih_7 x1_18 i_this_paths_13 k_starts_14 k_sizes_15 k_links_16 k_steps_17 H locs ls h hw (lv_sub hl [1, 0] rfl)
        have hL24_1 : ∀ (nf : Nat) (x2_19 : Int32) (i_this_paths_20 : Int32) (k_starts_21 : (Nat → Int32)) (k_sizes_22 : (Nat → Int32)) (k_links_23 : (Nat → Int32)) (k_steps_24 : (Nat → Int32)) (H : Heap) (locs : List Loc) (ls : Array Slot), f_X2_numberPaths_L24 N i_this_gates k_lefts k_rights x1_6 j40_1 nf x2_19 i_this_paths_20 k_starts_21 k_sizes_22 k_links_23 k_steps_24 = some (o_this_paths, o_starts, o_sizes, o_links, o_steps) → Wd D (tyA cI cJ cZ cS) A s [(a_this, .inr (2, [.int i_this_inputs, .int i_this_gates, .int i_this_paths_20, .ref a_told, .ref a_lefts, .ref a_rights, .ref a_nexts, .ref a_starts, .ref a_sizes, .ref a_steps, .ref a_links])), (a_starts, .inl (cI, 55, .inl k_starts_21)), (a_sizes, .inl (cI, 55, .inl k_sizes_22)), (a_links, .inl (cI, 55, .inl k_links_23)), (a_lefts, .inl (cI, 8, .inl k_lefts)), (a_steps, .inl (cI, 440, .inl k_steps_24)), (a_rights, .inl (cI, 8, .inl k_rights))] H locs → lv_has ls 3 [(0, .ref a_this), (1, .int x1_6), (2, .int x2_19)] → W p l e rmX2_numberPaths s m args below meth c H locs 0 0 Q (F0 m 24 ls []) := by
          intro nf
          induction nf with
          | zero =>
            intro x2_19 i_this_paths_20 k_starts_21 k_sizes_22 k_links_23 k_steps_24 H locs ls h
            rw [f_X2_numberPaths_L24] at h
            cases h
          | succ n_24 ih_24 =>
            intro x2_19 i_this_paths_20 k_starts_21 k_sizes_22 k_links_23 k_steps_24 H locs ls h hw hl
            rw [f_X2_numberPaths_L24] at h
            refine lv_iload_n hx hb dX2_numberPaths_24 rfl (lv_at hl 2 rfl) ?_
            refine lv_if_le (tgt := 40) hx hb dX2_numberPaths_25 (by decide) (fun hc => ?_) (fun hc => ?_)
            · replace h := if_t hc h
              exact hj40_1 i_this_paths_20 k_starts_21 k_sizes_22 k_links_23 k_steps_24 H locs ls h hw (lv_sub hl [0, 1] rfl)
            · replace h := if_f hc h
              refine lv_aload_n hx hb dX2_numberPaths_28 rfl (lv_at hl 0 rfl) ?_
              refine lv_iload_n hx hb dX2_numberPaths_29 rfl (lv_at hl 1 rfl) ?_
              refine lv_iload_n hx hb dX2_numberPaths_30 rfl (lv_at hl 2 rfl) ?_
              obtain ⟨i_this_paths_25, k_starts_26, k_sizes_27, k_links_28, k_steps_29, e31_1, h⟩ := obd5_el h
              refine zc_VV (As := [.int x1_6, .int x2_19]) (rest := []) (wr := []) (q0 := 0) S hw (c_X2_addIfLinked l D cI cJ cZ cS H.size N a_this a_starts a_sizes a_links a_lefts a_steps a_rights a_told a_nexts i_this_inputs i_this_gates i_this_paths_20 k_starts_21 k_sizes_22 k_links_23 k_lefts k_steps_24 k_rights x1_6 x2_19 i_this_paths_25 k_starts_26 k_sizes_27 k_links_28 k_steps_29 e31_1) (cwV 2 hts gX2_numberPaths_X2_addIfLinked rfl rfl rfl dv_X2_addIfLinked ⟨Nat.le_of_ble_eq_true rfl, Nat.le_of_ble_eq_true rfl⟩) [0, 1, 2, 3, 4, 5, 6] [] rfl rfl rfl rfl (by decide) rfl rfl rfl rfl hl.1 rfl (Nat.le_of_ble_eq_true rfl) dX2_numberPaths_31 ⟨Nat.zero_le _, Nat.zero_le _⟩ (fun H locs hw => ?_)
              obtain ⟨x2_30, ex2_30, h⟩ := bnd_ex h
              refine lv_iinc (v := x2_30) (lv' := [(2, .int x2_30), (0, .ref a_this), (1, .int x1_6)]) hx hb dX2_numberPaths_34 hl (k := 2) rfl (by rw [ex2_30]; rfl) (by decide) rfl (fun ls hl => ?_)
              refine lv_goto (tgt := 24) hx hb dX2_numberPaths_37 (by decide) ?_
              exact ih_24 x2_30 i_this_paths_25 k_starts_26 k_sizes_27 k_links_28 k_steps_29 H locs ls h hw (lv_sub hl [1, 2, 0] rfl)
        exact hL24_1 N x2_12 i_this_paths_7 k_starts_8 k_sizes_9 k_links_10 k_steps_11 H locs ls h hw (lv_sub hl [1, 2, 0] rfl)
  exact hL7_1 N ((0 : Int32)) ((0 : Int32)) k_starts k_sizes k_links k_steps H locs ls h hw (lv_sub hl [1, 0] rfl)
abbrev rmX2_stepOf : Room := { frames := 0, cells := 0, slots := 0, locals := 0 }
theorem dv_X2_stepOf : yX2_stepOf.cls = RX2 ∧ yX2_stepOf.cls ≠ "java/lang/invoke/MethodHandle" ∧ yX2_stepOf.cls ≠ "java/lang/invoke/VarHandle" ∧ (parseMethodDescriptor yX2_stepOf.desc).map (fun d => d.parameters.length) = some 2 := by decide +kernel
noncomputable def f_X2_stepOf (N : Nat) (y1 : Int32) (y2 : Int32) (k_sizes : (Nat → Int32)) (k_steps : (Nat → Int32)) : Option (Int32) :=
  bnd (α := Option (Int32)) (some ((-9 : Int32))) fun (j28_1 : Option (Int32)) => (if y2 < (0 : Int32) then (j28_1) else (grd (inb y1 55) <| (if (k_sizes y1.toNatClampNeg) ≤ y2 then (j28_1) else (grd (inb ((y1 * (8 : Int32)) + y2) 440) <| some ((k_steps ((y1 * (8 : Int32)) + y2).toNatClampNeg))))))
set_option maxHeartbeats 4000000 in
set_option maxRecDepth 100000 in
theorem c_X2_stepOf (l : Launch) (D : va_G) (cI cJ cZ cS : ClassId) (sz N : Nat) (a_this a_sizes a_steps a_told a_lefts a_rights a_nexts a_starts a_links : Nat) (i_this_inputs : Int32) (i_this_gates : Int32) (i_this_paths : Int32) (k_sizes : (Nat → Int32)) (k_steps : (Nat → Int32)) (y1 : Int32) (y2 : Int32) (rr : Int32) (hf : f_X2_stepOf N y1 y2 k_sizes k_steps = some (rr)) : MetIr l yX2_stepOf wsX2_stepOf rmX2_stepOf D (tyA cI cJ cZ cS) [(a_this, .inr (2, [.int i_this_inputs, .int i_this_gates, .int i_this_paths, .ref a_told, .ref a_lefts, .ref a_rights, .ref a_nexts, .ref a_starts, .ref a_sizes, .ref a_steps, .ref a_links])), (a_sizes, .inl (cI, 55, .inl k_sizes)), (a_steps, .inl (cI, 440, .inl k_steps))] sz [.ref a_this, .int y1, .int y2] rr := by
  refine entIr (cc := cX2_stepOf) (maxL := 3) (own := RX2) (by decide) rfl rfl (Nat.le_of_ble_eq_true rfl) ?_
  intro p e s m args below meth c A ls Q S hr hw hl hQ
  have hx := S.1.1
  have hb := S.1.2.1
  have hts := S.1.2.2.2.2
  have hl : lv_has ls 3 [(0, .ref a_this), (1, .int y1), (2, .int y2)] := hl
  have hinX2 : ∀ w ∈ u_ws RX2 TX2 11, w ∈ wsX2_stepOf := (fun _ h => List.mem_cons_of_mem _ (List.mem_append_right _ h))
  have F37 : FLk s args wsX2_stepOf RX2 37 RX2 TX2 11 2 8 := ⟨hinX2, rfl, by decide, hts (.fieldLink RX2 37 "SlowPaths$Net" "sizes" "[I") (List.mem_of_getElem? (i := 1) rfl)⟩
  have F40 : FLk s args wsX2_stepOf RX2 40 RX2 TX2 11 2 9 := ⟨hinX2, rfl, by decide, hts (.fieldLink RX2 40 "SlowPaths$Net" "steps" "[I") (List.mem_of_getElem? (i := 2) rfl)⟩
  have h := hf
  rw [f_X2_stepOf] at h
  refine lv_iload_n hx hb dX2_stepOf_0 rfl (lv_at hl 2 rfl) ?_
  obtain ⟨j28_1, ej28_1, h⟩ := bnd_ex h
  have hj28_1 : ∀ (ls : Array Slot), j28_1 = some (rr) → lv_has ls 3 [] → W p l e rmX2_stepOf s m args below meth c s.heap [] 0 0 Q (F0 m 28 ls []) := by
    intro ls h hl
    replace h := ap0 ej28_1 h
    refine lv_bipush (v := (-9 : Int32)) hx hb dX2_stepOf_28 (by decide) ?_
    cases h
    exact z_iretr S hQ hr dX2_stepOf_30
  refine lv_if_lt (tgt := 28) hx hb dX2_stepOf_1 (by decide) (fun hc => ?_) (fun hc => ?_)
  · replace h := if_t hc h
    exact hj28_1  ls h (lv_sub hl [] rfl)
  · replace h := if_f hc h
    refine lv_iload_n hx hb dX2_stepOf_4 rfl (lv_at hl 2 rfl) ?_
    refine lv_aload_n hx hb dX2_stepOf_5 rfl (lv_at hl 0 rfl) ?_
    refine z_get S hw F37 0 rfl rfl dX2_stepOf_6 ?_
    refine lv_iload_n hx hb dX2_stepOf_9 rfl (lv_at hl 1 rfl) ?_
    obtain ⟨hg, h⟩ := grd_el h
    refine z_iald S hw 1 0 rfl rfl hg dX2_stepOf_10 ?_
    refine lv_icmp_ge (tgt := 28) hx hb dX2_stepOf_11 (by decide) (fun hc => ?_) (fun hc => ?_)
    · replace h := if_t hc h
      exact hj28_1  ls h (lv_sub hl [] rfl)
    · replace h := if_f hc h
      refine lv_aload_n hx hb dX2_stepOf_14 rfl (lv_at hl 0 rfl) ?_
      refine z_get S hw F40 0 rfl rfl dX2_stepOf_15 ?_
      refine lv_iload_n hx hb dX2_stepOf_18 rfl (lv_at hl 1 rfl) ?_
      refine lv_bipush (v := (8 : Int32)) hx hb dX2_stepOf_19 (by decide) ?_
      refine lv_imul hx hb dX2_stepOf_21 ?_
      refine lv_iload_n hx hb dX2_stepOf_22 rfl (lv_at hl 2 rfl) ?_
      refine lv_iadd hx hb dX2_stepOf_23 ?_
      obtain ⟨hg, h⟩ := grd_el h
      refine z_iald S hw 2 0 rfl rfl hg dX2_stepOf_24 ?_
      refine lv_goto (tgt := 30) hx hb dX2_stepOf_25 (by decide) ?_
      cases h
      exact z_iretr S hQ hr dX2_stepOf_30
abbrev rmX2_lengthOf : Room := { frames := 0, cells := 0, slots := 0, locals := 0 }
theorem dv_X2_lengthOf : yX2_lengthOf.cls = RX2 ∧ yX2_lengthOf.cls ≠ "java/lang/invoke/MethodHandle" ∧ yX2_lengthOf.cls ≠ "java/lang/invoke/VarHandle" ∧ (parseMethodDescriptor yX2_lengthOf.desc).map (fun d => d.parameters.length) = some 2 := by decide +kernel
noncomputable def f_X2_lengthOf_L5 (N : Nat) (y1 : Int32) (k_p2 : (Nat → Int32)) (k_sizes : (Nat → Int32)) (k_steps : (Nat → Int32)) (j39_1 : Int32 → Option (Int32)) : Nat → Int32 → Int32 → Option (Int32)
  | 0, _, _ => none
  | n_5 + 1, x3_2, x4_3 =>
    grd (inb y1 55) <| (if (k_sizes y1.toNatClampNeg) ≤ x4_3 then (j39_1 x3_2) else (grd (inb ((y1 * (8 : Int32)) + x4_3) 440) <| grd (inb (k_steps ((y1 * (8 : Int32)) + x4_3).toNatClampNeg) 8) <| bnd ((x3_2 + (k_p2 (k_steps ((y1 * (8 : Int32)) + x4_3).toNatClampNeg).toNatClampNeg))) fun (x3_4 : Int32) => bnd (x4_3 + (1 : Int32)) fun (x4_5 : Int32) => f_X2_lengthOf_L5 N y1 k_p2 k_sizes k_steps j39_1 n_5 x3_4 x4_5))
noncomputable def f_X2_lengthOf (N : Nat) (y1 : Int32) (k_p2 : (Nat → Int32)) (k_sizes : (Nat → Int32)) (k_steps : (Nat → Int32)) : Option (Int32) :=
  bnd (fun (x3_1 : Int32) => (some (x3_1))) fun (j39_1 : Int32 → Option (Int32)) => f_X2_lengthOf_L5 N y1 k_p2 k_sizes k_steps j39_1 N ((0 : Int32)) ((0 : Int32))
set_option maxHeartbeats 4000000 in
set_option maxRecDepth 100000 in
theorem c_X2_lengthOf (l : Launch) (D : va_G) (cI cJ cZ cS : ClassId) (sz N : Nat) (a_this a_p2 a_sizes a_steps a_told a_lefts a_rights a_nexts a_starts a_links : Nat) (i_this_inputs : Int32) (i_this_gates : Int32) (i_this_paths : Int32) (k_p2 : (Nat → Int32)) (k_sizes : (Nat → Int32)) (k_steps : (Nat → Int32)) (y1 : Int32) (rr : Int32) (hf : f_X2_lengthOf N y1 k_p2 k_sizes k_steps = some (rr)) : MetIr l yX2_lengthOf wsX2_lengthOf rmX2_lengthOf D (tyA cI cJ cZ cS) [(a_this, .inr (2, [.int i_this_inputs, .int i_this_gates, .int i_this_paths, .ref a_told, .ref a_lefts, .ref a_rights, .ref a_nexts, .ref a_starts, .ref a_sizes, .ref a_steps, .ref a_links])), (a_p2, .inl (cI, 8, .inl k_p2)), (a_sizes, .inl (cI, 55, .inl k_sizes)), (a_steps, .inl (cI, 440, .inl k_steps))] sz [.ref a_this, .int y1, .ref a_p2] rr := by
  refine entIr (cc := cX2_lengthOf) (maxL := 5) (own := RX2) (by decide) rfl rfl (Nat.le_of_ble_eq_true rfl) ?_
  intro p e s m args below meth c A ls Q S hr hw hl hQ
  have hx := S.1.1
  have hb := S.1.2.1
  have hts := S.1.2.2.2.2
  have hl : lv_has ls 5 [(0, .ref a_this), (1, .int y1), (2, .ref a_p2)] := hl
  have hinX2 : ∀ w ∈ u_ws RX2 TX2 11, w ∈ wsX2_lengthOf := (fun _ h => List.mem_cons_of_mem _ (List.mem_append_right _ h))
  have F37 : FLk s args wsX2_lengthOf RX2 37 RX2 TX2 11 2 8 := ⟨hinX2, rfl, by decide, hts (.fieldLink RX2 37 "SlowPaths$Net" "sizes" "[I") (List.mem_of_getElem? (i := 1) rfl)⟩
  have F40 : FLk s args wsX2_lengthOf RX2 40 RX2 TX2 11 2 9 := ⟨hinX2, rfl, by decide, hts (.fieldLink RX2 40 "SlowPaths$Net" "steps" "[I") (List.mem_of_getElem? (i := 2) rfl)⟩
  have h := hf
  rw [f_X2_lengthOf] at h
  refine lv_iconst (v := (0 : Int32)) hx hb dX2_lengthOf_0 (by decide) ?_
  refine lv_istore_n (lv' := [(3, .int (0 : Int32)), (0, .ref a_this), (1, .int y1), (2, .ref a_p2)]) hx hb dX2_lengthOf_1 rfl hl (by decide) rfl (fun ls hl => ?_)
  refine lv_iconst (v := (0 : Int32)) hx hb dX2_lengthOf_2 (by decide) ?_
  refine lv_istore (lv' := [(4, .int (0 : Int32)), (3, .int (0 : Int32)), (0, .ref a_this), (1, .int y1), (2, .ref a_p2)]) hx hb dX2_lengthOf_3 hl (by decide) rfl (fun ls hl => ?_)
  obtain ⟨j39_1, ej39_1, h⟩ := bnd_ex h
  have hj39_1 : ∀ (x3_1 : Int32) (ls : Array Slot), j39_1 x3_1 = some (rr) → lv_has ls 5 [(3, .int x3_1)] → W p l e rmX2_lengthOf s m args below meth c s.heap [] 0 0 Q (F0 m 39 ls []) := by
    intro x3_1 ls h hl
    replace h := ap1 ej39_1 h
    refine lv_iload_n hx hb dX2_lengthOf_39 rfl (lv_at hl 0 rfl) ?_
    cases h
    exact z_iretr S hQ hr dX2_lengthOf_40
  have hL5_1 : ∀ (nf : Nat) (x3_2 : Int32) (x4_3 : Int32) (ls : Array Slot), f_X2_lengthOf_L5 N y1 k_p2 k_sizes k_steps j39_1 nf x3_2 x4_3 = some (rr) → lv_has ls 5 [(0, .ref a_this), (1, .int y1), (2, .ref a_p2), (3, .int x3_2), (4, .int x4_3)] → W p l e rmX2_lengthOf s m args below meth c s.heap [] 0 0 Q (F0 m 5 ls []) := by
    intro nf
    induction nf with
    | zero =>
      intro x3_2 x4_3 ls h
      rw [f_X2_lengthOf_L5] at h
      cases h
    | succ n_5 ih_5 =>
      intro x3_2 x4_3 ls h hl
      rw [f_X2_lengthOf_L5] at h
      refine lv_iload hx hb dX2_lengthOf_5 (lv_at hl 4 rfl) ?_
      refine lv_aload_n hx hb dX2_lengthOf_7 rfl (lv_at hl 0 rfl) ?_
      refine z_get S hw F37 0 rfl rfl dX2_lengthOf_8 ?_
      refine lv_iload_n hx hb dX2_lengthOf_11 rfl (lv_at hl 1 rfl) ?_
      obtain ⟨hg, h⟩ := grd_el h
      refine z_iald S hw 2 0 rfl rfl hg dX2_lengthOf_12 ?_
      refine lv_icmp_ge (tgt := 39) hx hb dX2_lengthOf_13 (by decide) (fun hc => ?_) (fun hc => ?_)
      · replace h := if_t hc h
        exact hj39_1 x3_2 ls h (lv_sub hl [3] rfl)
      · replace h := if_f hc h
        refine lv_iload_n hx hb dX2_lengthOf_16 rfl (lv_at hl 3 rfl) ?_
        refine lv_aload_n hx hb dX2_lengthOf_17 rfl (lv_at hl 2 rfl) ?_
        refine lv_aload_n hx hb dX2_lengthOf_18 rfl (lv_at hl 0 rfl) ?_
        refine z_get S hw F40 0 rfl rfl dX2_lengthOf_19 ?_
        refine lv_iload_n hx hb dX2_lengthOf_22 rfl (lv_at hl 1 rfl) ?_
        refine lv_bipush (v := (8 : Int32)) hx hb dX2_lengthOf_23 (by decide) ?_
        refine lv_imul hx hb dX2_lengthOf_25 ?_
        refine lv_iload hx hb dX2_lengthOf_26 (lv_at hl 4 rfl) ?_
        refine lv_iadd hx hb dX2_lengthOf_28 ?_
        obtain ⟨hg, h⟩ := grd_el h
        refine z_iald S hw 3 0 rfl rfl hg dX2_lengthOf_29 ?_
        obtain ⟨hg, h⟩ := grd_el h
        refine z_iald S hw 1 0 rfl rfl hg dX2_lengthOf_30 ?_
        refine lv_iadd hx hb dX2_lengthOf_31 ?_
        refine lv_topi (fun x3_4 ex3_4 => ?_)
        replace h := bnd_at ex3_4 h
        refine lv_istore_n (lv' := [(3, .int x3_4), (0, .ref a_this), (1, .int y1), (2, .ref a_p2), (4, .int x4_3)]) hx hb dX2_lengthOf_32 rfl hl (by decide) rfl (fun ls hl => ?_)
        obtain ⟨x4_5, ex4_5, h⟩ := bnd_ex h
        refine lv_iinc (v := x4_5) (lv' := [(4, .int x4_5), (3, .int x3_4), (0, .ref a_this), (1, .int y1), (2, .ref a_p2)]) hx hb dX2_lengthOf_33 hl (k := 4) rfl (by rw [ex4_5]; rfl) (by decide) rfl (fun ls hl => ?_)
        refine lv_goto (tgt := 5) hx hb dX2_lengthOf_36 (by decide) ?_
        exact ih_5 x3_4 x4_5 ls h (lv_sub hl [2, 3, 4, 1, 0] rfl)
  exact hL5_1 N ((0 : Int32)) ((0 : Int32)) ls h (lv_sub hl [2, 3, 4, 1, 0] rfl)
abbrev rmX2_beginning : Room := { frames := 0, cells := 0, slots := 0, locals := 0 }
theorem dv_X2_beginning : yX2_beginning.cls = RX2 ∧ yX2_beginning.cls ≠ "java/lang/invoke/MethodHandle" ∧ yX2_beginning.cls ≠ "java/lang/invoke/VarHandle" ∧ (parseMethodDescriptor yX2_beginning.desc).map (fun d => d.parameters.length) = some 2 := by decide +kernel
noncomputable def f_X2_beginning (N : Nat) (y1 : Int32) (y2 : Int32) (k_steps : (Nat → Int32)) (k_links : (Nat → Int32)) : Option (Int32) :=
  grd (inb (((y1 * (8 : Int32)) + y2) - (1 : Int32)) 440) <| bnd ((k_steps (((y1 * (8 : Int32)) + y2) - (1 : Int32)).toNatClampNeg)) fun (x3_1 : Int32) => grd (inb y1 55) <| some (((k_links y1.toNatClampNeg) &&& (((1 : Int32) <<< ((((2 : Int32) * x3_1) + (2 : Int32)) &&& 31)) - (1 : Int32))))
set_option maxHeartbeats 4000000 in
set_option maxRecDepth 100000 in
theorem c_X2_beginning (l : Launch) (D : va_G) (cI cJ cZ cS : ClassId) (sz N : Nat) (a_this a_steps a_links a_told a_lefts a_rights a_nexts a_starts a_sizes : Nat) (i_this_inputs : Int32) (i_this_gates : Int32) (i_this_paths : Int32) (k_steps : (Nat → Int32)) (k_links : (Nat → Int32)) (y1 : Int32) (y2 : Int32) (rr : Int32) (hf : f_X2_beginning N y1 y2 k_steps k_links = some (rr)) : MetIr l yX2_beginning wsX2_beginning rmX2_beginning D (tyA cI cJ cZ cS) [(a_this, .inr (2, [.int i_this_inputs, .int i_this_gates, .int i_this_paths, .ref a_told, .ref a_lefts, .ref a_rights, .ref a_nexts, .ref a_starts, .ref a_sizes, .ref a_steps, .ref a_links])), (a_steps, .inl (cI, 440, .inl k_steps)), (a_links, .inl (cI, 55, .inl k_links))] sz [.ref a_this, .int y1, .int y2] rr := by
  refine entIr (cc := cX2_beginning) (maxL := 4) (own := RX2) (by decide) rfl rfl (Nat.le_of_ble_eq_true rfl) ?_
  intro p e s m args below meth c A ls Q S hr hw hl hQ
  have hx := S.1.1
  have hb := S.1.2.1
  have hts := S.1.2.2.2.2
  have hl : lv_has ls 4 [(0, .ref a_this), (1, .int y1), (2, .int y2)] := hl
  have hinX2 : ∀ w ∈ u_ws RX2 TX2 11, w ∈ wsX2_beginning := (fun _ h => List.mem_cons_of_mem _ (List.mem_append_right _ h))
  have F40 : FLk s args wsX2_beginning RX2 40 RX2 TX2 11 2 9 := ⟨hinX2, rfl, by decide, hts (.fieldLink RX2 40 "SlowPaths$Net" "steps" "[I") (List.mem_of_getElem? (i := 1) rfl)⟩
  have F43 : FLk s args wsX2_beginning RX2 43 RX2 TX2 11 2 10 := ⟨hinX2, rfl, by decide, hts (.fieldLink RX2 43 "SlowPaths$Net" "links" "[I") (List.mem_of_getElem? (i := 2) rfl)⟩
  have h := hf
  rw [f_X2_beginning] at h
  refine lv_aload_n hx hb dX2_beginning_0 rfl (lv_at hl 0 rfl) ?_
  refine z_get S hw F40 0 rfl rfl dX2_beginning_1 ?_
  refine lv_iload_n hx hb dX2_beginning_4 rfl (lv_at hl 1 rfl) ?_
  refine lv_bipush (v := (8 : Int32)) hx hb dX2_beginning_5 (by decide) ?_
  refine lv_imul hx hb dX2_beginning_7 ?_
  refine lv_iload_n hx hb dX2_beginning_8 rfl (lv_at hl 2 rfl) ?_
  refine lv_iadd hx hb dX2_beginning_9 ?_
  refine lv_iconst (v := (1 : Int32)) hx hb dX2_beginning_10 (by decide) ?_
  refine lv_isub hx hb dX2_beginning_11 ?_
  obtain ⟨hg, h⟩ := grd_el h
  refine z_iald S hw 1 0 rfl rfl hg dX2_beginning_12 ?_
  refine lv_topi (fun x3_1 ex3_1 => ?_)
  replace h := bnd_at ex3_1 h
  refine lv_istore_n (lv' := [(3, .int x3_1), (0, .ref a_this), (1, .int y1), (2, .int y2)]) hx hb dX2_beginning_13 rfl hl (by decide) rfl (fun ls hl => ?_)
  refine lv_aload_n hx hb dX2_beginning_14 rfl (lv_at hl 1 rfl) ?_
  refine z_get S hw F43 0 rfl rfl dX2_beginning_15 ?_
  refine lv_iload_n hx hb dX2_beginning_18 rfl (lv_at hl 2 rfl) ?_
  obtain ⟨hg, h⟩ := grd_el h
  refine z_iald S hw 2 0 rfl rfl hg dX2_beginning_19 ?_
  refine lv_iconst (v := (1 : Int32)) hx hb dX2_beginning_20 (by decide) ?_
  refine lv_iconst (v := (2 : Int32)) hx hb dX2_beginning_21 (by decide) ?_
  refine lv_iload_n hx hb dX2_beginning_22 rfl (lv_at hl 0 rfl) ?_
  refine lv_imul hx hb dX2_beginning_23 ?_
  refine lv_iconst (v := (2 : Int32)) hx hb dX2_beginning_24 (by decide) ?_
  refine lv_iadd hx hb dX2_beginning_25 ?_
  refine lv_ishl hx hb dX2_beginning_26 ?_
  refine lv_iconst (v := (1 : Int32)) hx hb dX2_beginning_27 (by decide) ?_
  refine lv_isub hx hb dX2_beginning_28 ?_
  refine lv_iand hx hb dX2_beginning_29 ?_
  cases h
  exact z_iretr S hQ hr dX2_beginning_30
abbrev rmX2_isSharedBefore : Room := { frames := 1, cells := 0, slots := 0, locals := 23 }
theorem dv_X2_isSharedBefore : yX2_isSharedBefore.cls = RX2 ∧ yX2_isSharedBefore.cls ≠ "java/lang/invoke/MethodHandle" ∧ yX2_isSharedBefore.cls ≠ "java/lang/invoke/VarHandle" ∧ (parseMethodDescriptor yX2_isSharedBefore.desc).map (fun d => d.parameters.length) = some 2 := by decide +kernel
noncomputable def f_X2_isSharedBefore (N : Nat) (y1 : Int32) (y2 : Int32) (k_starts : (Nat → Int32)) (k_sizes : (Nat → Int32)) (k_steps : (Nat → Int32)) (k_links : (Nat → Int32)) : Option (Int32) :=
  bnd ((y1 - (1 : Int32))) fun (x3_1 : Int32) => bnd (α := Option (Int32)) (some ((0 : Int32))) fun (j52_1 : Option (Int32)) => (if x3_1 < (0 : Int32) then (j52_1) else (grd (inb y1 55) <| grd (inb x3_1 55) <| (if (k_starts y1.toNatClampNeg) = (k_starts x3_1.toNatClampNeg) then (grd (inb x3_1 55) <| (if (k_sizes x3_1.toNatClampNeg) < y2 then (j52_1) else (obd1 (f_X2_beginning N y1 y2 k_steps k_links) fun (r_2 : Int32) => obd1 (f_X2_beginning N x3_1 y2 k_steps k_links) fun (r_3 : Int32) => (if r_2 = r_3 then (some ((1 : Int32))) else (j52_1))))) else (j52_1))))
set_option maxHeartbeats 4000000 in
set_option maxRecDepth 100000 in
theorem c_X2_isSharedBefore (l : Launch) (D : va_G) (cI cJ cZ cS : ClassId) (sz N : Nat) (a_this a_starts a_sizes a_steps a_links a_told a_lefts a_rights a_nexts : Nat) (i_this_inputs : Int32) (i_this_gates : Int32) (i_this_paths : Int32) (k_starts : (Nat → Int32)) (k_sizes : (Nat → Int32)) (k_steps : (Nat → Int32)) (k_links : (Nat → Int32)) (y1 : Int32) (y2 : Int32) (rr : Int32) (hf : f_X2_isSharedBefore N y1 y2 k_starts k_sizes k_steps k_links = some (rr)) : MetIr l yX2_isSharedBefore wsX2_isSharedBefore rmX2_isSharedBefore D (tyA cI cJ cZ cS) [(a_this, .inr (2, [.int i_this_inputs, .int i_this_gates, .int i_this_paths, .ref a_told, .ref a_lefts, .ref a_rights, .ref a_nexts, .ref a_starts, .ref a_sizes, .ref a_steps, .ref a_links])), (a_starts, .inl (cI, 55, .inl k_starts)), (a_sizes, .inl (cI, 55, .inl k_sizes)), (a_steps, .inl (cI, 440, .inl k_steps)), (a_links, .inl (cI, 55, .inl k_links))] sz [.ref a_this, .int y1, .int y2] rr := by
  refine entZr (cc := cX2_isSharedBefore) (maxL := 4) (own := RX2) (by decide) rfl rfl (Nat.le_of_ble_eq_true rfl) ?_
  intro p e s m args below meth c A ls Q S hr hw hl hQ
  have hx := S.1.1
  have hb := S.1.2.1
  have hts := S.1.2.2.2.2
  have hl : lv_has ls 4 [(0, .ref a_this), (1, .int y1), (2, .int y2)] := hl
  have hinX2 : ∀ w ∈ u_ws RX2 TX2 11, w ∈ wsX2_isSharedBefore := (fun _ h => List.mem_cons_of_mem _ (List.mem_append_right _ h))
  have F34 : FLk s args wsX2_isSharedBefore RX2 34 RX2 TX2 11 2 7 := ⟨hinX2, rfl, by decide, hts (.fieldLink RX2 34 "SlowPaths$Net" "starts" "[I") (List.mem_of_getElem? (i := 1) rfl)⟩
  have F37 : FLk s args wsX2_isSharedBefore RX2 37 RX2 TX2 11 2 8 := ⟨hinX2, rfl, by decide, hts (.fieldLink RX2 37 "SlowPaths$Net" "sizes" "[I") (List.mem_of_getElem? (i := 2) rfl)⟩
  have h := hf
  rw [f_X2_isSharedBefore] at h
  refine lv_iload_n hx hb dX2_isSharedBefore_0 rfl (lv_at hl 1 rfl) ?_
  refine lv_iconst (v := (1 : Int32)) hx hb dX2_isSharedBefore_1 (by decide) ?_
  refine lv_isub hx hb dX2_isSharedBefore_2 ?_
  refine lv_topi (fun x3_1 ex3_1 => ?_)
  replace h := bnd_at ex3_1 h
  refine lv_istore_n (lv' := [(3, .int x3_1), (0, .ref a_this), (1, .int y1), (2, .int y2)]) hx hb dX2_isSharedBefore_3 rfl hl (by decide) rfl (fun ls hl => ?_)
  refine lv_iload_n hx hb dX2_isSharedBefore_4 rfl (lv_at hl 0 rfl) ?_
  obtain ⟨j52_1, ej52_1, h⟩ := bnd_ex h
  have hj52_1 : ∀ (ls : Array Slot), j52_1 = some (rr) → lv_has ls 4 [] → W p l e rmX2_isSharedBefore s m args below meth c s.heap [] 0 0 Q (F0 m 52 ls []) := by
    intro ls h hl
    replace h := ap0 ej52_1 h
    refine lv_iconst (v := (0 : Int32)) hx hb dX2_isSharedBefore_52 (by decide) ?_
    cases h
    exact z_zretr S hQ hr rfl dX2_isSharedBefore_53
  refine lv_if_lt (tgt := 52) hx hb dX2_isSharedBefore_5 (by decide) (fun hc => ?_) (fun hc => ?_)
  · replace h := if_t hc h
    exact hj52_1  ls h (lv_sub hl [] rfl)
  · replace h := if_f hc h
    refine lv_aload_n hx hb dX2_isSharedBefore_8 rfl (lv_at hl 1 rfl) ?_
    refine z_get S hw F34 0 rfl rfl dX2_isSharedBefore_9 ?_
    refine lv_iload_n hx hb dX2_isSharedBefore_12 rfl (lv_at hl 2 rfl) ?_
    obtain ⟨hg, h⟩ := grd_el h
    refine z_iald S hw 1 0 rfl rfl hg dX2_isSharedBefore_13 ?_
    refine lv_aload_n hx hb dX2_isSharedBefore_14 rfl (lv_at hl 1 rfl) ?_
    refine z_get S hw F34 0 rfl rfl dX2_isSharedBefore_15 ?_
    refine lv_iload_n hx hb dX2_isSharedBefore_18 rfl (lv_at hl 0 rfl) ?_
    obtain ⟨hg, h⟩ := grd_el h
    refine z_iald S hw 1 0 rfl rfl hg dX2_isSharedBefore_19 ?_
    refine lv_icmp_ne (tgt := 52) hx hb dX2_isSharedBefore_20 (by decide) (fun hc => ?_) (fun hc => ?_)
    · replace h := if_f hc h
      exact hj52_1  ls h (lv_sub hl [] rfl)
    · replace h := if_t hc h
      refine lv_aload_n hx hb dX2_isSharedBefore_23 rfl (lv_at hl 1 rfl) ?_
      refine z_get S hw F37 0 rfl rfl dX2_isSharedBefore_24 ?_
      refine lv_iload_n hx hb dX2_isSharedBefore_27 rfl (lv_at hl 0 rfl) ?_
      obtain ⟨hg, h⟩ := grd_el h
      refine z_iald S hw 2 0 rfl rfl hg dX2_isSharedBefore_28 ?_
      refine lv_iload_n hx hb dX2_isSharedBefore_29 rfl (lv_at hl 3 rfl) ?_
      refine lv_icmp_lt (tgt := 52) hx hb dX2_isSharedBefore_30 (by decide) (fun hc => ?_) (fun hc => ?_)
      · replace h := if_t hc h
        exact hj52_1  ls h (lv_sub hl [] rfl)
      · replace h := if_f hc h
        refine lv_aload_n hx hb dX2_isSharedBefore_33 rfl (lv_at hl 1 rfl) ?_
        refine lv_iload_n hx hb dX2_isSharedBefore_34 rfl (lv_at hl 2 rfl) ?_
        refine lv_iload_n hx hb dX2_isSharedBefore_35 rfl (lv_at hl 3 rfl) ?_
        obtain ⟨r_2, e36_1, h⟩ := obd1_el h
        refine zr_VI (As := [.int y1, .int y2]) (rest := []) (q0 := 0) S hw (c_X2_beginning l D cI cJ cZ cS s.heap.size N a_this a_steps a_links a_told a_lefts a_rights a_nexts a_starts a_sizes i_this_inputs i_this_gates i_this_paths k_steps k_links y1 y2 r_2 e36_1) (cwV 2 hts gX2_isSharedBefore_X2_beginning rfl rfl rfl dv_X2_beginning ⟨Nat.le_of_ble_eq_true rfl, Nat.le_of_ble_eq_true rfl⟩) [0, 3, 4] rfl rfl rfl rfl rfl rfl hl.1 rfl (Nat.le_of_ble_eq_true rfl) dX2_isSharedBefore_36 ⟨Nat.zero_le _, Nat.zero_le _⟩ ?_
        refine lv_aload_n hx hb dX2_isSharedBefore_39 rfl (lv_at hl 1 rfl) ?_
        refine lv_iload_n hx hb dX2_isSharedBefore_40 rfl (lv_at hl 0 rfl) ?_
        refine lv_iload_n hx hb dX2_isSharedBefore_41 rfl (lv_at hl 3 rfl) ?_
        obtain ⟨r_3, e42_1, h⟩ := obd1_el h
        refine zr_VI (As := [.int x3_1, .int y2]) (rest := [.int r_2]) (q0 := 0) S hw (c_X2_beginning l D cI cJ cZ cS s.heap.size N a_this a_steps a_links a_told a_lefts a_rights a_nexts a_starts a_sizes i_this_inputs i_this_gates i_this_paths k_steps k_links x3_1 y2 r_3 e42_1) (cwV 2 hts gX2_isSharedBefore_X2_beginning rfl rfl rfl dv_X2_beginning ⟨Nat.le_of_ble_eq_true rfl, Nat.le_of_ble_eq_true rfl⟩) [0, 3, 4] rfl rfl rfl rfl rfl rfl hl.1 rfl (Nat.le_of_ble_eq_true rfl) dX2_isSharedBefore_42 ⟨Nat.zero_le _, Nat.zero_le _⟩ ?_
        refine lv_icmp_ne (tgt := 52) hx hb dX2_isSharedBefore_45 (by decide) (fun hc => ?_) (fun hc => ?_)
        · replace h := if_f hc h
          exact hj52_1  ls h (lv_sub hl [] rfl)
        · replace h := if_t hc h
          refine lv_iconst (v := (1 : Int32)) hx hb dX2_isSharedBefore_48 (by decide) ?_
          refine lv_goto (tgt := 53) hx hb dX2_isSharedBefore_49 (by decide) ?_
          cases h
          exact z_zretr S hQ hr rfl dX2_isSharedBefore_53
abbrev rmX3_forget : Room := { frames := 0, cells := 0, slots := 0, locals := 0 }
theorem dv_X3_forget : yX3_forget.cls = RX3 ∧ yX3_forget.cls ≠ "java/lang/invoke/MethodHandle" ∧ yX3_forget.cls ≠ "java/lang/invoke/VarHandle" ∧ (parseMethodDescriptor yX3_forget.desc).map (fun d => d.parameters.length) = some 0 := by decide +kernel
noncomputable def f_X3_forget (N : Nat)  (i_this_madeFor : Int32) : Option (Int32) :=
  some ((-1 : Int32))
set_option maxHeartbeats 4000000 in
set_option maxRecDepth 100000 in
theorem c_X3_forget (l : Launch) (D : va_G) (cI cJ cZ cS : ClassId) (sz N : Nat) (a_this a_levels a_sureLinks a_risers a_fallers a_captured : Nat) (i_this_madeFor : Int32)  (o_this_madeFor : Int32) (hf : f_X3_forget N i_this_madeFor = some (o_this_madeFor)) : MetV l yX3_forget wsX3_forget rmX3_forget D (tyA cI cJ cZ cS) [(a_this, .inr (3, [.ref a_levels, .ref a_sureLinks, .ref a_risers, .ref a_fallers, .ref a_captured, .int i_this_madeFor]))] sz [.ref a_this] [(a_this, .inr (3, [.ref a_levels, .ref a_sureLinks, .ref a_risers, .ref a_fallers, .ref a_captured, .int o_this_madeFor]))] := by
  refine entV (cc := cX3_forget) (maxL := 1) (own := RX3) (by decide) rfl rfl (Nat.le_of_ble_eq_true rfl) ?_
  intro p e s m args below meth c A ls Q H locs S hr hw hl hQ
  have hx := S.1.1
  have hb := S.1.2.1
  have hts := S.1.2.2.2.2
  have hl : lv_has ls 1 [(0, .ref a_this)] := hl
  have hinX3 : ∀ w ∈ u_ws RX3 TX3 6, w ∈ wsX3_forget := (fun _ h => List.mem_cons_of_mem _ (List.mem_append_right _ h))
  have F32 : FLk s args wsX3_forget RX3 32 RX3 TX3 6 3 5 := ⟨hinX3, rfl, by decide, hts (.fieldLink RX3 32 "SlowPaths$PairTable" "madeFor" "I") (List.mem_of_getElem? (i := 1) rfl)⟩
  have P32 : PLk TX3 6 5 tyX3 false .int := ⟨tyX3_ok, nmX3, rfl, rfl⟩
  have h := hf
  rw [f_X3_forget] at h
  refine lv_aload_n hx hb dX3_forget_0 rfl (lv_at hl 0 rfl) ?_
  refine lv_iconst (v := (-1 : Int32)) hx hb dX3_forget_1 (by decide) ?_
  refine z_put S hw F32 P32 rfl rfl 0 rfl (Nat.le_of_ble_eq_true rfl) dX3_forget_2 (fun H locs hw => ?_)
  cases h
  exact z_vret S hQ hr hw [0] rfl rfl dX3_forget_5
abbrev rmX3_holds : Room := { frames := 0, cells := 0, slots := 0, locals := 0 }
theorem dv_X3_holds : yX3_holds.cls = RX3 ∧ yX3_holds.cls ≠ "java/lang/invoke/MethodHandle" ∧ yX3_holds.cls ≠ "java/lang/invoke/VarHandle" ∧ (parseMethodDescriptor yX3_holds.desc).map (fun d => d.parameters.length) = some 2 := by decide +kernel
noncomputable def f_X3_holds (N : Nat) (y1 : Int32) (y2 : Int32) (k_sureLinks : (Nat → Int32)) : Option (Int32) :=
  grd (inb y1 256) <| (if (y2 &&& ((k_sureLinks y1.toNatClampNeg) ^^^ (-1 : Int32))) = (0 : Int32) then (some ((1 : Int32))) else (some ((0 : Int32))))
set_option maxHeartbeats 4000000 in
set_option maxRecDepth 100000 in
theorem c_X3_holds (l : Launch) (D : va_G) (cI cJ cZ cS : ClassId) (sz N : Nat) (a_this a_sureLinks a_levels a_risers a_fallers a_captured : Nat) (i_this_madeFor : Int32) (k_sureLinks : (Nat → Int32)) (y1 : Int32) (y2 : Int32) (rr : Int32) (hf : f_X3_holds N y1 y2 k_sureLinks = some (rr)) : MetIr l yX3_holds wsX3_holds rmX3_holds D (tyA cI cJ cZ cS) [(a_this, .inr (3, [.ref a_levels, .ref a_sureLinks, .ref a_risers, .ref a_fallers, .ref a_captured, .int i_this_madeFor])), (a_sureLinks, .inl (cI, 256, .inl k_sureLinks))] sz [.ref a_this, .int y1, .int y2] rr := by
  refine entZr (cc := cX3_holds) (maxL := 3) (own := RX3) (by decide) rfl rfl (Nat.le_of_ble_eq_true rfl) ?_
  intro p e s m args below meth c A ls Q S hr hw hl hQ
  have hx := S.1.1
  have hb := S.1.2.1
  have hts := S.1.2.2.2.2
  have hl : lv_has ls 3 [(0, .ref a_this), (1, .int y1), (2, .int y2)] := hl
  have hinX3 : ∀ w ∈ u_ws RX3 TX3 6, w ∈ wsX3_holds := (fun _ h => List.mem_cons_of_mem _ (List.mem_append_right _ h))
  have F18 : FLk s args wsX3_holds RX3 18 RX3 TX3 6 3 1 := ⟨hinX3, rfl, by decide, hts (.fieldLink RX3 18 "SlowPaths$PairTable" "sureLinks" "[I") (List.mem_of_getElem? (i := 1) rfl)⟩
  have h := hf
  rw [f_X3_holds] at h
  refine lv_iload_n hx hb dX3_holds_0 rfl (lv_at hl 2 rfl) ?_
  refine lv_aload_n hx hb dX3_holds_1 rfl (lv_at hl 0 rfl) ?_
  refine z_get S hw F18 0 rfl rfl dX3_holds_2 ?_
  refine lv_iload_n hx hb dX3_holds_5 rfl (lv_at hl 1 rfl) ?_
  obtain ⟨hg, h⟩ := grd_el h
  refine z_iald S hw 1 0 rfl rfl hg dX3_holds_6 ?_
  refine lv_iconst (v := (-1 : Int32)) hx hb dX3_holds_7 (by decide) ?_
  refine lv_ixor hx hb dX3_holds_8 ?_
  refine lv_iand hx hb dX3_holds_9 ?_
  refine lv_if_ne (tgt := 17) hx hb dX3_holds_10 (by decide) (fun hc => ?_) (fun hc => ?_)
  · replace h := if_f hc h
    refine lv_iconst (v := (0 : Int32)) hx hb dX3_holds_17 (by decide) ?_
    cases h
    exact z_zretr S hQ hr rfl dX3_holds_18
  · replace h := if_t hc h
    refine lv_iconst (v := (1 : Int32)) hx hb dX3_holds_13 (by decide) ?_
    refine lv_goto (tgt := 18) hx hb dX3_holds_14 (by decide) ?_
    cases h
    exact z_zretr S hQ hr rfl dX3_holds_18
