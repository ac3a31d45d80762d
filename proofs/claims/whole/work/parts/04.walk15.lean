abbrev rmX10_isLaunched : Room := { frames := 0, cells := 0, slots := 0, locals := 0 }
theorem dv_X10_isLaunched : yX10_isLaunched.cls = RX10 ∧ yX10_isLaunched.cls ≠ "java/lang/invoke/MethodHandle" ∧ yX10_isLaunched.cls ≠ "java/lang/invoke/VarHandle" ∧ (parseMethodDescriptor yX10_isLaunched.desc).map (fun d => d.parameters.length) = some 1 := by decide +kernel
noncomputable def f_X10_isLaunched_L4 (N : Nat) (y1 : Int32) (i_this_inputs : Int32) (k_after : (Nat → Int32)) (k_next : (Nat → Int32)) (k_before : (Nat → Int32)) (j79_1 : Int32 → Option (Int32)) : Nat → Int32 → Int32 → Option (Int32)
  | 0, _, _ => none
  | n_4 + 1, x2_2, x3_3 =>
    (if i_this_inputs ≤ x3_3 then (j79_1 x2_2) else (bnd (fun (t_4 : Int32) => (bnd (x3_3 + (1 : Int32)) fun (x3_5 : Int32) => f_X10_isLaunched_L4 N y1 i_this_inputs k_after k_next k_before j79_1 n_4 t_4 x3_5)) fun (j72_1 : Int32 → Option (Int32)) => bnd (α := Option (Int32)) (j72_1 ((0 : Int32))) fun (j71_1 : Option (Int32)) => (if x2_2 = (0 : Int32) then (j71_1) else (bnd (α := Option (Int32)) (bnd (α := Option (Int32)) (j72_1 ((1 : Int32))) fun (j67_1 : Option (Int32)) => (if y1 = (2 : Int32) then (grd (inb x3_3 12) <| grd (inb x3_3 4) <| grd (inb (k_next x3_3.toNatClampNeg) 12) <| (if (k_after x3_3.toNatClampNeg) = (k_before (k_next x3_3.toNatClampNeg).toNatClampNeg) then (j67_1) else (j71_1))) else (j67_1))) fun (j42_1 : Option (Int32)) => (if y1 = (1 : Int32) then ((if x3_3 = (0 : Int32) then (j42_1) else (grd (inb x3_3 12) <| grd (inb (x3_3 - (1 : Int32)) 12) <| (if (k_after x3_3.toNatClampNeg) = (k_before (x3_3 - (1 : Int32)).toNatClampNeg) then (j42_1) else (j71_1))))) else (j42_1))))))
noncomputable def f_X10_isLaunched (N : Nat) (y1 : Int32) (i_this_inputs : Int32) (k_after : (Nat → Int32)) (k_next : (Nat → Int32)) (k_before : (Nat → Int32)) : Option (Int32) :=
  bnd (fun (x2_1 : Int32) => (grd (isZ x2_1) (some (x2_1)))) fun (j79_1 : Int32 → Option (Int32)) => f_X10_isLaunched_L4 N y1 i_this_inputs k_after k_next k_before j79_1 N ((1 : Int32)) ((0 : Int32))
set_option maxHeartbeats 4000000 in
set_option maxRecDepth 100000 in
theorem c_X10_isLaunched (l : Launch) (D : va_G) (cI cJ cZ cS : ClassId) (sz N : Nat) (a_this a_after a_next a_before a_now a_one a_other a_readOne a_readOther a_readNext a_text a_pathInput a_pathGates a_values a_taken a_waves a_row a_seenPair a_seenTime a_seenLate a_isKept a_kept : Nat) (i_this_inputs : Int32) (i_this_gates : Int32) (i_this_readInputs : Int32) (i_this_readGates : Int32) (i_this_length : Int32) (i_this_paths : Int32) (i_this_acts : Int32) (i_this_turn : Int32) (i_this_seen : Int32) (i_this_seed : Int64) (k_after : (Nat → Int32)) (k_next : (Nat → Int32)) (k_before : (Nat → Int32)) (y1 : Int32) (rr : Int32) (hf : f_X10_isLaunched N y1 i_this_inputs k_after k_next k_before = some (rr)) : MetIr l yX10_isLaunched wsX10_isLaunched rmX10_isLaunched D (tyA cI cJ cZ cS) [(a_this, .inr (10, [.int i_this_inputs, .int i_this_gates, .ref a_now, .ref a_one, .ref a_other, .ref a_next, .int i_this_readInputs, .int i_this_readGates, .ref a_readOne, .ref a_readOther, .ref a_readNext, .ref a_text, .int i_this_length, .int i_this_paths, .ref a_pathInput, .ref a_pathGates, .ref a_before, .ref a_after, .ref a_values, .ref a_taken, .ref a_waves, .int i_this_acts, .int i_this_turn, .ref a_row, .int i_this_seen, .ref a_seenPair, .ref a_seenTime, .ref a_seenLate, .long i_this_seed, .ref a_isKept, .ref a_kept])), (a_after, .inl (cI, 12, .inl k_after)), (a_next, .inl (cI, 4, .inl k_next)), (a_before, .inl (cI, 12, .inl k_before))] sz [.ref a_this, .int y1] rr := by
  refine entZr (cc := cX10_isLaunched) (maxL := 4) (own := RX10) (by decide) rfl rfl (Nat.le_of_ble_eq_true rfl) ?_
  intro p e s m args below meth c A ls Q S hr hw hl hQ
  have hx := S.1.1
  have hb := S.1.2.1
  have hts := S.1.2.2.2.2
  have hl : lv_has ls 4 [(0, .ref a_this), (1, .int y1)] := hl
  have hinX10 : ∀ w ∈ u_ws RX10 TX10 31, w ∈ wsX10_isLaunched := (fun _ h => List.mem_cons_of_mem _ (List.mem_append_right _ h))
  have F19 : FLk s args wsX10_isLaunched RX10 19 RX10 TX10 31 10 5 := ⟨hinX10, rfl, by decide, hts (.fieldLink RX10 19 "SlowPathsModel" "next" "[I") (List.mem_of_getElem? (i := 4) rfl)⟩
  have F40 : FLk s args wsX10_isLaunched RX10 40 RX10 TX10 31 10 16 := ⟨hinX10, rfl, by decide, hts (.fieldLink RX10 40 "SlowPathsModel" "before" "[I") (List.mem_of_getElem? (i := 3) rfl)⟩
  have F43 : FLk s args wsX10_isLaunched RX10 43 RX10 TX10 31 10 17 := ⟨hinX10, rfl, by decide, hts (.fieldLink RX10 43 "SlowPathsModel" "after" "[I") (List.mem_of_getElem? (i := 2) rfl)⟩
  have F112 : FLk s args wsX10_isLaunched RX10 112 RX10 TX10 31 10 0 := ⟨hinX10, rfl, by decide, hts (.fieldLink RX10 112 "SlowPathsModel" "inputs" "I") (List.mem_of_getElem? (i := 1) rfl)⟩
  have h := hf
  rw [f_X10_isLaunched] at h
  refine lv_iconst (v := (1 : Int32)) hx hb dX10_isLaunched_0 (by decide) ?_
  refine lv_istore_n (lv' := [(2, .int (1 : Int32)), (0, .ref a_this), (1, .int y1)]) hx hb dX10_isLaunched_1 rfl hl (by decide) rfl (fun ls hl => ?_)
  refine lv_iconst (v := (0 : Int32)) hx hb dX10_isLaunched_2 (by decide) ?_
  refine lv_istore_n (lv' := [(3, .int (0 : Int32)), (2, .int (1 : Int32)), (0, .ref a_this), (1, .int y1)]) hx hb dX10_isLaunched_3 rfl hl (by decide) rfl (fun ls hl => ?_)
  obtain ⟨j79_1, ej79_1, h⟩ := bnd_ex h
  have hj79_1 : ∀ (x2_1 : Int32) (ls : Array Slot), j79_1 x2_1 = some (rr) → lv_has ls 4 [(2, .int x2_1)] → W p l e rmX10_isLaunched s m args below meth c s.heap [] 0 0 Q (F0 m 79 ls []) := by
    intro x2_1 ls h hl
    replace h := ap1 ej79_1 h
    refine lv_iload_n hx hb dX10_isLaunched_79 rfl (lv_at hl 0 rfl) ?_
    obtain ⟨hz, h⟩ := grd_el h
    cases h
    exact z_zretr S hQ hr (isZ_narrow hz) dX10_isLaunched_80
  have hL4_1 : ∀ (nf : Nat) (x2_2 : Int32) (x3_3 : Int32) (ls : Array Slot), f_X10_isLaunched_L4 N y1 i_this_inputs k_after k_next k_before j79_1 nf x2_2 x3_3 = some (rr) → lv_has ls 4 [(0, .ref a_this), (1, .int y1), (2, .int x2_2), (3, .int x3_3)] → W p l e rmX10_isLaunched s m args below meth c s.heap [] 0 0 Q (F0 m 4 ls []) := by
    intro nf
    induction nf with
    | zero =>
      intro x2_2 x3_3 ls h
      rw [f_X10_isLaunched_L4] at h
      cases h
    | succ n_4 ih_4 =>
      intro x2_2 x3_3 ls h hl
      rw [f_X10_isLaunched_L4] at h
      refine lv_iload_n hx hb dX10_isLaunched_4 rfl (lv_at hl 3 rfl) ?_
      refine lv_aload_n hx hb dX10_isLaunched_5 rfl (lv_at hl 0 rfl) ?_
      refine z_get S hw F112 0 rfl rfl dX10_isLaunched_6 ?_
      refine lv_icmp_ge (tgt := 79) hx hb dX10_isLaunched_9 (by decide) (fun hc => ?_) (fun hc => ?_)
      · replace h := if_t hc h
        exact hj79_1 x2_2 ls h (lv_sub hl [2] rfl)
      · replace h := if_f hc h
        refine lv_iload_n hx hb dX10_isLaunched_12 rfl (lv_at hl 2 rfl) ?_
        obtain ⟨j72_1, ej72_1, h⟩ := bnd_ex h
        have hj72_1 : ∀ (t_4 : Int32) (ls : Array Slot), j72_1 t_4 = some (rr) → lv_has ls 4 [(0, .ref a_this), (1, .int y1), (3, .int x3_3)] → W p l e rmX10_isLaunched s m args below meth c s.heap [] 0 0 Q (F0 m 72 ls [.int t_4]) := by
          intro t_4 ls h hl
          replace h := ap1 ej72_1 h
          refine lv_istore_n (lv' := [(2, .int t_4), (0, .ref a_this), (1, .int y1), (3, .int x3_3)]) hx hb dX10_isLaunched_72 rfl hl (by decide) rfl (fun ls hl => ?_)
          obtain ⟨x3_5, ex3_5, h⟩ := bnd_ex h
          refine lv_iinc (v := x3_5) (lv' := [(3, .int x3_5), (2, .int t_4), (0, .ref a_this), (1, .int y1)]) hx hb dX10_isLaunched_73 hl (k := 3) rfl (by rw [ex3_5]; rfl) (by decide) rfl (fun ls hl => ?_)
          refine lv_goto (tgt := 4) hx hb dX10_isLaunched_76 (by decide) ?_
          exact ih_4 t_4 x3_5 ls h (lv_sub hl [2, 3, 1, 0] rfl)
        obtain ⟨j71_1, ej71_1, h⟩ := bnd_ex h
        have hj71_1 : ∀ (ls : Array Slot), j71_1 = some (rr) → lv_has ls 4 [(0, .ref a_this), (1, .int y1), (3, .int x3_3)] → W p l e rmX10_isLaunched s m args below meth c s.heap [] 0 0 Q (F0 m 71 ls []) := by
          intro ls h hl
          replace h := ap0 ej71_1 h
          refine lv_iconst (v := (0 : Int32)) hx hb dX10_isLaunched_71 (by decide) ?_
          exact hj72_1 ((0 : Int32)) ls h hl
        refine lv_if_eq (tgt := 71) hx hb dX10_isLaunched_13 (by decide) (fun hc => ?_) (fun hc => ?_)
        · replace h := if_t hc h
          exact hj71_1  ls h (lv_sub hl [0, 1, 3] rfl)
        · replace h := if_f hc h
          refine lv_iload_n hx hb dX10_isLaunched_16 rfl (lv_at hl 1 rfl) ?_
          refine lv_iconst (v := (1 : Int32)) hx hb dX10_isLaunched_17 (by decide) ?_
          obtain ⟨j42_1, ej42_1, h⟩ := bnd_ex h
          have hj42_1 : ∀ (ls : Array Slot), j42_1 = some (rr) → lv_has ls 4 [(0, .ref a_this), (1, .int y1), (3, .int x3_3)] → W p l e rmX10_isLaunched s m args below meth c s.heap [] 0 0 Q (F0 m 42 ls []) := by
            intro ls h hl
            replace h := ap0 ej42_1 h
            refine lv_iload_n hx hb dX10_isLaunched_42 rfl (lv_at hl 1 rfl) ?_
            refine lv_iconst (v := (2 : Int32)) hx hb dX10_isLaunched_43 (by decide) ?_
            obtain ⟨j67_1, ej67_1, h⟩ := bnd_ex h
            have hj67_1 : ∀ (ls : Array Slot), j67_1 = some (rr) → lv_has ls 4 [(0, .ref a_this), (1, .int y1), (3, .int x3_3)] → W p l e rmX10_isLaunched s m args below meth c s.heap [] 0 0 Q (F0 m 67 ls []) := by
              intro ls h hl
              replace h := ap0 ej67_1 h
              refine lv_iconst (v := (1 : Int32)) hx hb dX10_isLaunched_67 (by decide) ?_
              refine lv_goto (tgt := 72) hx hb dX10_isLaunched_68 (by decide) ?_
              exact hj72_1 ((1 : Int32)) ls h hl
            refine lv_icmp_ne (tgt := 67) hx hb dX10_isLaunched_44 (by decide) (fun hc => ?_) (fun hc => ?_)
            · replace h := if_f hc h
              exact hj67_1  ls h hl
            · replace h := if_t hc h
              refine lv_aload_n hx hb dX10_isLaunched_47 rfl (lv_at hl 0 rfl) ?_
              refine z_get S hw F43 0 rfl rfl dX10_isLaunched_48 ?_
              refine lv_iload_n hx hb dX10_isLaunched_51 rfl (lv_at hl 2 rfl) ?_
              obtain ⟨hg, h⟩ := grd_el h
              refine z_iald S hw 1 0 rfl rfl hg dX10_isLaunched_52 ?_
              refine lv_aload_n hx hb dX10_isLaunched_53 rfl (lv_at hl 0 rfl) ?_
              refine z_get S hw F40 0 rfl rfl dX10_isLaunched_54 ?_
              refine lv_aload_n hx hb dX10_isLaunched_57 rfl (lv_at hl 0 rfl) ?_
              refine z_get S hw F19 0 rfl rfl dX10_isLaunched_58 ?_
              refine lv_iload_n hx hb dX10_isLaunched_61 rfl (lv_at hl 2 rfl) ?_
              obtain ⟨hg, h⟩ := grd_el h
              refine z_iald S hw 2 0 rfl rfl hg dX10_isLaunched_62 ?_
              obtain ⟨hg, h⟩ := grd_el h
              refine z_iald S hw 3 0 rfl rfl hg dX10_isLaunched_63 ?_
              refine lv_icmp_ne (tgt := 71) hx hb dX10_isLaunched_64 (by decide) (fun hc => ?_) (fun hc => ?_)
              · replace h := if_f hc h
                exact hj71_1  ls h hl
              · replace h := if_t hc h
                exact hj67_1  ls h hl
          refine lv_icmp_ne (tgt := 42) hx hb dX10_isLaunched_18 (by decide) (fun hc => ?_) (fun hc => ?_)
          · replace h := if_f hc h
            exact hj42_1  ls h (lv_sub hl [0, 1, 3] rfl)
          · replace h := if_t hc h
            refine lv_iload_n hx hb dX10_isLaunched_21 rfl (lv_at hl 3 rfl) ?_
            refine lv_if_eq (tgt := 42) hx hb dX10_isLaunched_22 (by decide) (fun hc => ?_) (fun hc => ?_)
            · replace h := if_t hc h
              exact hj42_1  ls h (lv_sub hl [0, 1, 3] rfl)
            · replace h := if_f hc h
              refine lv_aload_n hx hb dX10_isLaunched_25 rfl (lv_at hl 0 rfl) ?_
              refine z_get S hw F43 0 rfl rfl dX10_isLaunched_26 ?_
              refine lv_iload_n hx hb dX10_isLaunched_29 rfl (lv_at hl 3 rfl) ?_
              obtain ⟨hg, h⟩ := grd_el h
              refine z_iald S hw 1 0 rfl rfl hg dX10_isLaunched_30 ?_
              refine lv_aload_n hx hb dX10_isLaunched_31 rfl (lv_at hl 0 rfl) ?_
              refine z_get S hw F40 0 rfl rfl dX10_isLaunched_32 ?_
              refine lv_iload_n hx hb dX10_isLaunched_35 rfl (lv_at hl 3 rfl) ?_
              refine lv_iconst (v := (1 : Int32)) hx hb dX10_isLaunched_36 (by decide) ?_
              refine lv_isub hx hb dX10_isLaunched_37 ?_
              obtain ⟨hg, h⟩ := grd_el h
              refine z_iald S hw 3 0 rfl rfl hg dX10_isLaunched_38 ?_
              refine lv_icmp_ne (tgt := 71) hx hb dX10_isLaunched_39 (by decide) (fun hc => ?_) (fun hc => ?_)
              · replace h := if_f hc h
                exact hj71_1  ls h (lv_sub hl [0, 1, 3] rfl)
              · replace h := if_t hc h
                exact hj42_1  ls h (lv_sub hl [0, 1, 3] rfl)
  exact hL4_1 N ((1 : Int32)) ((0 : Int32)) ls h (lv_sub hl [2, 3, 1, 0] rfl)
abbrev rmX10_bestOn : Room := { frames := 3, cells := 0, slots := 0, locals := 68 }
theorem dv_X10_bestOn : yX10_bestOn.cls = RX10 ∧ yX10_bestOn.cls ≠ "java/lang/invoke/MethodHandle" ∧ yX10_bestOn.cls ≠ "java/lang/invoke/VarHandle" ∧ (parseMethodDescriptor yX10_bestOn.desc).map (fun d => d.parameters.length) = some 6 := by decide +kernel
noncomputable def f_X10_bestOn_L10 (N : Nat) (y1 : Int32) (y2 : Int32) (y3 : Int32) (y4 : Int32) (y5 : Int32) (i_this_inputs : Int32) (i_this_gates : Int32) (k_now : (Nat → Int32)) (k_other : (Nat → Int32)) (k_one : (Nat → Int32)) (k_next : (Nat → Int32)) (j121_1 : Int32 → Int32 → (Nat → Int32) → (Nat → Int32) → (Nat → Int32) → Option (Int32 × (Nat → Int32) × (Nat → Int32) × (Nat → Int32))) : Nat → Int32 → Int32 → Int32 → (Nat → Int32) → (Nat → Int32) → (Nat → Int32) → Option (Int32 × (Nat → Int32) × (Nat → Int32) × (Nat → Int32))
  | 0, _, _, _, _, _, _ => none
  | n_10 + 1, x7_6, x8_7, x9_8, k_before_9, k_after_10, k_values_11 =>
    (if (256 : Int32) ≤ x9_8 then (j121_1 x7_6 x8_7 k_before_9 k_after_10 k_values_11) else (obd1 (f_X10_isPair N x9_8 i_this_inputs) fun (r_12 : Int32) => bnd (fun (x7_13 : Int32) (x8_14 : Int32) (k_before_15 : (Nat → Int32)) (k_after_16 : (Nat → Int32)) (k_values_17 : (Nat → Int32)) => (bnd (x9_8 + (1 : Int32)) fun (x9_18 : Int32) => f_X10_bestOn_L10 N y1 y2 y3 y4 y5 i_this_inputs i_this_gates k_now k_other k_one k_next j121_1 n_10 x7_13 x8_14 x9_18 k_before_15 k_after_16 k_values_17)) fun (j115_1 : Int32 → Int32 → (Nat → Int32) → (Nat → Int32) → (Nat → Int32) → Option (Int32 × (Nat → Int32) × (Nat → Int32) × (Nat → Int32))) => (if r_12 = (0 : Int32) then (j115_1 x7_6 x8_7 k_before_9 k_after_10 k_values_11) else (obd1 (f_X10_has N x9_8 y2) fun (r_19 : Int32) => bnd (fun (t_20 : Int32) (t_21 : Int32) => ((if t_21 = t_20 then (obd3 (f_X10_findPair N y1 x9_8 i_this_inputs i_this_gates k_now k_other k_one k_before_9 k_after_10 k_values_11) fun (k_before_22 : (Nat → Int32)) (k_after_23 : (Nat → Int32)) (k_values_24 : (Nat → Int32)) => obd1 (f_X10_isLaunched N y5 i_this_inputs k_after_23 k_next k_before_22) fun (r_25 : Int32) => bnd (fun (t_26 : Int32) => (bnd (fun (t_27 : Int32) => (bnd (fun (t_28 : Int32) (t_29 : Int32) => (bnd ((t_29 + t_28)) fun (x7_30 : Int32) => j115_1 x7_30 t_27 k_before_22 k_after_23 k_values_24)) fun (j112_1 : Int32 → Int32 → Option (Int32 × (Nat → Int32) × (Nat → Int32) × (Nat → Int32))) => (if t_26 = (0 : Int32) then (j112_1 ((0 : Int32)) x7_6) else (j112_1 ((1 : Int32)) x7_6)))) fun (j98_1 : Int32 → Option (Int32 × (Nat → Int32) × (Nat → Int32) × (Nat → Int32))) => bnd (α := Option (Int32 × (Nat → Int32) × (Nat → Int32) × (Nat → Int32))) (j98_1 x8_7) fun (j96_1 : Option (Int32 × (Nat → Int32) × (Nat → Int32) × (Nat → Int32))) => (if t_26 = (0 : Int32) then (j96_1) else ((if x7_6 = (0 : Int32) then (j98_1 x9_8) else (j96_1)))))) fun (j79_1 : Int32 → Option (Int32 × (Nat → Int32) × (Nat → Int32) × (Nat → Int32))) => bnd (α := Option (Int32 × (Nat → Int32) × (Nat → Int32) × (Nat → Int32))) (j79_1 ((0 : Int32))) fun (j78_1 : Option (Int32 × (Nat → Int32) × (Nat → Int32) × (Nat → Int32))) => (if r_25 = (0 : Int32) then (j78_1) else (obd1 (f_X10_testsOf N y1 y2 y3 i_this_gates k_before_22 k_after_23 k_now k_one k_values_24 k_other) fun (r_31 : Int32) => (if r_31 = (2 : Int32) then (j79_1 ((1 : Int32))) else (j78_1))))) else (j115_1 x7_6 x8_7 k_before_9 k_after_10 k_values_11)))) fun (j44_1 : Int32 → Int32 → Option (Int32 × (Nat → Int32) × (Nat → Int32) × (Nat → Int32))) => (if y4 = (1 : Int32) then (j44_1 ((1 : Int32)) r_19) else (j44_1 ((0 : Int32)) r_19))))))
noncomputable def f_X10_bestOn (N : Nat) (y1 : Int32) (y2 : Int32) (y3 : Int32) (y4 : Int32) (y5 : Int32) (y6 : Int32) (i_this_inputs : Int32) (i_this_gates : Int32) (k_now : (Nat → Int32)) (k_other : (Nat → Int32)) (k_one : (Nat → Int32)) (k_before : (Nat → Int32)) (k_after : (Nat → Int32)) (k_values : (Nat → Int32)) (k_next : (Nat → Int32)) : Option (Int32 × (Nat → Int32) × (Nat → Int32) × (Nat → Int32)) :=
  bnd (fun (x7_1 : Int32) (x8_2 : Int32) (k_before_3 : (Nat → Int32)) (k_after_4 : (Nat → Int32)) (k_values_5 : (Nat → Int32)) => ((if y6 = (0 : Int32) then (some (x8_2, k_before_3, k_after_4, k_values_5)) else (some (x7_1, k_before_3, k_after_4, k_values_5))))) fun (j121_1 : Int32 → Int32 → (Nat → Int32) → (Nat → Int32) → (Nat → Int32) → Option (Int32 × (Nat → Int32) × (Nat → Int32) × (Nat → Int32))) => f_X10_bestOn_L10 N y1 y2 y3 y4 y5 i_this_inputs i_this_gates k_now k_other k_one k_next j121_1 N ((0 : Int32)) ((-9 : Int32)) ((0 : Int32)) k_before k_after k_values
set_option maxHeartbeats 4000000 in
set_option maxRecDepth 100000 in
theorem c_X10_bestOn (l : Launch) (D : va_G) (cI cJ cZ cS : ClassId) (sz N : Nat) (a_this a_now a_other a_one a_before a_after a_values a_next a_readOne a_readOther a_readNext a_text a_pathInput a_pathGates a_taken a_waves a_row a_seenPair a_seenTime a_seenLate a_isKept a_kept : Nat) (i_this_inputs : Int32) (i_this_gates : Int32) (i_this_readInputs : Int32) (i_this_readGates : Int32) (i_this_length : Int32) (i_this_paths : Int32) (i_this_acts : Int32) (i_this_turn : Int32) (i_this_seen : Int32) (i_this_seed : Int64) (k_now : (Nat → Int32)) (k_other : (Nat → Int32)) (k_one : (Nat → Int32)) (k_before : (Nat → Int32)) (k_after : (Nat → Int32)) (k_values : (Nat → Int32)) (k_next : (Nat → Int32)) (y1 : Int32) (y2 : Int32) (y3 : Int32) (y4 : Int32) (y5 : Int32) (y6 : Int32) (rr : Int32) (o_before : (Nat → Int32)) (o_after : (Nat → Int32)) (o_values : (Nat → Int32)) (hf : f_X10_bestOn N y1 y2 y3 y4 y5 y6 i_this_inputs i_this_gates k_now k_other k_one k_before k_after k_values k_next = some (rr, o_before, o_after, o_values)) : MetI l yX10_bestOn wsX10_bestOn rmX10_bestOn D (tyA cI cJ cZ cS) [(a_this, .inr (10, [.int i_this_inputs, .int i_this_gates, .ref a_now, .ref a_one, .ref a_other, .ref a_next, .int i_this_readInputs, .int i_this_readGates, .ref a_readOne, .ref a_readOther, .ref a_readNext, .ref a_text, .int i_this_length, .int i_this_paths, .ref a_pathInput, .ref a_pathGates, .ref a_before, .ref a_after, .ref a_values, .ref a_taken, .ref a_waves, .int i_this_acts, .int i_this_turn, .ref a_row, .int i_this_seen, .ref a_seenPair, .ref a_seenTime, .ref a_seenLate, .long i_this_seed, .ref a_isKept, .ref a_kept])), (a_now, .inl (cI, 32, .inl k_now)), (a_other, .inl (cI, 8, .inl k_other)), (a_one, .inl (cI, 8, .inl k_one)), (a_before, .inl (cI, 12, .inl k_before)), (a_after, .inl (cI, 12, .inl k_after)), (a_values, .inl (cI, 12, .inl k_values)), (a_next, .inl (cI, 4, .inl k_next))] sz [.ref a_this, .int y1, .int y2, .int y3, .int y4, .int y5, .int y6] rr [(a_this, .inr (10, [.int i_this_inputs, .int i_this_gates, .ref a_now, .ref a_one, .ref a_other, .ref a_next, .int i_this_readInputs, .int i_this_readGates, .ref a_readOne, .ref a_readOther, .ref a_readNext, .ref a_text, .int i_this_length, .int i_this_paths, .ref a_pathInput, .ref a_pathGates, .ref a_before, .ref a_after, .ref a_values, .ref a_taken, .ref a_waves, .int i_this_acts, .int i_this_turn, .ref a_row, .int i_this_seen, .ref a_seenPair, .ref a_seenTime, .ref a_seenLate, .long i_this_seed, .ref a_isKept, .ref a_kept])), (a_now, .inl (cI, 32, .inl k_now)), (a_other, .inl (cI, 8, .inl k_other)), (a_one, .inl (cI, 8, .inl k_one)), (a_before, .inl (cI, 12, .inl o_before)), (a_after, .inl (cI, 12, .inl o_after)), (a_values, .inl (cI, 12, .inl o_values)), (a_next, .inl (cI, 4, .inl k_next))] := by
  refine entI (cc := cX10_bestOn) (maxL := 11) (own := RX10) (by decide) rfl rfl (Nat.le_of_ble_eq_true rfl) ?_
  intro p e s m args below meth c A ls Q H locs S hr hw hl hQ
  have hx := S.1.1
  have hb := S.1.2.1
  have hts := S.1.2.2.2.2
  have hl : lv_has ls 11 [(0, .ref a_this), (1, .int y1), (2, .int y2), (3, .int y3), (4, .int y4), (5, .int y5), (6, .int y6)] := hl
  have h := hf
  rw [f_X10_bestOn] at h
  refine lv_iconst (v := (0 : Int32)) hx hb dX10_bestOn_0 (by decide) ?_
  refine lv_istore (lv' := [(7, .int (0 : Int32)), (0, .ref a_this), (1, .int y1), (2, .int y2), (3, .int y3), (4, .int y4), (5, .int y5), (6, .int y6)]) hx hb dX10_bestOn_1 hl (by decide) rfl (fun ls hl => ?_)
  refine lv_bipush (v := (-9 : Int32)) hx hb dX10_bestOn_3 (by decide) ?_
  refine lv_istore (lv' := [(8, .int (-9 : Int32)), (7, .int (0 : Int32)), (0, .ref a_this), (1, .int y1), (2, .int y2), (3, .int y3), (4, .int y4), (5, .int y5), (6, .int y6)]) hx hb dX10_bestOn_5 hl (by decide) rfl (fun ls hl => ?_)
  refine lv_iconst (v := (0 : Int32)) hx hb dX10_bestOn_7 (by decide) ?_
  refine lv_istore (lv' := [(9, .int (0 : Int32)), (8, .int (-9 : Int32)), (7, .int (0 : Int32)), (0, .ref a_this), (1, .int y1), (2, .int y2), (3, .int y3), (4, .int y4), (5, .int y5), (6, .int y6)]) hx hb dX10_bestOn_8 hl (by decide) rfl (fun ls hl => ?_)
  obtain ⟨j121_1, ej121_1, h⟩ := bnd_ex h
  have hj121_1 : ∀ (x7_1 : Int32) (x8_2 : Int32) (k_before_3 : (Nat → Int32)) (k_after_4 : (Nat → Int32)) (k_values_5 : (Nat → Int32)) (H : Heap) (locs : List Loc) (ls : Array Slot), j121_1 x7_1 x8_2 k_before_3 k_after_4 k_values_5 = some (rr, o_before, o_after, o_values) → Wd D (tyA cI cJ cZ cS) A s [(a_this, .inr (10, [.int i_this_inputs, .int i_this_gates, .ref a_now, .ref a_one, .ref a_other, .ref a_next, .int i_this_readInputs, .int i_this_readGates, .ref a_readOne, .ref a_readOther, .ref a_readNext, .ref a_text, .int i_this_length, .int i_this_paths, .ref a_pathInput, .ref a_pathGates, .ref a_before, .ref a_after, .ref a_values, .ref a_taken, .ref a_waves, .int i_this_acts, .int i_this_turn, .ref a_row, .int i_this_seen, .ref a_seenPair, .ref a_seenTime, .ref a_seenLate, .long i_this_seed, .ref a_isKept, .ref a_kept])), (a_now, .inl (cI, 32, .inl k_now)), (a_other, .inl (cI, 8, .inl k_other)), (a_one, .inl (cI, 8, .inl k_one)), (a_before, .inl (cI, 12, .inl k_before_3)), (a_after, .inl (cI, 12, .inl k_after_4)), (a_values, .inl (cI, 12, .inl k_values_5)), (a_next, .inl (cI, 4, .inl k_next))] H locs → lv_has ls 11 [(6, .int y6), (7, .int x7_1), (8, .int x8_2)] → W p l e rmX10_bestOn s m args below meth c H locs 0 0 Q (F0 m 121 ls []) := by
    intro x7_1 x8_2 k_before_3 k_after_4 k_values_5 H locs ls h hw hl
    replace h := ap5 ej121_1 h
    refine lv_iload hx hb dX10_bestOn_121 (lv_at hl 0 rfl) ?_
    refine lv_if_ne (tgt := 131) hx hb dX10_bestOn_123 (by decide) (fun hc => ?_) (fun hc => ?_)
    · replace h := if_f hc h
      refine lv_iload hx hb dX10_bestOn_131 (lv_at hl 1 rfl) ?_
      cases h
      exact z_iret S hQ hr hw [0, 1, 2, 3, 4, 5, 6, 7] rfl rfl dX10_bestOn_133
    · replace h := if_t hc h
      refine lv_iload hx hb dX10_bestOn_126 (lv_at hl 2 rfl) ?_
      refine lv_goto (tgt := 133) hx hb dX10_bestOn_128 (by decide) ?_
      cases h
      exact z_iret S hQ hr hw [0, 1, 2, 3, 4, 5, 6, 7] rfl rfl dX10_bestOn_133
  have hL10_1 : ∀ (nf : Nat) (x7_6 : Int32) (x8_7 : Int32) (x9_8 : Int32) (k_before_9 : (Nat → Int32)) (k_after_10 : (Nat → Int32)) (k_values_11 : (Nat → Int32)) (H : Heap) (locs : List Loc) (ls : Array Slot), f_X10_bestOn_L10 N y1 y2 y3 y4 y5 i_this_inputs i_this_gates k_now k_other k_one k_next j121_1 nf x7_6 x8_7 x9_8 k_before_9 k_after_10 k_values_11 = some (rr, o_before, o_after, o_values) → Wd D (tyA cI cJ cZ cS) A s [(a_this, .inr (10, [.int i_this_inputs, .int i_this_gates, .ref a_now, .ref a_one, .ref a_other, .ref a_next, .int i_this_readInputs, .int i_this_readGates, .ref a_readOne, .ref a_readOther, .ref a_readNext, .ref a_text, .int i_this_length, .int i_this_paths, .ref a_pathInput, .ref a_pathGates, .ref a_before, .ref a_after, .ref a_values, .ref a_taken, .ref a_waves, .int i_this_acts, .int i_this_turn, .ref a_row, .int i_this_seen, .ref a_seenPair, .ref a_seenTime, .ref a_seenLate, .long i_this_seed, .ref a_isKept, .ref a_kept])), (a_now, .inl (cI, 32, .inl k_now)), (a_other, .inl (cI, 8, .inl k_other)), (a_one, .inl (cI, 8, .inl k_one)), (a_before, .inl (cI, 12, .inl k_before_9)), (a_after, .inl (cI, 12, .inl k_after_10)), (a_values, .inl (cI, 12, .inl k_values_11)), (a_next, .inl (cI, 4, .inl k_next))] H locs → lv_has ls 11 [(0, .ref a_this), (1, .int y1), (2, .int y2), (3, .int y3), (4, .int y4), (5, .int y5), (6, .int y6), (7, .int x7_6), (8, .int x8_7), (9, .int x9_8)] → W p l e rmX10_bestOn s m args below meth c H locs 0 0 Q (F0 m 10 ls []) := by
    intro nf
    induction nf with
    | zero =>
      intro x7_6 x8_7 x9_8 k_before_9 k_after_10 k_values_11 H locs ls h
      rw [f_X10_bestOn_L10] at h
      cases h
    | succ n_10 ih_10 =>
      intro x7_6 x8_7 x9_8 k_before_9 k_after_10 k_values_11 H locs ls h hw hl
      rw [f_X10_bestOn_L10] at h
      refine lv_iload hx hb dX10_bestOn_10 (lv_at hl 9 rfl) ?_
      refine lv_sipush (v := (256 : Int32)) hx hb dX10_bestOn_12 (by decide) ?_
      refine lv_icmp_ge (tgt := 121) hx hb dX10_bestOn_15 (by decide) (fun hc => ?_) (fun hc => ?_)
      · replace h := if_t hc h
        exact hj121_1 x7_6 x8_7 k_before_9 k_after_10 k_values_11 H locs ls h hw (lv_sub hl [6, 7, 8] rfl)
      · replace h := if_f hc h
        refine lv_aload_n hx hb dX10_bestOn_18 rfl (lv_at hl 0 rfl) ?_
        refine lv_iload hx hb dX10_bestOn_19 (lv_at hl 9 rfl) ?_
        obtain ⟨r_12, e21_1, h⟩ := obd1_el h
        refine zr_VI (As := [.int x9_8]) (rest := []) (q0 := 0) S hw (c_X10_isPair l D cI cJ cZ cS H.size N a_this a_now a_one a_other a_next a_readOne a_readOther a_readNext a_text a_pathInput a_pathGates a_before a_after a_values a_taken a_waves a_row a_seenPair a_seenTime a_seenLate a_isKept a_kept i_this_inputs i_this_gates i_this_readInputs i_this_readGates i_this_length i_this_paths i_this_acts i_this_turn i_this_seen i_this_seed x9_8 r_12 e21_1) (cwV 1 hts gX10_bestOn_X10_isPair rfl rfl rfl dv_X10_isPair ⟨Nat.le_of_ble_eq_true rfl, Nat.le_of_ble_eq_true rfl⟩) [0] rfl rfl rfl rfl rfl rfl hl.1 rfl (Nat.le_of_ble_eq_true rfl) dX10_bestOn_21 ⟨Nat.zero_le _, Nat.zero_le _⟩ ?_
        obtain ⟨j115_1, ej115_1, h⟩ := bnd_ex h
        have hj115_1 : ∀ (x7_13 : Int32) (x8_14 : Int32) (k_before_15 : (Nat → Int32)) (k_after_16 : (Nat → Int32)) (k_values_17 : (Nat → Int32)) (H : Heap) (locs : List Loc) (ls : Array Slot), j115_1 x7_13 x8_14 k_before_15 k_after_16 k_values_17 = some (rr, o_before, o_after, o_values) → Wd D (tyA cI cJ cZ cS) A s [(a_this, .inr (10, [.int i_this_inputs, .int i_this_gates, .ref a_now, .ref a_one, .ref a_other, .ref a_next, .int i_this_readInputs, .int i_this_readGates, .ref a_readOne, .ref a_readOther, .ref a_readNext, .ref a_text, .int i_this_length, .int i_this_paths, .ref a_pathInput, .ref a_pathGates, .ref a_before, .ref a_after, .ref a_values, .ref a_taken, .ref a_waves, .int i_this_acts, .int i_this_turn, .ref a_row, .int i_this_seen, .ref a_seenPair, .ref a_seenTime, .ref a_seenLate, .long i_this_seed, .ref a_isKept, .ref a_kept])), (a_now, .inl (cI, 32, .inl k_now)), (a_other, .inl (cI, 8, .inl k_other)), (a_one, .inl (cI, 8, .inl k_one)), (a_before, .inl (cI, 12, .inl k_before_15)), (a_after, .inl (cI, 12, .inl k_after_16)), (a_values, .inl (cI, 12, .inl k_values_17)), (a_next, .inl (cI, 4, .inl k_next))] H locs → lv_has ls 11 [(0, .ref a_this), (1, .int y1), (2, .int y2), (3, .int y3), (4, .int y4), (5, .int y5), (6, .int y6), (7, .int x7_13), (8, .int x8_14), (9, .int x9_8)] → W p l e rmX10_bestOn s m args below meth c H locs 0 0 Q (F0 m 115 ls []) := by
          intro x7_13 x8_14 k_before_15 k_after_16 k_values_17 H locs ls h hw hl
          replace h := ap5 ej115_1 h
          obtain ⟨x9_18, ex9_18, h⟩ := bnd_ex h
          refine lv_iinc (v := x9_18) (lv' := [(9, .int x9_18), (0, .ref a_this), (1, .int y1), (2, .int y2), (3, .int y3), (4, .int y4), (5, .int y5), (6, .int y6), (7, .int x7_13), (8, .int x8_14)]) hx hb dX10_bestOn_115 hl (k := 9) rfl (by rw [ex9_18]; rfl) (by decide) rfl (fun ls hl => ?_)
          refine lv_goto (tgt := 10) hx hb dX10_bestOn_118 (by decide) ?_
          exact ih_10 x7_13 x8_14 x9_18 k_before_15 k_after_16 k_values_17 H locs ls h hw (lv_sub hl [1, 2, 3, 4, 5, 6, 7, 8, 9, 0] rfl)
        refine lv_if_eq (tgt := 115) hx hb dX10_bestOn_24 (by decide) (fun hc => ?_) (fun hc => ?_)
        · replace h := if_t hc h
          exact hj115_1 x7_6 x8_7 k_before_9 k_after_10 k_values_11 H locs ls h hw hl
        · replace h := if_f hc h
          refine lv_iload hx hb dX10_bestOn_27 (lv_at hl 9 rfl) ?_
          refine lv_iload_n hx hb dX10_bestOn_29 rfl (lv_at hl 2 rfl) ?_
          obtain ⟨r_19, e30_1, h⟩ := obd1_el h
          refine zr_SI (As := [.int x9_8, .int y2]) (rest := []) (q0 := 0) (ci := 0) (fs := []) (qc := (RX0, TX0, 4)) S hw (c_X10_has l D cI cJ cZ cS H.size N x9_8 y2 r_19 e30_1) (va_cwS 2 hts gX10_bestOn_X10_has rfl rfl rfl ds_X10_has ⟨Nat.le_of_ble_eq_true rfl, Nat.le_of_ble_eq_true rfl⟩) [] rfl rfl rfl hl.1 rfl (Nat.le_of_ble_eq_true rfl) dX10_bestOn_30 ⟨Nat.zero_le _, Nat.zero_le _⟩ ?_
          refine lv_iload hx hb dX10_bestOn_33 (lv_at hl 4 rfl) ?_
          refine lv_iconst (v := (1 : Int32)) hx hb dX10_bestOn_35 (by decide) ?_
          obtain ⟨j44_1, ej44_1, h⟩ := bnd_ex h
          have hj44_1 : ∀ (t_20 : Int32) (t_21 : Int32) (H : Heap) (locs : List Loc) (ls : Array Slot), j44_1 t_20 t_21 = some (rr, o_before, o_after, o_values) → Wd D (tyA cI cJ cZ cS) A s [(a_this, .inr (10, [.int i_this_inputs, .int i_this_gates, .ref a_now, .ref a_one, .ref a_other, .ref a_next, .int i_this_readInputs, .int i_this_readGates, .ref a_readOne, .ref a_readOther, .ref a_readNext, .ref a_text, .int i_this_length, .int i_this_paths, .ref a_pathInput, .ref a_pathGates, .ref a_before, .ref a_after, .ref a_values, .ref a_taken, .ref a_waves, .int i_this_acts, .int i_this_turn, .ref a_row, .int i_this_seen, .ref a_seenPair, .ref a_seenTime, .ref a_seenLate, .long i_this_seed, .ref a_isKept, .ref a_kept])), (a_now, .inl (cI, 32, .inl k_now)), (a_other, .inl (cI, 8, .inl k_other)), (a_one, .inl (cI, 8, .inl k_one)), (a_before, .inl (cI, 12, .inl k_before_9)), (a_after, .inl (cI, 12, .inl k_after_10)), (a_values, .inl (cI, 12, .inl k_values_11)), (a_next, .inl (cI, 4, .inl k_next))] H locs → lv_has ls 11 [(0, .ref a_this), (1, .int y1), (2, .int y2), (3, .int y3), (4, .int y4), (5, .int y5), (6, .int y6), (7, .int x7_6), (8, .int x8_7), (9, .int x9_8)] → W p l e rmX10_bestOn s m args below meth c H locs 0 0 Q (F0 m 44 ls [.int t_20, .int t_21]) := by
            intro t_20 t_21 H locs ls h hw hl
            replace h := ap2 ej44_1 h
            refine lv_icmp_ne (tgt := 115) hx hb dX10_bestOn_44 (by decide) (fun hc => ?_) (fun hc => ?_)
            · replace h := if_f hc h
              exact hj115_1 x7_6 x8_7 k_before_9 k_after_10 k_values_11 H locs ls h hw hl
            · replace h := if_t hc h
              refine lv_aload_n hx hb dX10_bestOn_47 rfl (lv_at hl 0 rfl) ?_
              refine lv_iload_n hx hb dX10_bestOn_48 rfl (lv_at hl 1 rfl) ?_
              refine lv_iload hx hb dX10_bestOn_49 (lv_at hl 9 rfl) ?_
              obtain ⟨k_before_22, k_after_23, k_values_24, e51_1, h⟩ := obd3_el h
              refine zc_VV (As := [.int y1, .int x9_8]) (rest := []) (wr := [(a_next, .inl (cI, 4, .inl k_next))]) (q0 := 0) S hw (c_X10_findPair l D cI cJ cZ cS H.size N a_this a_now a_other a_one a_before a_after a_values a_next a_readOne a_readOther a_readNext a_text a_pathInput a_pathGates a_taken a_waves a_row a_seenPair a_seenTime a_seenLate a_isKept a_kept i_this_inputs i_this_gates i_this_readInputs i_this_readGates i_this_length i_this_paths i_this_acts i_this_turn i_this_seen i_this_seed k_now k_other k_one k_before_9 k_after_10 k_values_11 y1 x9_8 k_before_22 k_after_23 k_values_24 e51_1) (cwV 2 hts gX10_bestOn_X10_findPair rfl rfl rfl dv_X10_findPair ⟨Nat.le_of_ble_eq_true rfl, Nat.le_of_ble_eq_true rfl⟩) [0, 1, 2, 3, 4, 5, 6] [7] rfl rfl rfl rfl (by decide) rfl rfl rfl rfl hl.1 rfl (Nat.le_of_ble_eq_true rfl) dX10_bestOn_51 ⟨Nat.zero_le _, Nat.zero_le _⟩ (fun H locs hw => ?_)
              refine lv_aload_n hx hb dX10_bestOn_54 rfl (lv_at hl 0 rfl) ?_
              refine lv_iload hx hb dX10_bestOn_55 (lv_at hl 5 rfl) ?_
              obtain ⟨r_25, e57_1, h⟩ := obd1_el h
              refine zr_VI (As := [.int y5]) (rest := []) (q0 := 0) S hw (c_X10_isLaunched l D cI cJ cZ cS H.size N a_this a_after a_next a_before a_now a_one a_other a_readOne a_readOther a_readNext a_text a_pathInput a_pathGates a_values a_taken a_waves a_row a_seenPair a_seenTime a_seenLate a_isKept a_kept i_this_inputs i_this_gates i_this_readInputs i_this_readGates i_this_length i_this_paths i_this_acts i_this_turn i_this_seen i_this_seed k_after_23 k_next k_before_22 y5 r_25 e57_1) (cwV 1 hts gX10_bestOn_X10_isLaunched rfl rfl rfl dv_X10_isLaunched ⟨Nat.le_of_ble_eq_true rfl, Nat.le_of_ble_eq_true rfl⟩) [1, 6, 0, 5] rfl rfl rfl rfl rfl rfl hl.1 rfl (Nat.le_of_ble_eq_true rfl) dX10_bestOn_57 ⟨Nat.zero_le _, Nat.zero_le _⟩ ?_
              obtain ⟨j79_1, ej79_1, h⟩ := bnd_ex h
              have hj79_1 : ∀ (t_26 : Int32) (H : Heap) (locs : List Loc) (ls : Array Slot), j79_1 t_26 = some (rr, o_before, o_after, o_values) → Wd D (tyA cI cJ cZ cS) A s [(a_this, .inr (10, [.int i_this_inputs, .int i_this_gates, .ref a_now, .ref a_one, .ref a_other, .ref a_next, .int i_this_readInputs, .int i_this_readGates, .ref a_readOne, .ref a_readOther, .ref a_readNext, .ref a_text, .int i_this_length, .int i_this_paths, .ref a_pathInput, .ref a_pathGates, .ref a_before, .ref a_after, .ref a_values, .ref a_taken, .ref a_waves, .int i_this_acts, .int i_this_turn, .ref a_row, .int i_this_seen, .ref a_seenPair, .ref a_seenTime, .ref a_seenLate, .long i_this_seed, .ref a_isKept, .ref a_kept])), (a_now, .inl (cI, 32, .inl k_now)), (a_other, .inl (cI, 8, .inl k_other)), (a_one, .inl (cI, 8, .inl k_one)), (a_before, .inl (cI, 12, .inl k_before_22)), (a_after, .inl (cI, 12, .inl k_after_23)), (a_values, .inl (cI, 12, .inl k_values_24)), (a_next, .inl (cI, 4, .inl k_next))] H locs → lv_has ls 11 [(0, .ref a_this), (1, .int y1), (2, .int y2), (3, .int y3), (4, .int y4), (5, .int y5), (6, .int y6), (7, .int x7_6), (8, .int x8_7), (9, .int x9_8)] → W p l e rmX10_bestOn s m args below meth c H locs 0 0 Q (F0 m 79 ls [.int t_26]) := by
                intro t_26 H locs ls h hw hl
                replace h := ap1 ej79_1 h
                refine lv_istore (lv' := [(10, .int t_26), (0, .ref a_this), (1, .int y1), (2, .int y2), (3, .int y3), (4, .int y4), (5, .int y5), (6, .int y6), (7, .int x7_6), (8, .int x8_7), (9, .int x9_8)]) hx hb dX10_bestOn_79 hl (by decide) rfl (fun ls hl => ?_)
                refine lv_iload hx hb dX10_bestOn_81 (lv_at hl 0 rfl) ?_
                obtain ⟨j98_1, ej98_1, h⟩ := bnd_ex h
                have hj98_1 : ∀ (t_27 : Int32) (H : Heap) (locs : List Loc) (ls : Array Slot), j98_1 t_27 = some (rr, o_before, o_after, o_values) → Wd D (tyA cI cJ cZ cS) A s [(a_this, .inr (10, [.int i_this_inputs, .int i_this_gates, .ref a_now, .ref a_one, .ref a_other, .ref a_next, .int i_this_readInputs, .int i_this_readGates, .ref a_readOne, .ref a_readOther, .ref a_readNext, .ref a_text, .int i_this_length, .int i_this_paths, .ref a_pathInput, .ref a_pathGates, .ref a_before, .ref a_after, .ref a_values, .ref a_taken, .ref a_waves, .int i_this_acts, .int i_this_turn, .ref a_row, .int i_this_seen, .ref a_seenPair, .ref a_seenTime, .ref a_seenLate, .long i_this_seed, .ref a_isKept, .ref a_kept])), (a_now, .inl (cI, 32, .inl k_now)), (a_other, .inl (cI, 8, .inl k_other)), (a_one, .inl (cI, 8, .inl k_one)), (a_before, .inl (cI, 12, .inl k_before_22)), (a_after, .inl (cI, 12, .inl k_after_23)), (a_values, .inl (cI, 12, .inl k_values_24)), (a_next, .inl (cI, 4, .inl k_next))] H locs → lv_has ls 11 [(0, .ref a_this), (1, .int y1), (2, .int y2), (3, .int y3), (4, .int y4), (5, .int y5), (6, .int y6), (7, .int x7_6), (9, .int x9_8), (10, .int t_26)] → W p l e rmX10_bestOn s m args below meth c H locs 0 0 Q (F0 m 98 ls [.int t_27]) := by
                  intro t_27 H locs ls h hw hl
                  replace h := ap1 ej98_1 h
                  refine lv_istore (lv' := [(8, .int t_27), (0, .ref a_this), (1, .int y1), (2, .int y2), (3, .int y3), (4, .int y4), (5, .int y5), (6, .int y6), (7, .int x7_6), (9, .int x9_8), (10, .int t_26)]) hx hb dX10_bestOn_98 hl (by decide) rfl (fun ls hl => ?_)
                  refine lv_iload hx hb dX10_bestOn_100 (lv_at hl 8 rfl) ?_
                  refine lv_iload hx hb dX10_bestOn_102 (lv_at hl 10 rfl) ?_
                  obtain ⟨j112_1, ej112_1, h⟩ := bnd_ex h
                  have hj112_1 : ∀ (t_28 : Int32) (t_29 : Int32) (H : Heap) (locs : List Loc) (ls : Array Slot), j112_1 t_28 t_29 = some (rr, o_before, o_after, o_values) → Wd D (tyA cI cJ cZ cS) A s [(a_this, .inr (10, [.int i_this_inputs, .int i_this_gates, .ref a_now, .ref a_one, .ref a_other, .ref a_next, .int i_this_readInputs, .int i_this_readGates, .ref a_readOne, .ref a_readOther, .ref a_readNext, .ref a_text, .int i_this_length, .int i_this_paths, .ref a_pathInput, .ref a_pathGates, .ref a_before, .ref a_after, .ref a_values, .ref a_taken, .ref a_waves, .int i_this_acts, .int i_this_turn, .ref a_row, .int i_this_seen, .ref a_seenPair, .ref a_seenTime, .ref a_seenLate, .long i_this_seed, .ref a_isKept, .ref a_kept])), (a_now, .inl (cI, 32, .inl k_now)), (a_other, .inl (cI, 8, .inl k_other)), (a_one, .inl (cI, 8, .inl k_one)), (a_before, .inl (cI, 12, .inl k_before_22)), (a_after, .inl (cI, 12, .inl k_after_23)), (a_values, .inl (cI, 12, .inl k_values_24)), (a_next, .inl (cI, 4, .inl k_next))] H locs → lv_has ls 11 [(0, .ref a_this), (1, .int y1), (2, .int y2), (3, .int y3), (4, .int y4), (5, .int y5), (6, .int y6), (8, .int t_27), (9, .int x9_8)] → W p l e rmX10_bestOn s m args below meth c H locs 0 0 Q (F0 m 112 ls [.int t_28, .int t_29]) := by
                    intro t_28 t_29 H locs ls h hw hl
                    replace h := ap2 ej112_1 h
                    refine lv_iadd hx hb dX10_bestOn_112 ?_
                    refine lv_topi (fun x7_30 ex7_30 => ?_)
                    replace h := bnd_at ex7_30 h
                    refine lv_istore (lv' := [(7, .int x7_30), (0, .ref a_this), (1, .int y1), (2, .int y2), (3, .int y3), (4, .int y4), (5, .int y5), (6, .int y6), (8, .int t_27), (9, .int x9_8)]) hx hb dX10_bestOn_113 hl (by decide) rfl (fun ls hl => ?_)
                    exact hj115_1 x7_30 t_27 k_before_22 k_after_23 k_values_24 H locs ls h hw (lv_sub hl [1, 2, 3, 4, 5, 6, 7, 0, 8, 9] rfl)
                  refine lv_if_eq (tgt := 111) hx hb dX10_bestOn_104 (by decide) (fun hc => ?_) (fun hc => ?_)
                  · replace h := if_t hc h
                    refine lv_iconst (v := (0 : Int32)) hx hb dX10_bestOn_111 (by decide) ?_
                    exact hj112_1 ((0 : Int32)) x7_6 H locs ls h hw (lv_sub hl [1, 2, 3, 4, 5, 6, 7, 0, 9] rfl)
                  · replace h := if_f hc h
                    refine lv_iconst (v := (1 : Int32)) hx hb dX10_bestOn_107 (by decide) ?_
                    refine lv_goto (tgt := 112) hx hb dX10_bestOn_108 (by decide) ?_
                    exact hj112_1 ((1 : Int32)) x7_6 H locs ls h hw (lv_sub hl [1, 2, 3, 4, 5, 6, 7, 0, 9] rfl)
                obtain ⟨j96_1, ej96_1, h⟩ := bnd_ex h
                have hj96_1 : ∀ (H : Heap) (locs : List Loc) (ls : Array Slot), j96_1 = some (rr, o_before, o_after, o_values) → Wd D (tyA cI cJ cZ cS) A s [(a_this, .inr (10, [.int i_this_inputs, .int i_this_gates, .ref a_now, .ref a_one, .ref a_other, .ref a_next, .int i_this_readInputs, .int i_this_readGates, .ref a_readOne, .ref a_readOther, .ref a_readNext, .ref a_text, .int i_this_length, .int i_this_paths, .ref a_pathInput, .ref a_pathGates, .ref a_before, .ref a_after, .ref a_values, .ref a_taken, .ref a_waves, .int i_this_acts, .int i_this_turn, .ref a_row, .int i_this_seen, .ref a_seenPair, .ref a_seenTime, .ref a_seenLate, .long i_this_seed, .ref a_isKept, .ref a_kept])), (a_now, .inl (cI, 32, .inl k_now)), (a_other, .inl (cI, 8, .inl k_other)), (a_one, .inl (cI, 8, .inl k_one)), (a_before, .inl (cI, 12, .inl k_before_22)), (a_after, .inl (cI, 12, .inl k_after_23)), (a_values, .inl (cI, 12, .inl k_values_24)), (a_next, .inl (cI, 4, .inl k_next))] H locs → lv_has ls 11 [(0, .ref a_this), (1, .int y1), (2, .int y2), (3, .int y3), (4, .int y4), (5, .int y5), (6, .int y6), (7, .int x7_6), (8, .int x8_7), (9, .int x9_8), (10, .int t_26)] → W p l e rmX10_bestOn s m args below meth c H locs 0 0 Q (F0 m 96 ls []) := by
                  intro H locs ls h hw hl
                  replace h := ap0 ej96_1 h
                  refine lv_iload hx hb dX10_bestOn_96 (lv_at hl 8 rfl) ?_
                  exact hj98_1 x8_7 H locs ls h hw (lv_sub hl [0, 1, 2, 3, 4, 5, 6, 7, 9, 10] rfl)
                refine lv_if_eq (tgt := 96) hx hb dX10_bestOn_83 (by decide) (fun hc => ?_) (fun hc => ?_)
                · replace h := if_t hc h
                  exact hj96_1  H locs ls h hw (lv_sub hl [1, 2, 3, 4, 5, 6, 7, 8, 9, 10, 0] rfl)
                · replace h := if_f hc h
                  refine lv_iload hx hb dX10_bestOn_86 (lv_at hl 8 rfl) ?_
                  refine lv_if_ne (tgt := 96) hx hb dX10_bestOn_88 (by decide) (fun hc => ?_) (fun hc => ?_)
                  · replace h := if_f hc h
                    exact hj96_1  H locs ls h hw (lv_sub hl [1, 2, 3, 4, 5, 6, 7, 8, 9, 10, 0] rfl)
                  · replace h := if_t hc h
                    refine lv_iload hx hb dX10_bestOn_91 (lv_at hl 10 rfl) ?_
                    refine lv_goto (tgt := 98) hx hb dX10_bestOn_93 (by decide) ?_
                    exact hj98_1 x9_8 H locs ls h hw (lv_sub hl [1, 2, 3, 4, 5, 6, 7, 8, 10, 0] rfl)
              obtain ⟨j78_1, ej78_1, h⟩ := bnd_ex h
              have hj78_1 : ∀ (H : Heap) (locs : List Loc) (ls : Array Slot), j78_1 = some (rr, o_before, o_after, o_values) → Wd D (tyA cI cJ cZ cS) A s [(a_this, .inr (10, [.int i_this_inputs, .int i_this_gates, .ref a_now, .ref a_one, .ref a_other, .ref a_next, .int i_this_readInputs, .int i_this_readGates, .ref a_readOne, .ref a_readOther, .ref a_readNext, .ref a_text, .int i_this_length, .int i_this_paths, .ref a_pathInput, .ref a_pathGates, .ref a_before, .ref a_after, .ref a_values, .ref a_taken, .ref a_waves, .int i_this_acts, .int i_this_turn, .ref a_row, .int i_this_seen, .ref a_seenPair, .ref a_seenTime, .ref a_seenLate, .long i_this_seed, .ref a_isKept, .ref a_kept])), (a_now, .inl (cI, 32, .inl k_now)), (a_other, .inl (cI, 8, .inl k_other)), (a_one, .inl (cI, 8, .inl k_one)), (a_before, .inl (cI, 12, .inl k_before_22)), (a_after, .inl (cI, 12, .inl k_after_23)), (a_values, .inl (cI, 12, .inl k_values_24)), (a_next, .inl (cI, 4, .inl k_next))] H locs → lv_has ls 11 [(0, .ref a_this), (1, .int y1), (2, .int y2), (3, .int y3), (4, .int y4), (5, .int y5), (6, .int y6), (7, .int x7_6), (8, .int x8_7), (9, .int x9_8)] → W p l e rmX10_bestOn s m args below meth c H locs 0 0 Q (F0 m 78 ls []) := by
                intro H locs ls h hw hl
                replace h := ap0 ej78_1 h
                refine lv_iconst (v := (0 : Int32)) hx hb dX10_bestOn_78 (by decide) ?_
                exact hj79_1 ((0 : Int32)) H locs ls h hw hl
              refine lv_if_eq (tgt := 78) hx hb dX10_bestOn_60 (by decide) (fun hc => ?_) (fun hc => ?_)
              · replace h := if_t hc h
                exact hj78_1  H locs ls h (hw.sub [1, 2, 3, 4, 5, 6, 7, 0] rfl rfl) hl
              · replace h := if_f hc h
                refine lv_aload_n hx hb dX10_bestOn_63 rfl (lv_at hl 0 rfl) ?_
                refine lv_iload_n hx hb dX10_bestOn_64 rfl (lv_at hl 1 rfl) ?_
                refine lv_iload_n hx hb dX10_bestOn_65 rfl (lv_at hl 2 rfl) ?_
                refine lv_iload_n hx hb dX10_bestOn_66 rfl (lv_at hl 3 rfl) ?_
                obtain ⟨r_31, e67_1, h⟩ := obd1_el h
                refine zr_VI (As := [.int y1, .int y2, .int y3]) (rest := []) (q0 := 0) S hw (c_X10_testsOf l D cI cJ cZ cS H.size N a_this a_before a_after a_now a_one a_values a_other a_next a_readOne a_readOther a_readNext a_text a_pathInput a_pathGates a_taken a_waves a_row a_seenPair a_seenTime a_seenLate a_isKept a_kept i_this_inputs i_this_gates i_this_readInputs i_this_readGates i_this_length i_this_paths i_this_acts i_this_turn i_this_seen i_this_seed k_before_22 k_after_23 k_now k_one k_values_24 k_other y1 y2 y3 r_31 e67_1) (cwV 3 hts gX10_bestOn_X10_testsOf rfl rfl rfl dv_X10_testsOf ⟨Nat.le_of_ble_eq_true rfl, Nat.le_of_ble_eq_true rfl⟩) [1, 5, 6, 2, 4, 7, 3] rfl rfl rfl rfl rfl rfl hl.1 rfl (Nat.le_of_ble_eq_true rfl) dX10_bestOn_67 ⟨Nat.zero_le _, Nat.zero_le _⟩ ?_
                refine lv_iconst (v := (2 : Int32)) hx hb dX10_bestOn_70 (by decide) ?_
                refine lv_icmp_ne (tgt := 78) hx hb dX10_bestOn_71 (by decide) (fun hc => ?_) (fun hc => ?_)
                · replace h := if_f hc h
                  exact hj78_1  H locs ls h (hw.sub [1, 2, 3, 4, 5, 6, 7, 0] rfl rfl) hl
                · replace h := if_t hc h
                  refine lv_iconst (v := (1 : Int32)) hx hb dX10_bestOn_74 (by decide) ?_
                  refine lv_goto (tgt := 79) hx hb dX10_bestOn_75 (by decide) ?_
                  exact hj79_1 ((1 : Int32)) H locs ls h (hw.sub [1, 2, 3, 4, 5, 6, 7, 0] rfl rfl) hl
          refine lv_icmp_ne (tgt := 43) hx hb dX10_bestOn_36 (by decide) (fun hc => ?_) (fun hc => ?_)
          · replace h := if_f hc h
            refine lv_iconst (v := (0 : Int32)) hx hb dX10_bestOn_43 (by decide) ?_
            exact hj44_1 ((0 : Int32)) r_19 H locs ls h hw hl
          · replace h := if_t hc h
            refine lv_iconst (v := (1 : Int32)) hx hb dX10_bestOn_39 (by decide) ?_
            refine lv_goto (tgt := 44) hx hb dX10_bestOn_40 (by decide) ?_
            exact hj44_1 ((1 : Int32)) r_19 H locs ls h hw hl
  exact hL10_1 N ((0 : Int32)) ((-9 : Int32)) ((0 : Int32)) k_before k_after k_values H locs ls h hw (lv_sub hl [3, 4, 5, 6, 7, 8, 9, 2, 1, 0] rfl)
abbrev rmX10_best : Room := { frames := 4, cells := 0, slots := 0, locals := 98 }
theorem dv_X10_best : yX10_best.cls = RX10 ∧ yX10_best.cls ≠ "java/lang/invoke/MethodHandle" ∧ yX10_best.cls ≠ "java/lang/invoke/VarHandle" ∧ (parseMethodDescriptor yX10_best.desc).map (fun d => d.parameters.length) = some 4 := by decide +kernel
noncomputable def f_X10_best (N : Nat) (y1 : Int32) (y2 : Int32) (y3 : Int32) (y4 : Int32) (i_this_inputs : Int32) (i_this_gates : Int32) (i_this_paths : Int32) (k_pathInput : (Nat → Int32)) (k_pathGates : (Nat → Int32)) (k_now : (Nat → Int32)) (k_other : (Nat → Int32)) (k_one : (Nat → Int32)) (k_before : (Nat → Int32)) (k_after : (Nat → Int32)) (k_values : (Nat → Int32)) (k_next : (Nat → Int32)) : Option (Int32 × (Nat → Int32) × (Nat → Int32) × (Nat → Int32)) :=
  obd1 (f_X10_isPath N y1 i_this_paths) fun (r_1 : Int32) => (if r_1 = (0 : Int32) then (some ((-1 : Int32), k_before, k_after, k_values)) else (obd1 (f_X10_in N (y2.toInt64) (0 : Int64) (1 : Int64)) fun (r_2 : Int32) => (if r_2 = (0 : Int32) then (some ((-2 : Int32), k_before, k_after, k_values)) else (obd1 (f_X10_in N (y3.toInt64) (0 : Int64) (2 : Int64)) fun (r_3 : Int32) => (if r_3 = (0 : Int32) then (some ((-2 : Int32), k_before, k_after, k_values)) else (obd1 (f_X10_in N (y4.toInt64) (0 : Int64) (1 : Int64)) fun (r_4 : Int32) => (if r_4 = (0 : Int32) then (some ((-2 : Int32), k_before, k_after, k_values)) else (grd (inb y1 64) <| grd (inb y1 64) <| obd4 (f_X10_bestOn N (0 : Int32) (k_pathInput y1.toNatClampNeg) (k_pathGates y1.toNatClampNeg) y2 y3 y4 i_this_inputs i_this_gates k_now k_other k_one k_before k_after k_values k_next) fun (r_5 : Int32) (k_before_6 : (Nat → Int32)) (k_after_7 : (Nat → Int32)) (k_values_8 : (Nat → Int32)) => some (r_5, k_before_6, k_after_7, k_values_8)))))))))
set_option maxHeartbeats 4000000 in
set_option maxRecDepth 100000 in
theorem c_X10_best (l : Launch) (D : va_G) (cI cJ cZ cS : ClassId) (sz N : Nat) (a_this a_pathInput a_pathGates a_now a_other a_one a_before a_after a_values a_next a_readOne a_readOther a_readNext a_text a_taken a_waves a_row a_seenPair a_seenTime a_seenLate a_isKept a_kept : Nat) (i_this_inputs : Int32) (i_this_gates : Int32) (i_this_readInputs : Int32) (i_this_readGates : Int32) (i_this_length : Int32) (i_this_paths : Int32) (i_this_acts : Int32) (i_this_turn : Int32) (i_this_seen : Int32) (i_this_seed : Int64) (k_pathInput : (Nat → Int32)) (k_pathGates : (Nat → Int32)) (k_now : (Nat → Int32)) (k_other : (Nat → Int32)) (k_one : (Nat → Int32)) (k_before : (Nat → Int32)) (k_after : (Nat → Int32)) (k_values : (Nat → Int32)) (k_next : (Nat → Int32)) (y1 : Int32) (y2 : Int32) (y3 : Int32) (y4 : Int32) (rr : Int32) (o_before : (Nat → Int32)) (o_after : (Nat → Int32)) (o_values : (Nat → Int32)) (hf : f_X10_best N y1 y2 y3 y4 i_this_inputs i_this_gates i_this_paths k_pathInput k_pathGates k_now k_other k_one k_before k_after k_values k_next = some (rr, o_before, o_after, o_values)) : MetI l yX10_best wsX10_best rmX10_best D (tyA cI cJ cZ cS) [(a_this, .inr (10, [.int i_this_inputs, .int i_this_gates, .ref a_now, .ref a_one, .ref a_other, .ref a_next, .int i_this_readInputs, .int i_this_readGates, .ref a_readOne, .ref a_readOther, .ref a_readNext, .ref a_text, .int i_this_length, .int i_this_paths, .ref a_pathInput, .ref a_pathGates, .ref a_before, .ref a_after, .ref a_values, .ref a_taken, .ref a_waves, .int i_this_acts, .int i_this_turn, .ref a_row, .int i_this_seen, .ref a_seenPair, .ref a_seenTime, .ref a_seenLate, .long i_this_seed, .ref a_isKept, .ref a_kept])), (a_pathInput, .inl (cI, 64, .inl k_pathInput)), (a_pathGates, .inl (cI, 64, .inl k_pathGates)), (a_now, .inl (cI, 32, .inl k_now)), (a_other, .inl (cI, 8, .inl k_other)), (a_one, .inl (cI, 8, .inl k_one)), (a_before, .inl (cI, 12, .inl k_before)), (a_after, .inl (cI, 12, .inl k_after)), (a_values, .inl (cI, 12, .inl k_values)), (a_next, .inl (cI, 4, .inl k_next))] sz [.ref a_this, .int y1, .int y2, .int y3, .int y4] rr [(a_this, .inr (10, [.int i_this_inputs, .int i_this_gates, .ref a_now, .ref a_one, .ref a_other, .ref a_next, .int i_this_readInputs, .int i_this_readGates, .ref a_readOne, .ref a_readOther, .ref a_readNext, .ref a_text, .int i_this_length, .int i_this_paths, .ref a_pathInput, .ref a_pathGates, .ref a_before, .ref a_after, .ref a_values, .ref a_taken, .ref a_waves, .int i_this_acts, .int i_this_turn, .ref a_row, .int i_this_seen, .ref a_seenPair, .ref a_seenTime, .ref a_seenLate, .long i_this_seed, .ref a_isKept, .ref a_kept])), (a_pathInput, .inl (cI, 64, .inl k_pathInput)), (a_pathGates, .inl (cI, 64, .inl k_pathGates)), (a_now, .inl (cI, 32, .inl k_now)), (a_other, .inl (cI, 8, .inl k_other)), (a_one, .inl (cI, 8, .inl k_one)), (a_before, .inl (cI, 12, .inl o_before)), (a_after, .inl (cI, 12, .inl o_after)), (a_values, .inl (cI, 12, .inl o_values)), (a_next, .inl (cI, 4, .inl k_next))] := by
  refine entI (cc := cX10_best) (maxL := 5) (own := RX10) (by decide) rfl rfl (Nat.le_of_ble_eq_true rfl) ?_
  intro p e s m args below meth c A ls Q H locs S hr hw hl hQ
  have hx := S.1.1
  have hb := S.1.2.1
  have hts := S.1.2.2.2.2
  have hl : lv_has ls 5 [(0, .ref a_this), (1, .int y1), (2, .int y2), (3, .int y3), (4, .int y4)] := hl
  have hinX10 : ∀ w ∈ u_ws RX10 TX10 31, w ∈ wsX10_best := (fun _ h => List.mem_cons_of_mem _ (List.mem_append_right _ h))
  have F34 : FLk s args wsX10_best RX10 34 RX10 TX10 31 10 14 := ⟨hinX10, rfl, by decide, hts (.fieldLink RX10 34 "SlowPathsModel" "pathInput" "[I") (List.mem_of_getElem? (i := 2) rfl)⟩
  have F37 : FLk s args wsX10_best RX10 37 RX10 TX10 31 10 15 := ⟨hinX10, rfl, by decide, hts (.fieldLink RX10 37 "SlowPathsModel" "pathGates" "[I") (List.mem_of_getElem? (i := 3) rfl)⟩
  have h := hf
  rw [f_X10_best] at h
  refine lv_aload_n hx hb dX10_best_0 rfl (lv_at hl 0 rfl) ?_
  refine lv_iload_n hx hb dX10_best_1 rfl (lv_at hl 1 rfl) ?_
  obtain ⟨r_1, e2_1, h⟩ := obd1_el h
  refine zr_VI (As := [.int y1]) (rest := []) (q0 := 0) S hw (c_X10_isPath l D cI cJ cZ cS H.size N a_this a_now a_one a_other a_next a_readOne a_readOther a_readNext a_text a_pathInput a_pathGates a_before a_after a_values a_taken a_waves a_row a_seenPair a_seenTime a_seenLate a_isKept a_kept i_this_inputs i_this_gates i_this_readInputs i_this_readGates i_this_length i_this_paths i_this_acts i_this_turn i_this_seen i_this_seed y1 r_1 e2_1) (cwV 1 hts gX10_best_X10_isPath rfl rfl rfl dv_X10_isPath ⟨Nat.le_of_ble_eq_true rfl, Nat.le_of_ble_eq_true rfl⟩) [0] rfl rfl rfl rfl rfl rfl hl.1 rfl (Nat.le_of_ble_eq_true rfl) dX10_best_2 ⟨Nat.zero_le _, Nat.zero_le _⟩ ?_
  refine lv_if_ne (tgt := 10) hx hb dX10_best_5 (by decide) (fun hc => ?_) (fun hc => ?_)
  · replace h := if_f hc h
    refine lv_iload_n hx hb dX10_best_10 rfl (lv_at hl 2 rfl) ?_
    refine lv_i2l hx hb dX10_best_11 rfl ?_
    refine lv_lconst (v := (0 : Int64)) hx hb dX10_best_12 (by decide) ?_
    refine lv_lconst (v := (1 : Int64)) hx hb dX10_best_13 (by decide) ?_
    obtain ⟨r_2, e14_1, h⟩ := obd1_el h
    refine zr_SI (As := [.long (y2.toInt64), .long (0 : Int64), .long (1 : Int64)]) (rest := []) (q0 := 0) (ci := 0) (fs := []) (qc := (RX0, TX0, 4)) S hw (c_X10_in l D cI cJ cZ cS H.size N (y2.toInt64) (0 : Int64) (1 : Int64) r_2 e14_1) (va_cwS 3 hts gX10_best_X10_in rfl rfl rfl ds_X10_in ⟨Nat.le_of_ble_eq_true rfl, Nat.le_of_ble_eq_true rfl⟩) [] rfl rfl rfl hl.1 rfl (Nat.le_of_ble_eq_true rfl) dX10_best_14 ⟨Nat.zero_le _, Nat.zero_le _⟩ ?_
    refine lv_if_eq (tgt := 43) hx hb dX10_best_17 (by decide) (fun hc => ?_) (fun hc => ?_)
    · replace h := if_t hc h
      refine lv_bipush (v := (-2 : Int32)) hx hb dX10_best_43 (by decide) ?_
      cases h
      exact z_iret S hQ hr hw [0, 1, 2, 3, 4, 5, 6, 7, 8, 9] rfl rfl dX10_best_45
    · replace h := if_f hc h
      refine lv_iload_n hx hb dX10_best_20 rfl (lv_at hl 3 rfl) ?_
      refine lv_i2l hx hb dX10_best_21 rfl ?_
      refine lv_lconst (v := (0 : Int64)) hx hb dX10_best_22 (by decide) ?_
      refine lv_ldc2 (v := (2 : Int64)) hx hb S.1.2.2.2.1 (hts (.constantLong RX10 183 (2)) (List.mem_of_getElem? (i := 1) rfl)) dX10_best_23 ?_
      obtain ⟨r_3, e26_1, h⟩ := obd1_el h
      refine zr_SI (As := [.long (y3.toInt64), .long (0 : Int64), .long (2 : Int64)]) (rest := []) (q0 := 0) (ci := 0) (fs := []) (qc := (RX0, TX0, 4)) S hw (c_X10_in l D cI cJ cZ cS H.size N (y3.toInt64) (0 : Int64) (2 : Int64) r_3 e26_1) (va_cwS 3 hts gX10_best_X10_in rfl rfl rfl ds_X10_in ⟨Nat.le_of_ble_eq_true rfl, Nat.le_of_ble_eq_true rfl⟩) [] rfl rfl rfl hl.1 rfl (Nat.le_of_ble_eq_true rfl) dX10_best_26 ⟨Nat.zero_le _, Nat.zero_le _⟩ ?_
      refine lv_if_eq (tgt := 43) hx hb dX10_best_29 (by decide) (fun hc => ?_) (fun hc => ?_)
      · replace h := if_t hc h
        refine lv_bipush (v := (-2 : Int32)) hx hb dX10_best_43 (by decide) ?_
        cases h
        exact z_iret S hQ hr hw [0, 1, 2, 3, 4, 5, 6, 7, 8, 9] rfl rfl dX10_best_45
      · replace h := if_f hc h
        refine lv_iload hx hb dX10_best_32 (lv_at hl 4 rfl) ?_
        refine lv_i2l hx hb dX10_best_34 rfl ?_
        refine lv_lconst (v := (0 : Int64)) hx hb dX10_best_35 (by decide) ?_
        refine lv_lconst (v := (1 : Int64)) hx hb dX10_best_36 (by decide) ?_
        obtain ⟨r_4, e37_1, h⟩ := obd1_el h
        refine zr_SI (As := [.long (y4.toInt64), .long (0 : Int64), .long (1 : Int64)]) (rest := []) (q0 := 0) (ci := 0) (fs := []) (qc := (RX0, TX0, 4)) S hw (c_X10_in l D cI cJ cZ cS H.size N (y4.toInt64) (0 : Int64) (1 : Int64) r_4 e37_1) (va_cwS 3 hts gX10_best_X10_in rfl rfl rfl ds_X10_in ⟨Nat.le_of_ble_eq_true rfl, Nat.le_of_ble_eq_true rfl⟩) [] rfl rfl rfl hl.1 rfl (Nat.le_of_ble_eq_true rfl) dX10_best_37 ⟨Nat.zero_le _, Nat.zero_le _⟩ ?_
        refine lv_if_ne (tgt := 46) hx hb dX10_best_40 (by decide) (fun hc => ?_) (fun hc => ?_)
        · replace h := if_f hc h
          refine lv_aload_n hx hb dX10_best_46 rfl (lv_at hl 0 rfl) ?_
          refine lv_iconst (v := (0 : Int32)) hx hb dX10_best_47 (by decide) ?_
          refine lv_aload_n hx hb dX10_best_48 rfl (lv_at hl 0 rfl) ?_
          refine z_get S hw F34 0 rfl rfl dX10_best_49 ?_
          refine lv_iload_n hx hb dX10_best_52 rfl (lv_at hl 1 rfl) ?_
          obtain ⟨hg, h⟩ := grd_el h
          refine z_iald S hw 1 0 rfl rfl hg dX10_best_53 ?_
          refine lv_aload_n hx hb dX10_best_54 rfl (lv_at hl 0 rfl) ?_
          refine z_get S hw F37 0 rfl rfl dX10_best_55 ?_
          refine lv_iload_n hx hb dX10_best_58 rfl (lv_at hl 1 rfl) ?_
          obtain ⟨hg, h⟩ := grd_el h
          refine z_iald S hw 2 0 rfl rfl hg dX10_best_59 ?_
          refine lv_iload_n hx hb dX10_best_60 rfl (lv_at hl 2 rfl) ?_
          refine lv_iload_n hx hb dX10_best_61 rfl (lv_at hl 3 rfl) ?_
          refine lv_iload hx hb dX10_best_62 (lv_at hl 4 rfl) ?_
          obtain ⟨r_5, k_before_6, k_after_7, k_values_8, e64_1, h⟩ := obd4_el h
          refine zc_VI (As := [.int (0 : Int32), .int (k_pathInput y1.toNatClampNeg), .int (k_pathGates y1.toNatClampNeg), .int y2, .int y3, .int y4]) (rest := []) (wr := [(a_pathInput, .inl (cI, 64, .inl k_pathInput)), (a_pathGates, .inl (cI, 64, .inl k_pathGates))]) (q0 := 0) S hw (c_X10_bestOn l D cI cJ cZ cS H.size N a_this a_now a_other a_one a_before a_after a_values a_next a_readOne a_readOther a_readNext a_text a_pathInput a_pathGates a_taken a_waves a_row a_seenPair a_seenTime a_seenLate a_isKept a_kept i_this_inputs i_this_gates i_this_readInputs i_this_readGates i_this_length i_this_paths i_this_acts i_this_turn i_this_seen i_this_seed k_now k_other k_one k_before k_after k_values k_next (0 : Int32) (k_pathInput y1.toNatClampNeg) (k_pathGates y1.toNatClampNeg) y2 y3 y4 r_5 k_before_6 k_after_7 k_values_8 e64_1) (cwV 6 hts gX10_best_X10_bestOn rfl rfl rfl dv_X10_bestOn ⟨Nat.le_of_ble_eq_true rfl, Nat.le_of_ble_eq_true rfl⟩) [0, 3, 4, 5, 6, 7, 8, 9] [1, 2] rfl rfl rfl rfl (by decide) rfl rfl rfl rfl hl.1 rfl (Nat.le_of_ble_eq_true rfl) dX10_best_64 ⟨Nat.zero_le _, Nat.zero_le _⟩ (fun H locs hw => ?_)
          cases h
          exact z_iret S hQ hr hw [2, 0, 1, 3, 4, 5, 6, 7, 8, 9] rfl rfl dX10_best_67
        · replace h := if_t hc h
          refine lv_bipush (v := (-2 : Int32)) hx hb dX10_best_43 (by decide) ?_
          cases h
          exact z_iret S hQ hr hw [0, 1, 2, 3, 4, 5, 6, 7, 8, 9] rfl rfl dX10_best_45
  · replace h := if_t hc h
    refine lv_iconst (v := (-1 : Int32)) hx hb dX10_best_8 (by decide) ?_
    cases h
    exact z_iret S hQ hr hw [0, 1, 2, 3, 4, 5, 6, 7, 8, 9] rfl rfl dX10_best_9
abbrev rmX10_begins : Room := { frames := 1, cells := 0, slots := 0, locals := 21 }
theorem dv_X10_begins : yX10_begins.cls = RX10 ∧ yX10_begins.cls ≠ "java/lang/invoke/MethodHandle" ∧ yX10_begins.cls ≠ "java/lang/invoke/VarHandle" ∧ (parseMethodDescriptor yX10_begins.desc).map (fun d => d.parameters.length) = some 2 := by decide +kernel
noncomputable def f_X10_begins_L46 (N : Nat) (y1 : Int32) (y2 : Int32) (i_this_paths : Int32) (k_pathInput : (Nat → Int32)) (k_pathGates : (Nat → Int32)) (x3_1 : Int32) (j97_1 : Int32 → Option (Int32)) : Nat → Int32 → Int32 → Option (Int32)
  | 0, _, _ => none
  | n_46 + 1, x4_3, x5_4 =>
    (if i_this_paths ≤ x5_4 then (j97_1 x4_3) else (bnd (fun (t_5 : Int32) => (bnd (x5_4 + (1 : Int32)) fun (x5_6 : Int32) => f_X10_begins_L46 N y1 y2 i_this_paths k_pathInput k_pathGates x3_1 j97_1 n_46 t_5 x5_6)) fun (j89_1 : Int32 → Option (Int32)) => bnd (α := Option (Int32)) (j89_1 ((1 : Int32))) fun (j84_1 : Option (Int32)) => (if x4_3 = (0 : Int32) then (grd (inb x5_4 64) <| bnd (α := Option (Int32)) (j89_1 ((0 : Int32))) fun (j88_1 : Option (Int32)) => (if (k_pathInput x5_4.toNatClampNeg) = y1 then (grd (inb x5_4 64) <| (if ((k_pathGates x5_4.toNatClampNeg) &&& x3_1) = y2 then (j84_1) else (j88_1))) else (j88_1))) else (j84_1))))
noncomputable def f_X10_begins_L5 (N : Nat) (y2 : Int32) (i_this_gates : Int32) (j40_1 : Int32 → Option (Int32)) : Nat → Int32 → Int32 → Option (Int32)
  | 0, _, _ => none
  | n_5 + 1, x3_7, x4_8 =>
    (if i_this_gates ≤ x4_8 then (j40_1 x3_7) else (obd1 (f_X10_has N y2 x4_8) fun (r_9 : Int32) => bnd (fun (t_10 : Int32) => (bnd (x4_8 + (1 : Int32)) fun (x4_11 : Int32) => f_X10_begins_L5 N y2 i_this_gates j40_1 n_5 t_10 x4_11)) fun (j33_1 : Int32 → Option (Int32)) => (if r_9 = (0 : Int32) then (j33_1 x3_7) else (j33_1 ((((2 : Int32) <<< (x4_8 &&& 31)) - (1 : Int32)))))))
noncomputable def f_X10_begins (N : Nat) (y1 : Int32) (y2 : Int32) (i_this_gates : Int32) (i_this_paths : Int32) (k_pathInput : (Nat → Int32)) (k_pathGates : (Nat → Int32)) : Option (Int32) :=
  bnd (fun (x3_1 : Int32) => (bnd (fun (x4_2 : Int32) => (grd (isZ x4_2) (some (x4_2)))) fun (j97_1 : Int32 → Option (Int32)) => f_X10_begins_L46 N y1 y2 i_this_paths k_pathInput k_pathGates x3_1 j97_1 N ((0 : Int32)) ((0 : Int32)))) fun (j40_1 : Int32 → Option (Int32)) => f_X10_begins_L5 N y2 i_this_gates j40_1 N ((0 : Int32)) ((0 : Int32))
set_option maxHeartbeats 4000000 in
set_option maxRecDepth 100000 in
theorem c_X10_begins (l : Launch) (D : va_G) (cI cJ cZ cS : ClassId) (sz N : Nat) (a_this a_pathInput a_pathGates a_now a_one a_other a_next a_readOne a_readOther a_readNext a_text a_before a_after a_values a_taken a_waves a_row a_seenPair a_seenTime a_seenLate a_isKept a_kept : Nat) (i_this_inputs : Int32) (i_this_gates : Int32) (i_this_readInputs : Int32) (i_this_readGates : Int32) (i_this_length : Int32) (i_this_paths : Int32) (i_this_acts : Int32) (i_this_turn : Int32) (i_this_seen : Int32) (i_this_seed : Int64) (k_pathInput : (Nat → Int32)) (k_pathGates : (Nat → Int32)) (y1 : Int32) (y2 : Int32) (rr : Int32) (hf : f_X10_begins N y1 y2 i_this_gates i_this_paths k_pathInput k_pathGates = some (rr)) : MetIr l yX10_begins wsX10_begins rmX10_begins D (tyA cI cJ cZ cS) [(a_this, .inr (10, [.int i_this_inputs, .int i_this_gates, .ref a_now, .ref a_one, .ref a_other, .ref a_next, .int i_this_readInputs, .int i_this_readGates, .ref a_readOne, .ref a_readOther, .ref a_readNext, .ref a_text, .int i_this_length, .int i_this_paths, .ref a_pathInput, .ref a_pathGates, .ref a_before, .ref a_after, .ref a_values, .ref a_taken, .ref a_waves, .int i_this_acts, .int i_this_turn, .ref a_row, .int i_this_seen, .ref a_seenPair, .ref a_seenTime, .ref a_seenLate, .long i_this_seed, .ref a_isKept, .ref a_kept])), (a_pathInput, .inl (cI, 64, .inl k_pathInput)), (a_pathGates, .inl (cI, 64, .inl k_pathGates))] sz [.ref a_this, .int y1, .int y2] rr := by
  refine entZr (cc := cX10_begins) (maxL := 6) (own := RX10) (by decide) rfl rfl (Nat.le_of_ble_eq_true rfl) ?_
  intro p e s m args below meth c A ls Q S hr hw hl hQ
  have hx := S.1.1
  have hb := S.1.2.1
  have hts := S.1.2.2.2.2
  have hl : lv_has ls 6 [(0, .ref a_this), (1, .int y1), (2, .int y2)] := hl
  have hinX10 : ∀ w ∈ u_ws RX10 TX10 31, w ∈ wsX10_begins := (fun _ h => List.mem_cons_of_mem _ (List.mem_append_right _ h))
  have F34 : FLk s args wsX10_begins RX10 34 RX10 TX10 31 10 14 := ⟨hinX10, rfl, by decide, hts (.fieldLink RX10 34 "SlowPathsModel" "pathInput" "[I") (List.mem_of_getElem? (i := 3) rfl)⟩
  have F37 : FLk s args wsX10_begins RX10 37 RX10 TX10 31 10 15 := ⟨hinX10, rfl, by decide, hts (.fieldLink RX10 37 "SlowPathsModel" "pathGates" "[I") (List.mem_of_getElem? (i := 4) rfl)⟩
  have F115 : FLk s args wsX10_begins RX10 115 RX10 TX10 31 10 1 := ⟨hinX10, rfl, by decide, hts (.fieldLink RX10 115 "SlowPathsModel" "gates" "I") (List.mem_of_getElem? (i := 1) rfl)⟩
  have F124 : FLk s args wsX10_begins RX10 124 RX10 TX10 31 10 13 := ⟨hinX10, rfl, by decide, hts (.fieldLink RX10 124 "SlowPathsModel" "paths" "I") (List.mem_of_getElem? (i := 2) rfl)⟩
  have h := hf
  rw [f_X10_begins] at h
  refine lv_iconst (v := (0 : Int32)) hx hb dX10_begins_0 (by decide) ?_
  refine lv_istore_n (lv' := [(3, .int (0 : Int32)), (0, .ref a_this), (1, .int y1), (2, .int y2)]) hx hb dX10_begins_1 rfl hl (by decide) rfl (fun ls hl => ?_)
  refine lv_iconst (v := (0 : Int32)) hx hb dX10_begins_2 (by decide) ?_
  refine lv_istore (lv' := [(4, .int (0 : Int32)), (3, .int (0 : Int32)), (0, .ref a_this), (1, .int y1), (2, .int y2)]) hx hb dX10_begins_3 hl (by decide) rfl (fun ls hl => ?_)
  obtain ⟨j40_1, ej40_1, h⟩ := bnd_ex h
  have hj40_1 : ∀ (x3_1 : Int32) (ls : Array Slot), j40_1 x3_1 = some (rr) → lv_has ls 6 [(0, .ref a_this), (1, .int y1), (2, .int y2), (3, .int x3_1)] → W p l e rmX10_begins s m args below meth c s.heap [] 0 0 Q (F0 m 40 ls []) := by
    intro x3_1 ls h hl
    replace h := ap1 ej40_1 h
    refine lv_iconst (v := (0 : Int32)) hx hb dX10_begins_40 (by decide) ?_
    refine lv_istore (lv' := [(4, .int (0 : Int32)), (0, .ref a_this), (1, .int y1), (2, .int y2), (3, .int x3_1)]) hx hb dX10_begins_41 hl (by decide) rfl (fun ls hl => ?_)
    refine lv_iconst (v := (0 : Int32)) hx hb dX10_begins_43 (by decide) ?_
    refine lv_istore (lv' := [(5, .int (0 : Int32)), (4, .int (0 : Int32)), (0, .ref a_this), (1, .int y1), (2, .int y2), (3, .int x3_1)]) hx hb dX10_begins_44 hl (by decide) rfl (fun ls hl => ?_)
    obtain ⟨j97_1, ej97_1, h⟩ := bnd_ex h
    have hj97_1 : ∀ (x4_2 : Int32) (ls : Array Slot), j97_1 x4_2 = some (rr) → lv_has ls 6 [(4, .int x4_2)] → W p l e rmX10_begins s m args below meth c s.heap [] 0 0 Q (F0 m 97 ls []) := by
      intro x4_2 ls h hl
      replace h := ap1 ej97_1 h
      refine lv_iload hx hb dX10_begins_97 (lv_at hl 0 rfl) ?_
      obtain ⟨hz, h⟩ := grd_el h
      cases h
      exact z_zretr S hQ hr (isZ_narrow hz) dX10_begins_99
    have hL46_1 : ∀ (nf : Nat) (x4_3 : Int32) (x5_4 : Int32) (ls : Array Slot), f_X10_begins_L46 N y1 y2 i_this_paths k_pathInput k_pathGates x3_1 j97_1 nf x4_3 x5_4 = some (rr) → lv_has ls 6 [(0, .ref a_this), (1, .int y1), (2, .int y2), (3, .int x3_1), (4, .int x4_3), (5, .int x5_4)] → W p l e rmX10_begins s m args below meth c s.heap [] 0 0 Q (F0 m 46 ls []) := by
      intro nf
      induction nf with
      | zero =>
        intro x4_3 x5_4 ls h
        rw [f_X10_begins_L46] at h
        cases h
      | succ n_46 ih_46 =>
        intro x4_3 x5_4 ls h hl
        rw [f_X10_begins_L46] at h
        refine lv_iload hx hb dX10_begins_46 (lv_at hl 5 rfl) ?_
        refine lv_aload_n hx hb dX10_begins_48 rfl (lv_at hl 0 rfl) ?_
        refine z_get S hw F124 0 rfl rfl dX10_begins_49 ?_
        refine lv_icmp_ge (tgt := 97) hx hb dX10_begins_52 (by decide) (fun hc => ?_) (fun hc => ?_)
        · replace h := if_t hc h
          exact hj97_1 x4_3 ls h (lv_sub hl [4] rfl)
        · replace h := if_f hc h
          refine lv_iload hx hb dX10_begins_55 (lv_at hl 4 rfl) ?_
          obtain ⟨j89_1, ej89_1, h⟩ := bnd_ex h
          have hj89_1 : ∀ (t_5 : Int32) (ls : Array Slot), j89_1 t_5 = some (rr) → lv_has ls 6 [(0, .ref a_this), (1, .int y1), (2, .int y2), (3, .int x3_1), (5, .int x5_4)] → W p l e rmX10_begins s m args below meth c s.heap [] 0 0 Q (F0 m 89 ls [.int t_5]) := by
            intro t_5 ls h hl
            replace h := ap1 ej89_1 h
            refine lv_istore (lv' := [(4, .int t_5), (0, .ref a_this), (1, .int y1), (2, .int y2), (3, .int x3_1), (5, .int x5_4)]) hx hb dX10_begins_89 hl (by decide) rfl (fun ls hl => ?_)
            obtain ⟨x5_6, ex5_6, h⟩ := bnd_ex h
            refine lv_iinc (v := x5_6) (lv' := [(5, .int x5_6), (4, .int t_5), (0, .ref a_this), (1, .int y1), (2, .int y2), (3, .int x3_1)]) hx hb dX10_begins_91 hl (k := 5) rfl (by rw [ex5_6]; rfl) (by decide) rfl (fun ls hl => ?_)
            refine lv_goto (tgt := 46) hx hb dX10_begins_94 (by decide) ?_
            exact ih_46 t_5 x5_6 ls h (lv_sub hl [2, 3, 4, 5, 1, 0] rfl)
          obtain ⟨j84_1, ej84_1, h⟩ := bnd_ex h
          have hj84_1 : ∀ (ls : Array Slot), j84_1 = some (rr) → lv_has ls 6 [(0, .ref a_this), (1, .int y1), (2, .int y2), (3, .int x3_1), (5, .int x5_4)] → W p l e rmX10_begins s m args below meth c s.heap [] 0 0 Q (F0 m 84 ls []) := by
            intro ls h hl
            replace h := ap0 ej84_1 h
            refine lv_iconst (v := (1 : Int32)) hx hb dX10_begins_84 (by decide) ?_
            refine lv_goto (tgt := 89) hx hb dX10_begins_85 (by decide) ?_
            exact hj89_1 ((1 : Int32)) ls h hl
          refine lv_if_ne (tgt := 84) hx hb dX10_begins_57 (by decide) (fun hc => ?_) (fun hc => ?_)
          · replace h := if_f hc h
            exact hj84_1  ls h (lv_sub hl [0, 1, 2, 3, 5] rfl)
          · replace h := if_t hc h
            refine lv_aload_n hx hb dX10_begins_60 rfl (lv_at hl 0 rfl) ?_
            refine z_get S hw F34 0 rfl rfl dX10_begins_61 ?_
            refine lv_iload hx hb dX10_begins_64 (lv_at hl 5 rfl) ?_
            obtain ⟨hg, h⟩ := grd_el h
            refine z_iald S hw 1 0 rfl rfl hg dX10_begins_66 ?_
            refine lv_iload_n hx hb dX10_begins_67 rfl (lv_at hl 1 rfl) ?_
            obtain ⟨j88_1, ej88_1, h⟩ := bnd_ex h
            have hj88_1 : ∀ (ls : Array Slot), j88_1 = some (rr) → lv_has ls 6 [(0, .ref a_this), (1, .int y1), (2, .int y2), (3, .int x3_1), (5, .int x5_4)] → W p l e rmX10_begins s m args below meth c s.heap [] 0 0 Q (F0 m 88 ls []) := by
              intro ls h hl
              replace h := ap0 ej88_1 h
              refine lv_iconst (v := (0 : Int32)) hx hb dX10_begins_88 (by decide) ?_
              exact hj89_1 ((0 : Int32)) ls h hl
            refine lv_icmp_ne (tgt := 88) hx hb dX10_begins_68 (by decide) (fun hc => ?_) (fun hc => ?_)
            · replace h := if_f hc h
              exact hj88_1  ls h (lv_sub hl [0, 1, 2, 3, 5] rfl)
            · replace h := if_t hc h
              refine lv_aload_n hx hb dX10_begins_71 rfl (lv_at hl 0 rfl) ?_
              refine z_get S hw F37 0 rfl rfl dX10_begins_72 ?_
              refine lv_iload hx hb dX10_begins_75 (lv_at hl 5 rfl) ?_
              obtain ⟨hg, h⟩ := grd_el h
              refine z_iald S hw 2 0 rfl rfl hg dX10_begins_77 ?_
              refine lv_iload_n hx hb dX10_begins_78 rfl (lv_at hl 3 rfl) ?_
              refine lv_iand hx hb dX10_begins_79 ?_
              refine lv_iload_n hx hb dX10_begins_80 rfl (lv_at hl 2 rfl) ?_
              refine lv_icmp_ne (tgt := 88) hx hb dX10_begins_81 (by decide) (fun hc => ?_) (fun hc => ?_)
              · replace h := if_f hc h
                exact hj88_1  ls h (lv_sub hl [0, 1, 2, 3, 5] rfl)
              · replace h := if_t hc h
                exact hj84_1  ls h (lv_sub hl [0, 1, 2, 3, 5] rfl)
    exact hL46_1 N ((0 : Int32)) ((0 : Int32)) ls h (lv_sub hl [2, 3, 4, 5, 1, 0] rfl)
  have hL5_1 : ∀ (nf : Nat) (x3_7 : Int32) (x4_8 : Int32) (ls : Array Slot), f_X10_begins_L5 N y2 i_this_gates j40_1 nf x3_7 x4_8 = some (rr) → lv_has ls 6 [(0, .ref a_this), (1, .int y1), (2, .int y2), (3, .int x3_7), (4, .int x4_8)] → W p l e rmX10_begins s m args below meth c s.heap [] 0 0 Q (F0 m 5 ls []) := by
    intro nf
    induction nf with
    | zero =>
      intro x3_7 x4_8 ls h
      rw [f_X10_begins_L5] at h
      cases h
    | succ n_5 ih_5 =>
      intro x3_7 x4_8 ls h hl
      rw [f_X10_begins_L5] at h
      refine lv_iload hx hb dX10_begins_5 (lv_at hl 4 rfl) ?_
      refine lv_aload_n hx hb dX10_begins_7 rfl (lv_at hl 0 rfl) ?_
      refine z_get S hw F115 0 rfl rfl dX10_begins_8 ?_
      refine lv_icmp_ge (tgt := 40) hx hb dX10_begins_11 (by decide) (fun hc => ?_) (fun hc => ?_)
      · replace h := if_t hc h
        exact hj40_1 x3_7 ls h (lv_sub hl [0, 1, 2, 3] rfl)
      · replace h := if_f hc h
        refine lv_iload_n hx hb dX10_begins_14 rfl (lv_at hl 2 rfl) ?_
        refine lv_iload hx hb dX10_begins_15 (lv_at hl 4 rfl) ?_
        obtain ⟨r_9, e17_1, h⟩ := obd1_el h
        refine zr_SI (As := [.int y2, .int x4_8]) (rest := []) (q0 := 0) (ci := 0) (fs := []) (qc := (RX0, TX0, 4)) S hw (c_X10_has l D cI cJ cZ cS s.heap.size N y2 x4_8 r_9 e17_1) (va_cwS 2 hts gX10_begins_X10_has rfl rfl rfl ds_X10_has ⟨Nat.le_of_ble_eq_true rfl, Nat.le_of_ble_eq_true rfl⟩) [] rfl rfl rfl hl.1 rfl (Nat.le_of_ble_eq_true rfl) dX10_begins_17 ⟨Nat.zero_le _, Nat.zero_le _⟩ ?_
        obtain ⟨j33_1, ej33_1, h⟩ := bnd_ex h
        have hj33_1 : ∀ (t_10 : Int32) (ls : Array Slot), j33_1 t_10 = some (rr) → lv_has ls 6 [(0, .ref a_this), (1, .int y1), (2, .int y2), (4, .int x4_8)] → W p l e rmX10_begins s m args below meth c s.heap [] 0 0 Q (F0 m 33 ls [.int t_10]) := by
          intro t_10 ls h hl
          replace h := ap1 ej33_1 h
          refine lv_istore_n (lv' := [(3, .int t_10), (0, .ref a_this), (1, .int y1), (2, .int y2), (4, .int x4_8)]) hx hb dX10_begins_33 rfl hl (by decide) rfl (fun ls hl => ?_)
          obtain ⟨x4_11, ex4_11, h⟩ := bnd_ex h
          refine lv_iinc (v := x4_11) (lv' := [(4, .int x4_11), (3, .int t_10), (0, .ref a_this), (1, .int y1), (2, .int y2)]) hx hb dX10_begins_34 hl (k := 4) rfl (by rw [ex4_11]; rfl) (by decide) rfl (fun ls hl => ?_)
          refine lv_goto (tgt := 5) hx hb dX10_begins_37 (by decide) ?_
          exact ih_5 t_10 x4_11 ls h (lv_sub hl [2, 3, 4, 1, 0] rfl)
        refine lv_if_eq (tgt := 32) hx hb dX10_begins_20 (by decide) (fun hc => ?_) (fun hc => ?_)
        · replace h := if_t hc h
          refine lv_iload_n hx hb dX10_begins_32 rfl (lv_at hl 3 rfl) ?_
          exact hj33_1 x3_7 ls h (lv_sub hl [0, 1, 2, 4] rfl)
        · replace h := if_f hc h
          refine lv_iconst (v := (2 : Int32)) hx hb dX10_begins_23 (by decide) ?_
          refine lv_iload hx hb dX10_begins_24 (lv_at hl 4 rfl) ?_
          refine lv_ishl hx hb dX10_begins_26 ?_
          refine lv_iconst (v := (1 : Int32)) hx hb dX10_begins_27 (by decide) ?_
          refine lv_isub hx hb dX10_begins_28 ?_
          refine lv_goto (tgt := 33) hx hb dX10_begins_29 (by decide) ?_
          exact hj33_1 ((((2 : Int32) <<< (x4_8 &&& 31)) - (1 : Int32))) ls h (lv_sub hl [0, 1, 2, 4] rfl)
  exact hL5_1 N ((0 : Int32)) ((0 : Int32)) ls h (lv_sub hl [2, 3, 4, 1, 0] rfl)
abbrev rmX10_shorter : Room := { frames := 1, cells := 0, slots := 0, locals := 21 }
theorem ds_X10_shorter : yX10_shorter.cls ≠ "java/lang/invoke/MethodHandle" ∧ yX10_shorter.cls ≠ "java/lang/invoke/VarHandle" ∧ (parseMethodDescriptor yX10_shorter.desc).map (fun d => d.parameters.length) = some 1 := by decide +kernel
noncomputable def f_X10_shorter_L4 (N : Nat) (y0 : Int32) (j32_1 : Int32 → Option (Int32)) : Nat → Int32 → Int32 → Option (Int32)
  | 0, _, _ => none
  | n_4 + 1, x1_2, x2_3 =>
    (if (8 : Int32) ≤ x2_3 then (j32_1 x1_2) else (obd1 (f_X10_has N y0 x2_3) fun (r_4 : Int32) => bnd (fun (t_5 : Int32) => (bnd (x2_3 + (1 : Int32)) fun (x2_6 : Int32) => f_X10_shorter_L4 N y0 j32_1 n_4 t_5 x2_6)) fun (j25_1 : Int32 → Option (Int32)) => (if r_4 = (0 : Int32) then (j25_1 x1_2) else (j25_1 (((1 : Int32) <<< (x2_3 &&& 31)))))))
noncomputable def f_X10_shorter (N : Nat) (y0 : Int32)  : Option (Int32) :=
  bnd (fun (x1_1 : Int32) => (some ((y0 &&& (x1_1 ^^^ (-1 : Int32)))))) fun (j32_1 : Int32 → Option (Int32)) => f_X10_shorter_L4 N y0 j32_1 N ((0 : Int32)) ((0 : Int32))
set_option maxHeartbeats 4000000 in
set_option maxRecDepth 100000 in
theorem c_X10_shorter (l : Launch) (D : va_G) (cI cJ cZ cS : ClassId) (sz N : Nat)   (y0 : Int32) (rr : Int32) (hf : f_X10_shorter N y0 = some (rr)) : MetIr l yX10_shorter wsX10_shorter rmX10_shorter D (tyA cI cJ cZ cS) [] sz [.int y0] rr := by
  refine entIr (cc := cX10_shorter) (maxL := 3) (own := RX10) (by decide) rfl rfl (Nat.le_of_ble_eq_true rfl) ?_
  intro p e s m args below meth c A ls Q S hr hw hl hQ
  have hx := S.1.1
  have hb := S.1.2.1
  have hts := S.1.2.2.2.2
  have hl : lv_has ls 3 [(0, .int y0)] := hl
  have h := hf
  rw [f_X10_shorter] at h
  refine lv_iconst (v := (0 : Int32)) hx hb dX10_shorter_0 (by decide) ?_
  refine lv_istore_n (lv' := [(1, .int (0 : Int32)), (0, .int y0)]) hx hb dX10_shorter_1 rfl hl (by decide) rfl (fun ls hl => ?_)
  refine lv_iconst (v := (0 : Int32)) hx hb dX10_shorter_2 (by decide) ?_
  refine lv_istore_n (lv' := [(2, .int (0 : Int32)), (1, .int (0 : Int32)), (0, .int y0)]) hx hb dX10_shorter_3 rfl hl (by decide) rfl (fun ls hl => ?_)
  obtain ⟨j32_1, ej32_1, h⟩ := bnd_ex h
  have hj32_1 : ∀ (x1_1 : Int32) (ls : Array Slot), j32_1 x1_1 = some (rr) → lv_has ls 3 [(0, .int y0), (1, .int x1_1)] → W p l e rmX10_shorter s m args below meth c s.heap [] 0 0 Q (F0 m 32 ls []) := by
    intro x1_1 ls h hl
    replace h := ap1 ej32_1 h
    refine lv_iload_n hx hb dX10_shorter_32 rfl (lv_at hl 0 rfl) ?_
    refine lv_iload_n hx hb dX10_shorter_33 rfl (lv_at hl 1 rfl) ?_
    refine lv_iconst (v := (-1 : Int32)) hx hb dX10_shorter_34 (by decide) ?_
    refine lv_ixor hx hb dX10_shorter_35 ?_
    refine lv_iand hx hb dX10_shorter_36 ?_
    cases h
    exact z_iretr S hQ hr dX10_shorter_37
  have hL4_1 : ∀ (nf : Nat) (x1_2 : Int32) (x2_3 : Int32) (ls : Array Slot), f_X10_shorter_L4 N y0 j32_1 nf x1_2 x2_3 = some (rr) → lv_has ls 3 [(0, .int y0), (1, .int x1_2), (2, .int x2_3)] → W p l e rmX10_shorter s m args below meth c s.heap [] 0 0 Q (F0 m 4 ls []) := by
    intro nf
    induction nf with
    | zero =>
      intro x1_2 x2_3 ls h
      rw [f_X10_shorter_L4] at h
      cases h
    | succ n_4 ih_4 =>
      intro x1_2 x2_3 ls h hl
      rw [f_X10_shorter_L4] at h
      refine lv_iload_n hx hb dX10_shorter_4 rfl (lv_at hl 2 rfl) ?_
      refine lv_bipush (v := (8 : Int32)) hx hb dX10_shorter_5 (by decide) ?_
      refine lv_icmp_ge (tgt := 32) hx hb dX10_shorter_7 (by decide) (fun hc => ?_) (fun hc => ?_)
      · replace h := if_t hc h
        exact hj32_1 x1_2 ls h (lv_sub hl [0, 1] rfl)
      · replace h := if_f hc h
        refine lv_iload_n hx hb dX10_shorter_10 rfl (lv_at hl 0 rfl) ?_
        refine lv_iload_n hx hb dX10_shorter_11 rfl (lv_at hl 2 rfl) ?_
        obtain ⟨r_4, e12_1, h⟩ := obd1_el h
        refine zr_SI (As := [.int y0, .int x2_3]) (rest := []) (q0 := 0) (ci := 0) (fs := []) (qc := (RX0, TX0, 4)) S hw (c_X10_has l D cI cJ cZ cS s.heap.size N y0 x2_3 r_4 e12_1) (va_cwS 2 hts gX10_shorter_X10_has rfl rfl rfl ds_X10_has ⟨Nat.le_of_ble_eq_true rfl, Nat.le_of_ble_eq_true rfl⟩) [] rfl rfl rfl hl.1 rfl (Nat.le_of_ble_eq_true rfl) dX10_shorter_12 ⟨Nat.zero_le _, Nat.zero_le _⟩ ?_
        obtain ⟨j25_1, ej25_1, h⟩ := bnd_ex h
        have hj25_1 : ∀ (t_5 : Int32) (ls : Array Slot), j25_1 t_5 = some (rr) → lv_has ls 3 [(0, .int y0), (2, .int x2_3)] → W p l e rmX10_shorter s m args below meth c s.heap [] 0 0 Q (F0 m 25 ls [.int t_5]) := by
          intro t_5 ls h hl
          replace h := ap1 ej25_1 h
          refine lv_istore_n (lv' := [(1, .int t_5), (0, .int y0), (2, .int x2_3)]) hx hb dX10_shorter_25 rfl hl (by decide) rfl (fun ls hl => ?_)
          obtain ⟨x2_6, ex2_6, h⟩ := bnd_ex h
          refine lv_iinc (v := x2_6) (lv' := [(2, .int x2_6), (1, .int t_5), (0, .int y0)]) hx hb dX10_shorter_26 hl (k := 2) rfl (by rw [ex2_6]; rfl) (by decide) rfl (fun ls hl => ?_)
          refine lv_goto (tgt := 4) hx hb dX10_shorter_29 (by decide) ?_
          exact ih_4 t_5 x2_6 ls h (lv_sub hl [2, 1, 0] rfl)
        refine lv_if_eq (tgt := 24) hx hb dX10_shorter_15 (by decide) (fun hc => ?_) (fun hc => ?_)
        · replace h := if_t hc h
          refine lv_iload_n hx hb dX10_shorter_24 rfl (lv_at hl 1 rfl) ?_
          exact hj25_1 x1_2 ls h (lv_sub hl [0, 2] rfl)
        · replace h := if_f hc h
          refine lv_iconst (v := (1 : Int32)) hx hb dX10_shorter_18 (by decide) ?_
          refine lv_iload_n hx hb dX10_shorter_19 rfl (lv_at hl 2 rfl) ?_
          refine lv_ishl hx hb dX10_shorter_20 ?_
          refine lv_goto (tgt := 25) hx hb dX10_shorter_21 (by decide) ?_
          exact hj25_1 (((1 : Int32) <<< (x2_3 &&& 31))) ls h (lv_sub hl [0, 2] rfl)
  exact hL4_1 N ((0 : Int32)) ((0 : Int32)) ls h (lv_sub hl [2, 1, 0] rfl)
abbrev rmX10_prunedOn : Room := { frames := 4, cells := 0, slots := 0, locals := 98 }
theorem dv_X10_prunedOn : yX10_prunedOn.cls = RX10 ∧ yX10_prunedOn.cls ≠ "java/lang/invoke/MethodHandle" ∧ yX10_prunedOn.cls ≠ "java/lang/invoke/VarHandle" ∧ (parseMethodDescriptor yX10_prunedOn.desc).map (fun d => d.parameters.length) = some 1 := by decide +kernel
noncomputable def f_X10_prunedOn_L29 (N : Nat) (y1 : Int32) (i_this_inputs : Int32) (i_this_gates : Int32) (i_this_paths : Int32) (k_pathInput : (Nat → Int32)) (k_pathGates : (Nat → Int32)) (k_now : (Nat → Int32)) (k_other : (Nat → Int32)) (k_one : (Nat → Int32)) (k_next : (Nat → Int32)) (x3_6 : Int32) (x4_16 : Int32) (j104_1 : Int32 → (Nat → Int32) → (Nat → Int32) → (Nat → Int32) → Option (Int32 × (Nat → Int32) × (Nat → Int32) × (Nat → Int32))) : Nat → Int32 → Int32 → (Nat → Int32) → (Nat → Int32) → (Nat → Int32) → Option (Int32 × (Nat → Int32) × (Nat → Int32) × (Nat → Int32))
  | 0, _, _, _, _, _ => none
  | n_29 + 1, x2_25, x5_26, k_before_27, k_after_28, k_values_29 =>
    (if (2 : Int32) ≤ x5_26 then (j104_1 x2_25 k_before_27 k_after_28 k_values_29) else (obd1 (f_X10_begins N x3_6 x4_16 i_this_gates i_this_paths k_pathInput k_pathGates) fun (r_30 : Int32) => (if r_30 = (0 : Int32) then (j104_1 x2_25 k_before_27 k_after_28 k_values_29) else (obd4 (f_X10_bestOn N y1 x3_6 x4_16 x5_26 (0 : Int32) (1 : Int32) i_this_inputs i_this_gates k_now k_other k_one k_before_27 k_after_28 k_values_29 k_next) fun (r_31 : Int32) (k_before_32 : (Nat → Int32)) (k_after_33 : (Nat → Int32)) (k_values_34 : (Nat → Int32)) => bnd (fun (t_35 : Int32) => (bnd (fun (t_36 : Int32) (t_37 : Int32) (k_before_38 : (Nat → Int32)) (k_after_39 : (Nat → Int32)) (k_values_40 : (Nat → Int32)) => (bnd ((t_37 + t_36)) fun (x2_41 : Int32) => bnd (x5_26 + (1 : Int32)) fun (x5_42 : Int32) => f_X10_prunedOn_L29 N y1 i_this_inputs i_this_gates i_this_paths k_pathInput k_pathGates k_now k_other k_one k_next x3_6 x4_16 j104_1 n_29 x2_41 x5_42 k_before_38 k_after_39 k_values_40)) fun (j96_1 : Int32 → Int32 → (Nat → Int32) → (Nat → Int32) → (Nat → Int32) → Option (Int32 × (Nat → Int32) × (Nat → Int32) × (Nat → Int32))) => bnd (fun (t_43 : Int32) (k_before_44 : (Nat → Int32)) (k_after_45 : (Nat → Int32)) (k_values_46 : (Nat → Int32)) => (j96_1 ((0 : Int32)) t_43 k_before_44 k_after_45 k_values_46)) fun (j95_1 : Int32 → (Nat → Int32) → (Nat → Int32) → (Nat → Int32) → Option (Int32 × (Nat → Int32) × (Nat → Int32) × (Nat → Int32))) => (if t_35 = (0 : Int32) then (j95_1 x2_25 k_before_32 k_after_33 k_values_34) else (obd1 (f_X10_shorter N x4_16) fun (r_47 : Int32) => obd4 (f_X10_bestOn N y1 x3_6 r_47 x5_26 (0 : Int32) (1 : Int32) i_this_inputs i_this_gates k_now k_other k_one k_before_32 k_after_33 k_values_34 k_next) fun (r_48 : Int32) (k_before_49 : (Nat → Int32)) (k_after_50 : (Nat → Int32)) (k_values_51 : (Nat → Int32)) => (if r_48 ≤ (0 : Int32) then (j95_1 x2_25 k_before_49 k_after_50 k_values_51) else (j96_1 ((1 : Int32)) x2_25 k_before_49 k_after_50 k_values_51)))))) fun (j65_1 : Int32 → Option (Int32 × (Nat → Int32) × (Nat → Int32) × (Nat → Int32))) => (if r_31 = (0 : Int32) then (j65_1 ((1 : Int32))) else (j65_1 ((0 : Int32))))))))
noncomputable def f_X10_prunedOn_L15 (N : Nat) (y1 : Int32) (i_this_inputs : Int32) (i_this_gates : Int32) (i_this_paths : Int32) (k_pathInput : (Nat → Int32)) (k_pathGates : (Nat → Int32)) (k_now : (Nat → Int32)) (k_other : (Nat → Int32)) (k_one : (Nat → Int32)) (k_next : (Nat → Int32)) (x3_6 : Int32) (j110_1 : Int32 → (Nat → Int32) → (Nat → Int32) → (Nat → Int32) → Option (Int32 × (Nat → Int32) × (Nat → Int32) × (Nat → Int32))) : Nat → Int32 → Int32 → (Nat → Int32) → (Nat → Int32) → (Nat → Int32) → Option (Int32 × (Nat → Int32) × (Nat → Int32) × (Nat → Int32))
  | 0, _, _, _, _, _ => none
  | n_15 + 1, x2_15, x4_16, k_before_17, k_after_18, k_values_19 =>
    (if ((1 : Int32) <<< (i_this_gates &&& 31)) ≤ x4_16 then (j110_1 x2_15 k_before_17 k_after_18 k_values_19) else (bnd (fun (x2_20 : Int32) (k_before_21 : (Nat → Int32)) (k_after_22 : (Nat → Int32)) (k_values_23 : (Nat → Int32)) => (bnd (x4_16 + (1 : Int32)) fun (x4_24 : Int32) => f_X10_prunedOn_L15 N y1 i_this_inputs i_this_gates i_this_paths k_pathInput k_pathGates k_now k_other k_one k_next x3_6 j110_1 n_15 x2_20 x4_24 k_before_21 k_after_22 k_values_23)) fun (j104_1 : Int32 → (Nat → Int32) → (Nat → Int32) → (Nat → Int32) → Option (Int32 × (Nat → Int32) × (Nat → Int32) × (Nat → Int32))) => f_X10_prunedOn_L29 N y1 i_this_inputs i_this_gates i_this_paths k_pathInput k_pathGates k_now k_other k_one k_next x3_6 x4_16 j104_1 N x2_15 ((0 : Int32)) k_before_17 k_after_18 k_values_19))
noncomputable def f_X10_prunedOn_L4 (N : Nat) (y1 : Int32) (i_this_inputs : Int32) (i_this_gates : Int32) (i_this_paths : Int32) (k_pathInput : (Nat → Int32)) (k_pathGates : (Nat → Int32)) (k_now : (Nat → Int32)) (k_other : (Nat → Int32)) (k_one : (Nat → Int32)) (k_next : (Nat → Int32)) (j116_1 : Int32 → (Nat → Int32) → (Nat → Int32) → (Nat → Int32) → Option (Int32 × (Nat → Int32) × (Nat → Int32) × (Nat → Int32))) : Nat → Int32 → Int32 → (Nat → Int32) → (Nat → Int32) → (Nat → Int32) → Option (Int32 × (Nat → Int32) × (Nat → Int32) × (Nat → Int32))
  | 0, _, _, _, _, _ => none
  | n_4 + 1, x2_5, x3_6, k_before_7, k_after_8, k_values_9 =>
    (if i_this_inputs ≤ x3_6 then (j116_1 x2_5 k_before_7 k_after_8 k_values_9) else (bnd (fun (x2_10 : Int32) (k_before_11 : (Nat → Int32)) (k_after_12 : (Nat → Int32)) (k_values_13 : (Nat → Int32)) => (bnd (x3_6 + (1 : Int32)) fun (x3_14 : Int32) => f_X10_prunedOn_L4 N y1 i_this_inputs i_this_gates i_this_paths k_pathInput k_pathGates k_now k_other k_one k_next j116_1 n_4 x2_10 x3_14 k_before_11 k_after_12 k_values_13)) fun (j110_1 : Int32 → (Nat → Int32) → (Nat → Int32) → (Nat → Int32) → Option (Int32 × (Nat → Int32) × (Nat → Int32) × (Nat → Int32))) => f_X10_prunedOn_L15 N y1 i_this_inputs i_this_gates i_this_paths k_pathInput k_pathGates k_now k_other k_one k_next x3_6 j110_1 N x2_5 ((1 : Int32)) k_before_7 k_after_8 k_values_9))
noncomputable def f_X10_prunedOn (N : Nat) (y1 : Int32) (i_this_inputs : Int32) (i_this_gates : Int32) (i_this_paths : Int32) (k_pathInput : (Nat → Int32)) (k_pathGates : (Nat → Int32)) (k_now : (Nat → Int32)) (k_other : (Nat → Int32)) (k_one : (Nat → Int32)) (k_before : (Nat → Int32)) (k_after : (Nat → Int32)) (k_values : (Nat → Int32)) (k_next : (Nat → Int32)) : Option (Int32 × (Nat → Int32) × (Nat → Int32) × (Nat → Int32)) :=
  bnd (fun (x2_1 : Int32) (k_before_2 : (Nat → Int32)) (k_after_3 : (Nat → Int32)) (k_values_4 : (Nat → Int32)) => (some (x2_1, k_before_2, k_after_3, k_values_4))) fun (j116_1 : Int32 → (Nat → Int32) → (Nat → Int32) → (Nat → Int32) → Option (Int32 × (Nat → Int32) × (Nat → Int32) × (Nat → Int32))) => f_X10_prunedOn_L4 N y1 i_this_inputs i_this_gates i_this_paths k_pathInput k_pathGates k_now k_other k_one k_next j116_1 N ((0 : Int32)) ((0 : Int32)) k_before k_after k_values
set_option maxHeartbeats 4000000 in
set_option maxRecDepth 100000 in
theorem c_X10_prunedOn (l : Launch) (D : va_G) (cI cJ cZ cS : ClassId) (sz N : Nat) (a_this a_pathInput a_pathGates a_now a_other a_one a_before a_after a_values a_next a_readOne a_readOther a_readNext a_text a_taken a_waves a_row a_seenPair a_seenTime a_seenLate a_isKept a_kept : Nat) (i_this_inputs : Int32) (i_this_gates : Int32) (i_this_readInputs : Int32) (i_this_readGates : Int32) (i_this_length : Int32) (i_this_paths : Int32) (i_this_acts : Int32) (i_this_turn : Int32) (i_this_seen : Int32) (i_this_seed : Int64) (k_pathInput : (Nat → Int32)) (k_pathGates : (Nat → Int32)) (k_now : (Nat → Int32)) (k_other : (Nat → Int32)) (k_one : (Nat → Int32)) (k_before : (Nat → Int32)) (k_after : (Nat → Int32)) (k_values : (Nat → Int32)) (k_next : (Nat → Int32)) (y1 : Int32) (rr : Int32) (o_before : (Nat → Int32)) (o_after : (Nat → Int32)) (o_values : (Nat → Int32)) (hf : f_X10_prunedOn N y1 i_this_inputs i_this_gates i_this_paths k_pathInput k_pathGates k_now k_other k_one k_before k_after k_values k_next = some (rr, o_before, o_after, o_values)) : MetI l yX10_prunedOn wsX10_prunedOn rmX10_prunedOn D (tyA cI cJ cZ cS) [(a_this, .inr (10, [.int i_this_inputs, .int i_this_gates, .ref a_now, .ref a_one, .ref a_other, .ref a_next, .int i_this_readInputs, .int i_this_readGates, .ref a_readOne, .ref a_readOther, .ref a_readNext, .ref a_text, .int i_this_length, .int i_this_paths, .ref a_pathInput, .ref a_pathGates, .ref a_before, .ref a_after, .ref a_values, .ref a_taken, .ref a_waves, .int i_this_acts, .int i_this_turn, .ref a_row, .int i_this_seen, .ref a_seenPair, .ref a_seenTime, .ref a_seenLate, .long i_this_seed, .ref a_isKept, .ref a_kept])), (a_pathInput, .inl (cI, 64, .inl k_pathInput)), (a_pathGates, .inl (cI, 64, .inl k_pathGates)), (a_now, .inl (cI, 32, .inl k_now)), (a_other, .inl (cI, 8, .inl k_other)), (a_one, .inl (cI, 8, .inl k_one)), (a_before, .inl (cI, 12, .inl k_before)), (a_after, .inl (cI, 12, .inl k_after)), (a_values, .inl (cI, 12, .inl k_values)), (a_next, .inl (cI, 4, .inl k_next))] sz [.ref a_this, .int y1] rr [(a_this, .inr (10, [.int i_this_inputs, .int i_this_gates, .ref a_now, .ref a_one, .ref a_other, .ref a_next, .int i_this_readInputs, .int i_this_readGates, .ref a_readOne, .ref a_readOther, .ref a_readNext, .ref a_text, .int i_this_length, .int i_this_paths, .ref a_pathInput, .ref a_pathGates, .ref a_before, .ref a_after, .ref a_values, .ref a_taken, .ref a_waves, .int i_this_acts, .int i_this_turn, .ref a_row, .int i_this_seen, .ref a_seenPair, .ref a_seenTime, .ref a_seenLate, .long i_this_seed, .ref a_isKept, .ref a_kept])), (a_pathInput, .inl (cI, 64, .inl k_pathInput)), (a_pathGates, .inl (cI, 64, .inl k_pathGates)), (a_now, .inl (cI, 32, .inl k_now)), (a_other, .inl (cI, 8, .inl k_other)), (a_one, .inl (cI, 8, .inl k_one)), (a_before, .inl (cI, 12, .inl o_before)), (a_after, .inl (cI, 12, .inl o_after)), (a_values, .inl (cI, 12, .inl o_values)), (a_next, .inl (cI, 4, .inl k_next))] := by
  refine entI (cc := cX10_prunedOn) (maxL := 7) (own := RX10) (by decide) rfl rfl (Nat.le_of_ble_eq_true rfl) ?_
  intro p e s m args below meth c A ls Q H locs S hr hw hl hQ
  have hx := S.1.1
  have hb := S.1.2.1
  have hts := S.1.2.2.2.2
  have hl : lv_has ls 7 [(0, .ref a_this), (1, .int y1)] := hl
  have hinX10 : ∀ w ∈ u_ws RX10 TX10 31, w ∈ wsX10_prunedOn := (fun _ h => List.mem_cons_of_mem _ (List.mem_append_right _ h))
  have F112 : FLk s args wsX10_prunedOn RX10 112 RX10 TX10 31 10 0 := ⟨hinX10, rfl, by decide, hts (.fieldLink RX10 112 "SlowPathsModel" "inputs" "I") (List.mem_of_getElem? (i := 1) rfl)⟩
  have F115 : FLk s args wsX10_prunedOn RX10 115 RX10 TX10 31 10 1 := ⟨hinX10, rfl, by decide, hts (.fieldLink RX10 115 "SlowPathsModel" "gates" "I") (List.mem_of_getElem? (i := 2) rfl)⟩
  have h := hf
  rw [f_X10_prunedOn] at h
  refine lv_iconst (v := (0 : Int32)) hx hb dX10_prunedOn_0 (by decide) ?_
  refine lv_istore_n (lv' := [(2, .int (0 : Int32)), (0, .ref a_this), (1, .int y1)]) hx hb dX10_prunedOn_1 rfl hl (by decide) rfl (fun ls hl => ?_)
  refine lv_iconst (v := (0 : Int32)) hx hb dX10_prunedOn_2 (by decide) ?_
  refine lv_istore_n (lv' := [(3, .int (0 : Int32)), (2, .int (0 : Int32)), (0, .ref a_this), (1, .int y1)]) hx hb dX10_prunedOn_3 rfl hl (by decide) rfl (fun ls hl => ?_)
  obtain ⟨j116_1, ej116_1, h⟩ := bnd_ex h
  have hj116_1 : ∀ (x2_1 : Int32) (k_before_2 : (Nat → Int32)) (k_after_3 : (Nat → Int32)) (k_values_4 : (Nat → Int32)) (H : Heap) (locs : List Loc) (ls : Array Slot), j116_1 x2_1 k_before_2 k_after_3 k_values_4 = some (rr, o_before, o_after, o_values) → Wd D (tyA cI cJ cZ cS) A s [(a_this, .inr (10, [.int i_this_inputs, .int i_this_gates, .ref a_now, .ref a_one, .ref a_other, .ref a_next, .int i_this_readInputs, .int i_this_readGates, .ref a_readOne, .ref a_readOther, .ref a_readNext, .ref a_text, .int i_this_length, .int i_this_paths, .ref a_pathInput, .ref a_pathGates, .ref a_before, .ref a_after, .ref a_values, .ref a_taken, .ref a_waves, .int i_this_acts, .int i_this_turn, .ref a_row, .int i_this_seen, .ref a_seenPair, .ref a_seenTime, .ref a_seenLate, .long i_this_seed, .ref a_isKept, .ref a_kept])), (a_pathInput, .inl (cI, 64, .inl k_pathInput)), (a_pathGates, .inl (cI, 64, .inl k_pathGates)), (a_now, .inl (cI, 32, .inl k_now)), (a_other, .inl (cI, 8, .inl k_other)), (a_one, .inl (cI, 8, .inl k_one)), (a_before, .inl (cI, 12, .inl k_before_2)), (a_after, .inl (cI, 12, .inl k_after_3)), (a_values, .inl (cI, 12, .inl k_values_4)), (a_next, .inl (cI, 4, .inl k_next))] H locs → lv_has ls 7 [(2, .int x2_1)] → W p l e rmX10_prunedOn s m args below meth c H locs 0 0 Q (F0 m 116 ls []) := by
    intro x2_1 k_before_2 k_after_3 k_values_4 H locs ls h hw hl
    replace h := ap4 ej116_1 h
    refine lv_iload_n hx hb dX10_prunedOn_116 rfl (lv_at hl 0 rfl) ?_
    cases h
    exact z_iret S hQ hr hw [0, 1, 2, 3, 4, 5, 6, 7, 8, 9] rfl rfl dX10_prunedOn_117
  have hL4_1 : ∀ (nf : Nat) (x2_5 : Int32) (x3_6 : Int32) (k_before_7 : (Nat → Int32)) (k_after_8 : (Nat → Int32)) (k_values_9 : (Nat → Int32)) (H : Heap) (locs : List Loc) (ls : Array Slot), f_X10_prunedOn_L4 N y1 i_this_inputs i_this_gates i_this_paths k_pathInput k_pathGates k_now k_other k_one k_next j116_1 nf x2_5 x3_6 k_before_7 k_after_8 k_values_9 = some (rr, o_before, o_after, o_values) → Wd D (tyA cI cJ cZ cS) A s [(a_this, .inr (10, [.int i_this_inputs, .int i_this_gates, .ref a_now, .ref a_one, .ref a_other, .ref a_next, .int i_this_readInputs, .int i_this_readGates, .ref a_readOne, .ref a_readOther, .ref a_readNext, .ref a_text, .int i_this_length, .int i_this_paths, .ref a_pathInput, .ref a_pathGates, .ref a_before, .ref a_after, .ref a_values, .ref a_taken, .ref a_waves, .int i_this_acts, .int i_this_turn, .ref a_row, .int i_this_seen, .ref a_seenPair, .ref a_seenTime, .ref a_seenLate, .long i_this_seed, .ref a_isKept, .ref a_kept])), (a_pathInput, .inl (cI, 64, .inl k_pathInput)), (a_pathGates, .inl (cI, 64, .inl k_pathGates)), (a_now, .inl (cI, 32, .inl k_now)), (a_other, .inl (cI, 8, .inl k_other)), (a_one, .inl (cI, 8, .inl k_one)), (a_before, .inl (cI, 12, .inl k_before_7)), (a_after, .inl (cI, 12, .inl k_after_8)), (a_values, .inl (cI, 12, .inl k_values_9)), (a_next, .inl (cI, 4, .inl k_next))] H locs → lv_has ls 7 [(0, .ref a_this), (1, .int y1), (2, .int x2_5), (3, .int x3_6)] → W p l e rmX10_prunedOn s m args below meth c H locs 0 0 Q (F0 m 4 ls []) := by
    intro nf
    induction nf with
    | zero =>
      intro x2_5 x3_6 k_before_7 k_after_8 k_values_9 H locs ls h
      rw [f_X10_prunedOn_L4] at h
      cases h
    | succ n_4 ih_4 =>
      intro x2_5 x3_6 k_before_7 k_after_8 k_values_9 H locs ls h hw hl
      rw [f_X10_prunedOn_L4] at h
      refine lv_iload_n hx hb dX10_prunedOn_4 rfl (lv_at hl 3 rfl) ?_
      refine lv_aload_n hx hb dX10_prunedOn_5 rfl (lv_at hl 0 rfl) ?_
      refine z_get S hw F112 0 rfl rfl dX10_prunedOn_6 ?_
      refine lv_icmp_ge (tgt := 116) hx hb dX10_prunedOn_9 (by decide) (fun hc => ?_) (fun hc => ?_)
      · replace h := if_t hc h
        exact hj116_1 x2_5 k_before_7 k_after_8 k_values_9 H locs ls h hw (lv_sub hl [2] rfl)
      · replace h := if_f hc h
        refine lv_iconst (v := (1 : Int32)) hx hb dX10_prunedOn_12 (by decide) ?_
        refine lv_istore (lv' := [(4, .int (1 : Int32)), (0, .ref a_this), (1, .int y1), (2, .int x2_5), (3, .int x3_6)]) hx hb dX10_prunedOn_13 hl (by decide) rfl (fun ls hl => ?_)
        obtain ⟨j110_1, ej110_1, h⟩ := bnd_ex h
        have hj110_1 : ∀ (x2_10 : Int32) (k_before_11 : (Nat → Int32)) (k_after_12 : (Nat → Int32)) (k_values_13 : (Nat → Int32)) (H : Heap) (locs : List Loc) (ls : Array Slot), j110_1 x2_10 k_before_11 k_after_12 k_values_13 = some (rr, o_before, o_after, o_values) → Wd D (tyA cI cJ cZ cS) A s [(a_this, .inr (10, [.int i_this_inputs, .int i_this_gates, .ref a_now, .ref a_one, .ref a_other, .ref a_next, .int i_this_readInputs, .int i_this_readGates, .ref a_readOne, .ref a_readOther, .ref a_readNext, .ref a_text, .int i_this_length, .int i_this_paths, .ref a_pathInput, .ref a_pathGates, .ref a_before, .ref a_after, .ref a_values, .ref a_taken, .ref a_waves, .int i_this_acts, .int i_this_turn, .ref a_row, .int i_this_seen, .ref a_seenPair, .ref a_seenTime, .ref a_seenLate, .long i_this_seed, .ref a_isKept, .ref a_kept])), (a_pathInput, .inl (cI, 64, .inl k_pathInput)), (a_pathGates, .inl (cI, 64, .inl k_pathGates)), (a_now, .inl (cI, 32, .inl k_now)), (a_other, .inl (cI, 8, .inl k_other)), (a_one, .inl (cI, 8, .inl k_one)), (a_before, .inl (cI, 12, .inl k_before_11)), (a_after, .inl (cI, 12, .inl k_after_12)), (a_values, .inl (cI, 12, .inl k_values_13)), (a_next, .inl (cI, 4, .inl k_next))] H locs → lv_has ls 7 [(0, .ref a_this), (1, .int y1), (2, .int x2_10), (3, .int x3_6)] → W p l e rmX10_prunedOn s m args below meth c H locs 0 0 Q (F0 m 110 ls []) := by
          intro x2_10 k_before_11 k_after_12 k_values_13 H locs ls h hw hl
          replace h := ap4 ej110_1 h
          obtain ⟨x3_14, ex3_14, h⟩ := bnd_ex h
          refine lv_iinc (v := x3_14) (lv' := [(3, .int x3_14), (0, .ref a_this), (1, .int y1), (2, .int x2_10)]) hx hb dX10_prunedOn_110 hl (k := 3) rfl (by rw [ex3_14]; rfl) (by decide) rfl (fun ls hl => ?_)
          refine lv_goto (tgt := 4) hx hb dX10_prunedOn_113 (by decide) ?_
          exact ih_4 x2_10 x3_14 k_before_11 k_after_12 k_values_13 H locs ls h hw (lv_sub hl [1, 2, 3, 0] rfl)
        have hL15_1 : ∀ (nf : Nat) (x2_15 : Int32) (x4_16 : Int32) (k_before_17 : (Nat → Int32)) (k_after_18 : (Nat → Int32)) (k_values_19 : (Nat → Int32)) (H : Heap) (locs : List Loc) (ls : Array Slot), f_X10_prunedOn_L15 N y1 i_this_inputs i_this_gates i_this_paths k_pathInput k_pathGates k_now k_other k_one k_next x3_6 j110_1 nf x2_15 x4_16 k_before_17 k_after_18 k_values_19 = some (rr, o_before, o_after, o_values) → Wd D (tyA cI cJ cZ cS) A s [(a_this, .inr (10, [.int i_this_inputs, .int i_this_gates, .ref a_now, .ref a_one, .ref a_other, .ref a_next, .int i_this_readInputs, .int i_this_readGates, .ref a_readOne, .ref a_readOther, .ref a_readNext, .ref a_text, .int i_this_length, .int i_this_paths, .ref a_pathInput, .ref a_pathGates, .ref a_before, .ref a_after, .ref a_values, .ref a_taken, .ref a_waves, .int i_this_acts, .int i_this_turn, .ref a_row, .int i_this_seen, .ref a_seenPair, .ref a_seenTime, .ref a_seenLate, .long i_this_seed, .ref a_isKept, .ref a_kept])), (a_pathInput, .inl (cI, 64, .inl k_pathInput)), (a_pathGates, .inl (cI, 64, .inl k_pathGates)), (a_now, .inl (cI, 32, .inl k_now)), (a_other, .inl (cI, 8, .inl k_other)), (a_one, .inl (cI, 8, .inl k_one)), (a_before, .inl (cI, 12, .inl k_before_17)), (a_after, .inl (cI, 12, .inl k_after_18)), (a_values, .inl (cI, 12, .inl k_values_19)), (a_next, .inl (cI, 4, .inl k_next))] H locs → lv_has ls 7 [(0, .ref a_this), (1, .int y1), (2, .int x2_15), (3, .int x3_6), (4, .int x4_16)] → W p l e rmX10_prunedOn s m args below meth c H locs 0 0 Q (F0 m 15 ls []) := by
          intro nf
          induction nf with
          | zero =>
            intro x2_15 x4_16 k_before_17 k_after_18 k_values_19 H locs ls h
            rw [f_X10_prunedOn_L15] at h
            cases h
          | succ n_15 ih_15 =>
            intro x2_15 x4_16 k_before_17 k_after_18 k_values_19 H locs ls h hw hl
            rw [f_X10_prunedOn_L15] at h
            refine lv_iload hx hb dX10_prunedOn_15 (lv_at hl 4 rfl) ?_
            refine lv_iconst (v := (1 : Int32)) hx hb dX10_prunedOn_17 (by decide) ?_
            refine lv_aload_n hx hb dX10_prunedOn_18 rfl (lv_at hl 0 rfl) ?_
            refine z_get S hw F115 0 rfl rfl dX10_prunedOn_19 ?_
            refine lv_ishl hx hb dX10_prunedOn_22 ?_
            refine lv_icmp_ge (tgt := 110) hx hb dX10_prunedOn_23 (by decide) (fun hc => ?_) (fun hc => ?_)
            · replace h := if_t hc h
              exact hj110_1 x2_15 k_before_17 k_after_18 k_values_19 H locs ls h hw (lv_sub hl [0, 1, 2, 3] rfl)
            · replace h := if_f hc h
              refine lv_iconst (v := (0 : Int32)) hx hb dX10_prunedOn_26 (by decide) ?_
              refine lv_istore (lv' := [(5, .int (0 : Int32)), (0, .ref a_this), (1, .int y1), (2, .int x2_15), (3, .int x3_6), (4, .int x4_16)]) hx hb dX10_prunedOn_27 hl (by decide) rfl (fun ls hl => ?_)
              obtain ⟨j104_1, ej104_1, h⟩ := bnd_ex h
              have hj104_1 : ∀ (x2_20 : Int32) (k_before_21 : (Nat → Int32)) (k_after_22 : (Nat → Int32)) (k_values_23 : (Nat → Int32)) (H : Heap) (locs : List Loc) (ls : Array Slot), j104_1 x2_20 k_before_21 k_after_22 k_values_23 = some (rr, o_before, o_after, o_values) → Wd D (tyA cI cJ cZ cS) A s [(a_this, .inr (10, [.int i_this_inputs, .int i_this_gates, .ref a_now, .ref a_one, .ref a_other, .ref a_next, .int i_this_readInputs, .int i_this_readGates, .ref a_readOne, .ref a_readOther, .ref a_readNext, .ref a_text, .int i_this_length, .int i_this_paths, .ref a_pathInput, .ref a_pathGates, .ref a_before, .ref a_after, .ref a_values, .ref a_taken, .ref a_waves, .int i_this_acts, .int i_this_turn, .ref a_row, .int i_this_seen, .ref a_seenPair, .ref a_seenTime, .ref a_seenLate, .long i_this_seed, .ref a_isKept, .ref a_kept])), (a_pathInput, .inl (cI, 64, .inl k_pathInput)), (a_pathGates, .inl (cI, 64, .inl k_pathGates)), (a_now, .inl (cI, 32, .inl k_now)), (a_other, .inl (cI, 8, .inl k_other)), (a_one, .inl (cI, 8, .inl k_one)), (a_before, .inl (cI, 12, .inl k_before_21)), (a_after, .inl (cI, 12, .inl k_after_22)), (a_values, .inl (cI, 12, .inl k_values_23)), (a_next, .inl (cI, 4, .inl k_next))] H locs → lv_has ls 7 [(0, .ref a_this), (1, .int y1), (2, .int x2_20), (3, .int x3_6), (4, .int x4_16)] → W p l e rmX10_prunedOn s m args below meth c H locs 0 0 Q (F0 m 104 ls []) := by
                intro x2_20 k_before_21 k_after_22 k_values_23 H locs ls h hw hl
                replace h := ap4 ej104_1 h
                obtain ⟨x4_24, ex4_24, h⟩ := bnd_ex h
                refine lv_iinc (v := x4_24) (lv' := [(4, .int x4_24), (0, .ref a_this), (1, .int y1), (2, .int x2_20), (3, .int x3_6)]) hx hb dX10_prunedOn_104 hl (k := 4) rfl (by rw [ex4_24]; rfl) (by decide) rfl (fun ls hl => ?_)
                refine lv_goto (tgt := 15) hx hb dX10_prunedOn_107 (by decide) ?_
                exact ih_15 x2_20 x4_24 k_before_21 k_after_22 k_values_23 H locs ls h hw (lv_sub hl [1, 2, 3, 4, 0] rfl)
              have hL29_1 : ∀ (nf : Nat) (x2_25 : Int32) (x5_26 : Int32) (k_before_27 : (Nat → Int32)) (k_after_28 : (Nat → Int32)) (k_values_29 : (Nat → Int32)) (H : Heap) (locs : List Loc) (ls : Array Slot), f_X10_prunedOn_L29 N y1 i_this_inputs i_this_gates i_this_paths k_pathInput k_pathGates k_now k_other k_one k_next x3_6 x4_16 j104_1 nf x2_25 x5_26 k_before_27 k_after_28 k_values_29 = some (rr, o_before, o_after, o_values) → Wd D (tyA cI cJ cZ cS) A s [(a_this, .inr (10, [.int i_this_inputs, .int i_this_gates, .ref a_now, .ref a_one, .ref a_other, .ref a_next, .int i_this_readInputs, .int i_this_readGates, .ref a_readOne, .ref a_readOther, .ref a_readNext, .ref a_text, .int i_this_length, .int i_this_paths, .ref a_pathInput, .ref a_pathGates, .ref a_before, .ref a_after, .ref a_values, .ref a_taken, .ref a_waves, .int i_this_acts, .int i_this_turn, .ref a_row, .int i_this_seen, .ref a_seenPair, .ref a_seenTime, .ref a_seenLate, .long i_this_seed, .ref a_isKept, .ref a_kept])), (a_pathInput, .inl (cI, 64, .inl k_pathInput)), (a_pathGates, .inl (cI, 64, .inl k_pathGates)), (a_now, .inl (cI, 32, .inl k_now)), (a_other, .inl (cI, 8, .inl k_other)), (a_one, .inl (cI, 8, .inl k_one)), (a_before, .inl (cI, 12, .inl k_before_27)), (a_after, .inl (cI, 12, .inl k_after_28)), (a_values, .inl (cI, 12, .inl k_values_29)), (a_next, .inl (cI, 4, .inl k_next))] H locs → lv_has ls 7 [(0, .ref a_this), (1, .int y1), (2, .int x2_25), (3, .int x3_6), (4, .int x4_16), (5, .int x5_26)] → W p l e rmX10_prunedOn s m args below meth c H locs 0 0 Q (F0 m 29 ls []) := by
                intro nf
                induction nf with
                | zero =>
                  intro x2_25 x5_26 k_before_27 k_after_28 k_values_29 H locs ls h
                  rw [f_X10_prunedOn_L29] at h
                  cases h
                | succ n_29 ih_29 =>
                  intro x2_25 x5_26 k_before_27 k_after_28 k_values_29 H locs ls h hw hl
                  rw [f_X10_prunedOn_L29] at h
                  refine lv_iload hx hb dX10_prunedOn_29 (lv_at hl 5 rfl) ?_
                  refine lv_iconst (v := (2 : Int32)) hx hb dX10_prunedOn_31 (by decide) ?_
                  refine lv_icmp_ge (tgt := 104) hx hb dX10_prunedOn_32 (by decide) (fun hc => ?_) (fun hc => ?_)
                  · replace h := if_t hc h
                    exact hj104_1 x2_25 k_before_27 k_after_28 k_values_29 H locs ls h hw (lv_sub hl [0, 1, 2, 3, 4] rfl)
                  · replace h := if_f hc h
                    refine lv_aload_n hx hb dX10_prunedOn_35 rfl (lv_at hl 0 rfl) ?_
                    refine lv_iload_n hx hb dX10_prunedOn_36 rfl (lv_at hl 3 rfl) ?_
                    refine lv_iload hx hb dX10_prunedOn_37 (lv_at hl 4 rfl) ?_
                    obtain ⟨r_30, e39_1, h⟩ := obd1_el h
                    refine zr_VI (As := [.int x3_6, .int x4_16]) (rest := []) (q0 := 0) S hw (c_X10_begins l D cI cJ cZ cS H.size N a_this a_pathInput a_pathGates a_now a_one a_other a_next a_readOne a_readOther a_readNext a_text a_before a_after a_values a_taken a_waves a_row a_seenPair a_seenTime a_seenLate a_isKept a_kept i_this_inputs i_this_gates i_this_readInputs i_this_readGates i_this_length i_this_paths i_this_acts i_this_turn i_this_seen i_this_seed k_pathInput k_pathGates x3_6 x4_16 r_30 e39_1) (cwV 2 hts gX10_prunedOn_X10_begins rfl rfl rfl dv_X10_begins ⟨Nat.le_of_ble_eq_true rfl, Nat.le_of_ble_eq_true rfl⟩) [0, 1, 2] rfl rfl rfl rfl rfl rfl hl.1 rfl (Nat.le_of_ble_eq_true rfl) dX10_prunedOn_39 ⟨Nat.zero_le _, Nat.zero_le _⟩ ?_
                    refine lv_if_eq (tgt := 104) hx hb dX10_prunedOn_42 (by decide) (fun hc => ?_) (fun hc => ?_)
                    · replace h := if_t hc h
                      exact hj104_1 x2_25 k_before_27 k_after_28 k_values_29 H locs ls h hw (lv_sub hl [0, 1, 2, 3, 4] rfl)
                    · replace h := if_f hc h
                      refine lv_aload_n hx hb dX10_prunedOn_45 rfl (lv_at hl 0 rfl) ?_
                      refine lv_iload_n hx hb dX10_prunedOn_46 rfl (lv_at hl 1 rfl) ?_
                      refine lv_iload_n hx hb dX10_prunedOn_47 rfl (lv_at hl 3 rfl) ?_
                      refine lv_iload hx hb dX10_prunedOn_48 (lv_at hl 4 rfl) ?_
                      refine lv_iload hx hb dX10_prunedOn_50 (lv_at hl 5 rfl) ?_
                      refine lv_iconst (v := (0 : Int32)) hx hb dX10_prunedOn_52 (by decide) ?_
                      refine lv_iconst (v := (1 : Int32)) hx hb dX10_prunedOn_53 (by decide) ?_
                      obtain ⟨r_31, k_before_32, k_after_33, k_values_34, e54_1, h⟩ := obd4_el h
                      refine zc_VI (As := [.int y1, .int x3_6, .int x4_16, .int x5_26, .int (0 : Int32), .int (1 : Int32)]) (rest := []) (wr := [(a_pathInput, .inl (cI, 64, .inl k_pathInput)), (a_pathGates, .inl (cI, 64, .inl k_pathGates))]) (q0 := 0) S hw (c_X10_bestOn l D cI cJ cZ cS H.size N a_this a_now a_other a_one a_before a_after a_values a_next a_readOne a_readOther a_readNext a_text a_pathInput a_pathGates a_taken a_waves a_row a_seenPair a_seenTime a_seenLate a_isKept a_kept i_this_inputs i_this_gates i_this_readInputs i_this_readGates i_this_length i_this_paths i_this_acts i_this_turn i_this_seen i_this_seed k_now k_other k_one k_before_27 k_after_28 k_values_29 k_next y1 x3_6 x4_16 x5_26 (0 : Int32) (1 : Int32) r_31 k_before_32 k_after_33 k_values_34 e54_1) (cwV 6 hts gX10_prunedOn_X10_bestOn rfl rfl rfl dv_X10_bestOn ⟨Nat.le_of_ble_eq_true rfl, Nat.le_of_ble_eq_true rfl⟩) [0, 3, 4, 5, 6, 7, 8, 9] [1, 2] rfl rfl rfl rfl (by decide) rfl rfl rfl rfl hl.1 rfl (Nat.le_of_ble_eq_true rfl) dX10_prunedOn_54 ⟨Nat.zero_le _, Nat.zero_le _⟩ (fun H locs hw => ?_)
                      obtain ⟨j65_1, ej65_1, h⟩ := bnd_ex h
                      have hj65_1 : ∀ (t_35 : Int32) (H : Heap) (locs : List Loc) (ls : Array Slot), j65_1 t_35 = some (rr, o_before, o_after, o_values) → Wd D (tyA cI cJ cZ cS) A s [(a_this, .inr (10, [.int i_this_inputs, .int i_this_gates, .ref a_now, .ref a_one, .ref a_other, .ref a_next, .int i_this_readInputs, .int i_this_readGates, .ref a_readOne, .ref a_readOther, .ref a_readNext, .ref a_text, .int i_this_length, .int i_this_paths, .ref a_pathInput, .ref a_pathGates, .ref a_before, .ref a_after, .ref a_values, .ref a_taken, .ref a_waves, .int i_this_acts, .int i_this_turn, .ref a_row, .int i_this_seen, .ref a_seenPair, .ref a_seenTime, .ref a_seenLate, .long i_this_seed, .ref a_isKept, .ref a_kept])), (a_pathInput, .inl (cI, 64, .inl k_pathInput)), (a_pathGates, .inl (cI, 64, .inl k_pathGates)), (a_now, .inl (cI, 32, .inl k_now)), (a_other, .inl (cI, 8, .inl k_other)), (a_one, .inl (cI, 8, .inl k_one)), (a_before, .inl (cI, 12, .inl k_before_32)), (a_after, .inl (cI, 12, .inl k_after_33)), (a_values, .inl (cI, 12, .inl k_values_34)), (a_next, .inl (cI, 4, .inl k_next))] H locs → lv_has ls 7 [(0, .ref a_this), (1, .int y1), (2, .int x2_25), (3, .int x3_6), (4, .int x4_16), (5, .int x5_26)] → W p l e rmX10_prunedOn s m args below meth c H locs 0 0 Q (F0 m 65 ls [.int t_35]) := by
                        intro t_35 H locs ls h hw hl
                        replace h := ap1 ej65_1 h
                        refine lv_istore (lv' := [(6, .int t_35), (0, .ref a_this), (1, .int y1), (2, .int x2_25), (3, .int x3_6), (4, .int x4_16), (5, .int x5_26)]) hx hb dX10_prunedOn_65 hl (by decide) rfl (fun ls hl => ?_)
                        refine lv_iload_n hx hb dX10_prunedOn_67 rfl (lv_at hl 3 rfl) ?_
                        refine lv_iload hx hb dX10_prunedOn_68 (lv_at hl 0 rfl) ?_
                        obtain ⟨j96_1, ej96_1, h⟩ := bnd_ex h
                        have hj96_1 : ∀ (t_36 : Int32) (t_37 : Int32) (k_before_38 : (Nat → Int32)) (k_after_39 : (Nat → Int32)) (k_values_40 : (Nat → Int32)) (H : Heap) (locs : List Loc) (ls : Array Slot), j96_1 t_36 t_37 k_before_38 k_after_39 k_values_40 = some (rr, o_before, o_after, o_values) → Wd D (tyA cI cJ cZ cS) A s [(a_this, .inr (10, [.int i_this_inputs, .int i_this_gates, .ref a_now, .ref a_one, .ref a_other, .ref a_next, .int i_this_readInputs, .int i_this_readGates, .ref a_readOne, .ref a_readOther, .ref a_readNext, .ref a_text, .int i_this_length, .int i_this_paths, .ref a_pathInput, .ref a_pathGates, .ref a_before, .ref a_after, .ref a_values, .ref a_taken, .ref a_waves, .int i_this_acts, .int i_this_turn, .ref a_row, .int i_this_seen, .ref a_seenPair, .ref a_seenTime, .ref a_seenLate, .long i_this_seed, .ref a_isKept, .ref a_kept])), (a_pathInput, .inl (cI, 64, .inl k_pathInput)), (a_pathGates, .inl (cI, 64, .inl k_pathGates)), (a_now, .inl (cI, 32, .inl k_now)), (a_other, .inl (cI, 8, .inl k_other)), (a_one, .inl (cI, 8, .inl k_one)), (a_before, .inl (cI, 12, .inl k_before_38)), (a_after, .inl (cI, 12, .inl k_after_39)), (a_values, .inl (cI, 12, .inl k_values_40)), (a_next, .inl (cI, 4, .inl k_next))] H locs → lv_has ls 7 [(0, .ref a_this), (1, .int y1), (3, .int x3_6), (4, .int x4_16), (5, .int x5_26)] → W p l e rmX10_prunedOn s m args below meth c H locs 0 0 Q (F0 m 96 ls [.int t_36, .int t_37]) := by
                          intro t_36 t_37 k_before_38 k_after_39 k_values_40 H locs ls h hw hl
                          replace h := ap5 ej96_1 h
                          refine lv_iadd hx hb dX10_prunedOn_96 ?_
                          refine lv_topi (fun x2_41 ex2_41 => ?_)
                          replace h := bnd_at ex2_41 h
                          refine lv_istore_n (lv' := [(2, .int x2_41), (0, .ref a_this), (1, .int y1), (3, .int x3_6), (4, .int x4_16), (5, .int x5_26)]) hx hb dX10_prunedOn_97 rfl hl (by decide) rfl (fun ls hl => ?_)
                          obtain ⟨x5_42, ex5_42, h⟩ := bnd_ex h
                          refine lv_iinc (v := x5_42) (lv' := [(5, .int x5_42), (2, .int x2_41), (0, .ref a_this), (1, .int y1), (3, .int x3_6), (4, .int x4_16)]) hx hb dX10_prunedOn_98 hl (k := 5) rfl (by rw [ex5_42]; rfl) (by decide) rfl (fun ls hl => ?_)
                          refine lv_goto (tgt := 29) hx hb dX10_prunedOn_101 (by decide) ?_
                          exact ih_29 x2_41 x5_42 k_before_38 k_after_39 k_values_40 H locs ls h hw (lv_sub hl [2, 3, 1, 4, 5, 0] rfl)
                        obtain ⟨j95_1, ej95_1, h⟩ := bnd_ex h
                        have hj95_1 : ∀ (t_43 : Int32) (k_before_44 : (Nat → Int32)) (k_after_45 : (Nat → Int32)) (k_values_46 : (Nat → Int32)) (H : Heap) (locs : List Loc) (ls : Array Slot), j95_1 t_43 k_before_44 k_after_45 k_values_46 = some (rr, o_before, o_after, o_values) → Wd D (tyA cI cJ cZ cS) A s [(a_this, .inr (10, [.int i_this_inputs, .int i_this_gates, .ref a_now, .ref a_one, .ref a_other, .ref a_next, .int i_this_readInputs, .int i_this_readGates, .ref a_readOne, .ref a_readOther, .ref a_readNext, .ref a_text, .int i_this_length, .int i_this_paths, .ref a_pathInput, .ref a_pathGates, .ref a_before, .ref a_after, .ref a_values, .ref a_taken, .ref a_waves, .int i_this_acts, .int i_this_turn, .ref a_row, .int i_this_seen, .ref a_seenPair, .ref a_seenTime, .ref a_seenLate, .long i_this_seed, .ref a_isKept, .ref a_kept])), (a_pathInput, .inl (cI, 64, .inl k_pathInput)), (a_pathGates, .inl (cI, 64, .inl k_pathGates)), (a_now, .inl (cI, 32, .inl k_now)), (a_other, .inl (cI, 8, .inl k_other)), (a_one, .inl (cI, 8, .inl k_one)), (a_before, .inl (cI, 12, .inl k_before_44)), (a_after, .inl (cI, 12, .inl k_after_45)), (a_values, .inl (cI, 12, .inl k_values_46)), (a_next, .inl (cI, 4, .inl k_next))] H locs → lv_has ls 7 [(0, .ref a_this), (1, .int y1), (3, .int x3_6), (4, .int x4_16), (5, .int x5_26)] → W p l e rmX10_prunedOn s m args below meth c H locs 0 0 Q (F0 m 95 ls [.int t_43]) := by
                          intro t_43 k_before_44 k_after_45 k_values_46 H locs ls h hw hl
                          replace h := ap4 ej95_1 h
                          refine lv_iconst (v := (0 : Int32)) hx hb dX10_prunedOn_95 (by decide) ?_
                          exact hj96_1 ((0 : Int32)) t_43 k_before_44 k_after_45 k_values_46 H locs ls h hw hl
                        refine lv_if_eq (tgt := 95) hx hb dX10_prunedOn_70 (by decide) (fun hc => ?_) (fun hc => ?_)
                        · replace h := if_t hc h
                          exact hj95_1 x2_25 k_before_32 k_after_33 k_values_34 H locs ls h hw (lv_sub hl [1, 2, 4, 5, 6] rfl)
                        · replace h := if_f hc h
                          refine lv_aload_n hx hb dX10_prunedOn_73 rfl (lv_at hl 1 rfl) ?_
                          refine lv_iload_n hx hb dX10_prunedOn_74 rfl (lv_at hl 2 rfl) ?_
                          refine lv_iload_n hx hb dX10_prunedOn_75 rfl (lv_at hl 4 rfl) ?_
                          refine lv_iload hx hb dX10_prunedOn_76 (lv_at hl 5 rfl) ?_
                          obtain ⟨r_47, e78_1, h⟩ := obd1_el h
                          refine zr_SI (As := [.int x4_16]) (rest := [.int x3_6, .int y1, .ref a_this, .int x2_25]) (q0 := 0) (ci := 0) (fs := []) (qc := (RX0, TX0, 4)) S hw (c_X10_shorter l D cI cJ cZ cS H.size N x4_16 r_47 e78_1) (va_cwS 1 hts gX10_prunedOn_X10_shorter rfl rfl rfl ds_X10_shorter ⟨Nat.le_of_ble_eq_true rfl, Nat.le_of_ble_eq_true rfl⟩) [] rfl rfl rfl hl.1 rfl (Nat.le_of_ble_eq_true rfl) dX10_prunedOn_78 ⟨Nat.zero_le _, Nat.zero_le _⟩ ?_
                          refine lv_iload hx hb dX10_prunedOn_81 (lv_at hl 6 rfl) ?_
                          refine lv_iconst (v := (0 : Int32)) hx hb dX10_prunedOn_83 (by decide) ?_
                          refine lv_iconst (v := (1 : Int32)) hx hb dX10_prunedOn_84 (by decide) ?_
                          obtain ⟨r_48, k_before_49, k_after_50, k_values_51, e85_1, h⟩ := obd4_el h
                          refine zc_VI (As := [.int y1, .int x3_6, .int r_47, .int x5_26, .int (0 : Int32), .int (1 : Int32)]) (rest := [.int x2_25]) (wr := [(a_pathInput, .inl (cI, 64, .inl k_pathInput)), (a_pathGates, .inl (cI, 64, .inl k_pathGates))]) (q0 := 0) S hw (c_X10_bestOn l D cI cJ cZ cS H.size N a_this a_now a_other a_one a_before a_after a_values a_next a_readOne a_readOther a_readNext a_text a_pathInput a_pathGates a_taken a_waves a_row a_seenPair a_seenTime a_seenLate a_isKept a_kept i_this_inputs i_this_gates i_this_readInputs i_this_readGates i_this_length i_this_paths i_this_acts i_this_turn i_this_seen i_this_seed k_now k_other k_one k_before_32 k_after_33 k_values_34 k_next y1 x3_6 r_47 x5_26 (0 : Int32) (1 : Int32) r_48 k_before_49 k_after_50 k_values_51 e85_1) (cwV 6 hts gX10_prunedOn_X10_bestOn rfl rfl rfl dv_X10_bestOn ⟨Nat.le_of_ble_eq_true rfl, Nat.le_of_ble_eq_true rfl⟩) [0, 3, 4, 5, 6, 7, 8, 9] [1, 2] rfl rfl rfl rfl (by decide) rfl rfl rfl rfl hl.1 rfl (Nat.le_of_ble_eq_true rfl) dX10_prunedOn_85 ⟨Nat.zero_le _, Nat.zero_le _⟩ (fun H locs hw => ?_)
                          refine lv_if_le (tgt := 95) hx hb dX10_prunedOn_88 (by decide) (fun hc => ?_) (fun hc => ?_)
                          · replace h := if_t hc h
                            exact hj95_1 x2_25 k_before_49 k_after_50 k_values_51 H locs ls h (hw.sub [2, 0, 1, 3, 4, 5, 6, 7, 8, 9] rfl rfl) (lv_sub hl [1, 2, 4, 5, 6] rfl)
                          · replace h := if_f hc h
                            refine lv_iconst (v := (1 : Int32)) hx hb dX10_prunedOn_91 (by decide) ?_
                            refine lv_goto (tgt := 96) hx hb dX10_prunedOn_92 (by decide) ?_
                            exact hj96_1 ((1 : Int32)) x2_25 k_before_49 k_after_50 k_values_51 H locs ls h (hw.sub [2, 0, 1, 3, 4, 5, 6, 7, 8, 9] rfl rfl) (lv_sub hl [1, 2, 4, 5, 6] rfl)
                      refine lv_if_ne (tgt := 64) hx hb dX10_prunedOn_57 (by decide) (fun hc => ?_) (fun hc => ?_)
                      · replace h := if_f hc h
                        refine lv_iconst (v := (0 : Int32)) hx hb dX10_prunedOn_64 (by decide) ?_
                        exact hj65_1 ((0 : Int32)) H locs ls h (hw.sub [2, 0, 1, 3, 4, 5, 6, 7, 8, 9] rfl rfl) hl
                      · replace h := if_t hc h
                        refine lv_iconst (v := (1 : Int32)) hx hb dX10_prunedOn_60 (by decide) ?_
                        refine lv_goto (tgt := 65) hx hb dX10_prunedOn_61 (by decide) ?_
                        exact hj65_1 ((1 : Int32)) H locs ls h (hw.sub [2, 0, 1, 3, 4, 5, 6, 7, 8, 9] rfl rfl) hl
              exact hL29_1 N x2_15 ((0 : Int32)) k_before_17 k_after_18 k_values_19 H locs ls h hw (lv_sub hl [1, 2, 3, 4, 5, 0] rfl)
        exact hL15_1 N x2_5 ((1 : Int32)) k_before_7 k_after_8 k_values_9 H locs ls h hw (lv_sub hl [1, 2, 3, 4, 0] rfl)
  exact hL4_1 N ((0 : Int32)) ((0 : Int32)) k_before k_after k_values H locs ls h hw (lv_sub hl [2, 3, 1, 0] rfl)
abbrev rmX10_pruned : Room := { frames := 5, cells := 0, slots := 0, locals := 124 }
theorem dv_X10_pruned : yX10_pruned.cls = RX10 ∧ yX10_pruned.cls ≠ "java/lang/invoke/MethodHandle" ∧ yX10_pruned.cls ≠ "java/lang/invoke/VarHandle" ∧ (parseMethodDescriptor yX10_pruned.desc).map (fun d => d.parameters.length) = some 0 := by decide +kernel
noncomputable def f_X10_pruned (N : Nat)  (i_this_inputs : Int32) (i_this_gates : Int32) (i_this_paths : Int32) (k_pathInput : (Nat → Int32)) (k_pathGates : (Nat → Int32)) (k_now : (Nat → Int32)) (k_other : (Nat → Int32)) (k_one : (Nat → Int32)) (k_before : (Nat → Int32)) (k_after : (Nat → Int32)) (k_values : (Nat → Int32)) (k_next : (Nat → Int32)) : Option (Int32 × (Nat → Int32) × (Nat → Int32) × (Nat → Int32)) :=
  obd4 (f_X10_prunedOn N (0 : Int32) i_this_inputs i_this_gates i_this_paths k_pathInput k_pathGates k_now k_other k_one k_before k_after k_values k_next) fun (r_1 : Int32) (k_before_2 : (Nat → Int32)) (k_after_3 : (Nat → Int32)) (k_values_4 : (Nat → Int32)) => some (r_1, k_before_2, k_after_3, k_values_4)
set_option maxHeartbeats 4000000 in
set_option maxRecDepth 100000 in
theorem c_X10_pruned (l : Launch) (D : va_G) (cI cJ cZ cS : ClassId) (sz N : Nat) (a_this a_pathInput a_pathGates a_now a_other a_one a_before a_after a_values a_next a_readOne a_readOther a_readNext a_text a_taken a_waves a_row a_seenPair a_seenTime a_seenLate a_isKept a_kept : Nat) (i_this_inputs : Int32) (i_this_gates : Int32) (i_this_readInputs : Int32) (i_this_readGates : Int32) (i_this_length : Int32) (i_this_paths : Int32) (i_this_acts : Int32) (i_this_turn : Int32) (i_this_seen : Int32) (i_this_seed : Int64) (k_pathInput : (Nat → Int32)) (k_pathGates : (Nat → Int32)) (k_now : (Nat → Int32)) (k_other : (Nat → Int32)) (k_one : (Nat → Int32)) (k_before : (Nat → Int32)) (k_after : (Nat → Int32)) (k_values : (Nat → Int32)) (k_next : (Nat → Int32))  (rr : Int32) (o_before : (Nat → Int32)) (o_after : (Nat → Int32)) (o_values : (Nat → Int32)) (hf : f_X10_pruned N i_this_inputs i_this_gates i_this_paths k_pathInput k_pathGates k_now k_other k_one k_before k_after k_values k_next = some (rr, o_before, o_after, o_values)) : MetI l yX10_pruned wsX10_pruned rmX10_pruned D (tyA cI cJ cZ cS) [(a_this, .inr (10, [.int i_this_inputs, .int i_this_gates, .ref a_now, .ref a_one, .ref a_other, .ref a_next, .int i_this_readInputs, .int i_this_readGates, .ref a_readOne, .ref a_readOther, .ref a_readNext, .ref a_text, .int i_this_length, .int i_this_paths, .ref a_pathInput, .ref a_pathGates, .ref a_before, .ref a_after, .ref a_values, .ref a_taken, .ref a_waves, .int i_this_acts, .int i_this_turn, .ref a_row, .int i_this_seen, .ref a_seenPair, .ref a_seenTime, .ref a_seenLate, .long i_this_seed, .ref a_isKept, .ref a_kept])), (a_pathInput, .inl (cI, 64, .inl k_pathInput)), (a_pathGates, .inl (cI, 64, .inl k_pathGates)), (a_now, .inl (cI, 32, .inl k_now)), (a_other, .inl (cI, 8, .inl k_other)), (a_one, .inl (cI, 8, .inl k_one)), (a_before, .inl (cI, 12, .inl k_before)), (a_after, .inl (cI, 12, .inl k_after)), (a_values, .inl (cI, 12, .inl k_values)), (a_next, .inl (cI, 4, .inl k_next))] sz [.ref a_this] rr [(a_this, .inr (10, [.int i_this_inputs, .int i_this_gates, .ref a_now, .ref a_one, .ref a_other, .ref a_next, .int i_this_readInputs, .int i_this_readGates, .ref a_readOne, .ref a_readOther, .ref a_readNext, .ref a_text, .int i_this_length, .int i_this_paths, .ref a_pathInput, .ref a_pathGates, .ref a_before, .ref a_after, .ref a_values, .ref a_taken, .ref a_waves, .int i_this_acts, .int i_this_turn, .ref a_row, .int i_this_seen, .ref a_seenPair, .ref a_seenTime, .ref a_seenLate, .long i_this_seed, .ref a_isKept, .ref a_kept])), (a_pathInput, .inl (cI, 64, .inl k_pathInput)), (a_pathGates, .inl (cI, 64, .inl k_pathGates)), (a_now, .inl (cI, 32, .inl k_now)), (a_other, .inl (cI, 8, .inl k_other)), (a_one, .inl (cI, 8, .inl k_one)), (a_before, .inl (cI, 12, .inl o_before)), (a_after, .inl (cI, 12, .inl o_after)), (a_values, .inl (cI, 12, .inl o_values)), (a_next, .inl (cI, 4, .inl k_next))] := by
  refine entI (cc := cX10_pruned) (maxL := 1) (own := RX10) (by decide) rfl rfl (Nat.le_of_ble_eq_true rfl) ?_
  intro p e s m args below meth c A ls Q H locs S hr hw hl hQ
  have hx := S.1.1
  have hb := S.1.2.1
  have hts := S.1.2.2.2.2
  have hl : lv_has ls 1 [(0, .ref a_this)] := hl
  have h := hf
  rw [f_X10_pruned] at h
  refine lv_aload_n hx hb dX10_pruned_0 rfl (lv_at hl 0 rfl) ?_
  refine lv_iconst (v := (0 : Int32)) hx hb dX10_pruned_1 (by decide) ?_
  obtain ⟨r_1, k_before_2, k_after_3, k_values_4, e2_1, h⟩ := obd4_el h
  refine zc_VI (As := [.int (0 : Int32)]) (rest := []) (wr := []) (q0 := 0) S hw (c_X10_prunedOn l D cI cJ cZ cS H.size N a_this a_pathInput a_pathGates a_now a_other a_one a_before a_after a_values a_next a_readOne a_readOther a_readNext a_text a_taken a_waves a_row a_seenPair a_seenTime a_seenLate a_isKept a_kept i_this_inputs i_this_gates i_this_readInputs i_this_readGates i_this_length i_this_paths i_this_acts i_this_turn i_this_seen i_this_seed k_pathInput k_pathGates k_now k_other k_one k_before k_after k_values k_next (0 : Int32) r_1 k_before_2 k_after_3 k_values_4 e2_1) (cwV 1 hts gX10_pruned_X10_prunedOn rfl rfl rfl dv_X10_prunedOn ⟨Nat.le_of_ble_eq_true rfl, Nat.le_of_ble_eq_true rfl⟩) [0, 1, 2, 3, 4, 5, 6, 7, 8, 9] [] rfl rfl rfl rfl (by decide) rfl rfl rfl rfl hl.1 rfl (Nat.le_of_ble_eq_true rfl) dX10_pruned_2 ⟨Nat.zero_le _, Nat.zero_le _⟩ (fun H locs hw => ?_)
  cases h
  exact z_iret S hQ hr hw [0, 1, 2, 3, 4, 5, 6, 7, 8, 9] rfl rfl dX10_pruned_5
