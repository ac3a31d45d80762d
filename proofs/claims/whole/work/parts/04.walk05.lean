abbrev rmX8_made : Room := { frames := 0, cells := 0, slots := 0, locals := 0 }
theorem ds_X8_made : yX8_made.cls ≠ "java/lang/invoke/MethodHandle" ∧ yX8_made.cls ≠ "java/lang/invoke/VarHandle" ∧ (parseMethodDescriptor yX8_made.desc).map (fun d => d.parameters.length) = some 3 := by decide +kernel
noncomputable def f_X8_made (N : Nat) (y0 : Int32) (y1 : Int64) (y2 : Int64)  : Option (Int64) :=
  (if y0 = (0 : Int32) then (some ((y1 &&& y2))) else (if y0 = (1 : Int32) then (some ((y1 ||| y2))) else (if y0 = (2 : Int32) then (some (((y1 &&& y2) ^^^ (-1 : Int64)))) else (if y0 = (3 : Int32) then (some (((y1 ||| y2) ^^^ (-1 : Int64)))) else some ((y1 ^^^ (-1 : Int64)))))))
set_option maxHeartbeats 4000000 in
set_option maxRecDepth 100000 in
theorem c_X8_made (l : Launch) (D : va_G) (cI cJ cZ cS : ClassId) (sz N : Nat)   (y0 : Int32) (y1 : Int64) (y2 : Int64) (rr : Int64) (hf : f_X8_made N y0 y1 y2 = some (rr)) : MetLr l yX8_made wsX8_made rmX8_made D (tyA cI cJ cZ cS) [] sz [.int y0, .long y1, .long y2] rr := by
  refine entLr (cc := cX8_made) (maxL := 5) (own := RX8) (by decide) rfl rfl (Nat.le_of_ble_eq_true rfl) ?_
  intro p e s m args below meth c A ls Q S hr hw hl hQ
  have hx := S.1.1
  have hb := S.1.2.1
  have hts := S.1.2.2.2.2
  have hl : lv_has ls 5 [(0, .int y0), (1, .long y1), (3, .long y2)] := hl
  have h := hf
  rw [f_X8_made] at h
  refine lv_iload_n hx hb dX8_made_0 rfl (lv_at hl 0 rfl) ?_
  by_cases hs0 : y0 = (0 : Int32)
  · replace h := if_t hs0 h
    refine lv_tableIn (off := 31) (tgt := 32) hx hb dX8_made_1 (by rw [hs0]; decide) (by rw [hs0]; decide) (by rw [hs0]; rfl) (by decide) ?_
    refine lv_lload_n hx hb dX8_made_32 rfl (lv_at hl 1 rfl) ?_
    refine lv_lload_n hx hb dX8_made_33 rfl (lv_at hl 2 rfl) ?_
    refine lv_land hx hb dX8_made_34 ?_
    cases h
    exact z_lretr S hQ hr dX8_made_35
  replace h := if_f hs0 h
  by_cases hs1 : y0 = (1 : Int32)
  · replace h := if_t hs1 h
    refine lv_tableIn (off := 35) (tgt := 36) hx hb dX8_made_1 (by rw [hs1]; decide) (by rw [hs1]; decide) (by rw [hs1]; rfl) (by decide) ?_
    refine lv_lload_n hx hb dX8_made_36 rfl (lv_at hl 1 rfl) ?_
    refine lv_lload_n hx hb dX8_made_37 rfl (lv_at hl 2 rfl) ?_
    refine lv_lor hx hb dX8_made_38 ?_
    cases h
    exact z_lretr S hQ hr dX8_made_39
  replace h := if_f hs1 h
  by_cases hs2 : y0 = (2 : Int32)
  · replace h := if_t hs2 h
    refine lv_tableIn (off := 39) (tgt := 40) hx hb dX8_made_1 (by rw [hs2]; decide) (by rw [hs2]; decide) (by rw [hs2]; rfl) (by decide) ?_
    refine lv_lload_n hx hb dX8_made_40 rfl (lv_at hl 1 rfl) ?_
    refine lv_lload_n hx hb dX8_made_41 rfl (lv_at hl 2 rfl) ?_
    refine lv_land hx hb dX8_made_42 ?_
    refine lv_ldc2 (v := (-1 : Int64)) hx hb S.1.2.2.2.1 (hts (.constantLong RX8 51 (-1)) (List.mem_of_getElem? (i := 1) rfl)) dX8_made_43 ?_
    refine lv_lxor hx hb dX8_made_46 ?_
    cases h
    exact z_lretr S hQ hr dX8_made_47
  replace h := if_f hs2 h
  by_cases hs3 : y0 = (3 : Int32)
  · replace h := if_t hs3 h
    refine lv_tableIn (off := 47) (tgt := 48) hx hb dX8_made_1 (by rw [hs3]; decide) (by rw [hs3]; decide) (by rw [hs3]; rfl) (by decide) ?_
    refine lv_lload_n hx hb dX8_made_48 rfl (lv_at hl 1 rfl) ?_
    refine lv_lload_n hx hb dX8_made_49 rfl (lv_at hl 2 rfl) ?_
    refine lv_lor hx hb dX8_made_50 ?_
    refine lv_ldc2 (v := (-1 : Int64)) hx hb S.1.2.2.2.1 (hts (.constantLong RX8 51 (-1)) (List.mem_of_getElem? (i := 1) rfl)) dX8_made_51 ?_
    refine lv_lxor hx hb dX8_made_54 ?_
    cases h
    exact z_lretr S hQ hr dX8_made_55
  replace h := if_f hs3 h
  refine lv_tableOut (tgt := 56) hx hb dX8_made_1 (tb_out (fun j h1 h2 => ?_)) (by decide) ?_
  · rcases (show j = 0 ∨ j = 1 ∨ j = 2 ∨ j = 3 by omega) with rfl | rfl | rfl | rfl
    · exact fun he => hs0 (he.trans (by decide))
    · exact fun he => hs1 (he.trans (by decide))
    · exact fun he => hs2 (he.trans (by decide))
    · exact fun he => hs3 (he.trans (by decide))
  refine lv_lload_n hx hb dX8_made_56 rfl (lv_at hl 1 rfl) ?_
  refine lv_ldc2 (v := (-1 : Int64)) hx hb S.1.2.2.2.1 (hts (.constantLong RX8 51 (-1)) (List.mem_of_getElem? (i := 1) rfl)) dX8_made_57 ?_
  refine lv_lxor hx hb dX8_made_60 ?_
  cases h
  exact z_lretr S hQ hr dX8_made_61
abbrev rmX8_lowLater : Room := { frames := 0, cells := 0, slots := 0, locals := 0 }
theorem dv_X8_lowLater : yX8_lowLater.cls = RX8 ∧ yX8_lowLater.cls ≠ "java/lang/invoke/MethodHandle" ∧ yX8_lowLater.cls ≠ "java/lang/invoke/VarHandle" ∧ (parseMethodDescriptor yX8_lowLater.desc).map (fun d => d.parameters.length) = some 2 := by decide +kernel
noncomputable def f_X8_lowLater (N : Nat) (y1 : Int32) (y2 : Int32) (k_low : (Nat → Int64)) (k_before : (Nat → Int64)) : Option (Int64) :=
  grd (inb y1 18) <| grd (inb y1 18) <| some ((((k_low y1.toNatClampNeg) <<< (y2.toInt64 &&& 63)) ||| (((k_before y1.toNatClampNeg).toUInt64 >>> (((64 : Int32) - y2).toInt64.toUInt64 &&& Int64.toUInt64 63)).toInt64)))
set_option maxHeartbeats 4000000 in
set_option maxRecDepth 100000 in
theorem c_X8_lowLater (l : Launch) (D : va_G) (cI cJ cZ cS : ClassId) (sz N : Nat) (a_this a_low a_before a_after a_high : Nat) (k_low : (Nat → Int64)) (k_before : (Nat → Int64)) (y1 : Int32) (y2 : Int32) (rr : Int64) (hf : f_X8_lowLater N y1 y2 k_low k_before = some (rr)) : MetLr l yX8_lowLater wsX8_lowLater rmX8_lowLater D (tyA cI cJ cZ cS) [(a_this, .inr (8, [.ref a_before, .ref a_after, .ref a_low, .ref a_high])), (a_low, .inl (cJ, 18, .inr (.inl k_low))), (a_before, .inl (cJ, 18, .inr (.inl k_before)))] sz [.ref a_this, .int y1, .int y2] rr := by
  refine entLr (cc := cX8_lowLater) (maxL := 3) (own := RX8) (by decide) rfl rfl (Nat.le_of_ble_eq_true rfl) ?_
  intro p e s m args below meth c A ls Q S hr hw hl hQ
  have hx := S.1.1
  have hb := S.1.2.1
  have hts := S.1.2.2.2.2
  have hl : lv_has ls 3 [(0, .ref a_this), (1, .int y1), (2, .int y2)] := hl
  have hinX8 : ∀ w ∈ u_ws RX8 TX8 4, w ∈ wsX8_lowLater := (fun _ h => List.mem_cons_of_mem _ (List.mem_append_right _ h))
  have F9 : FLk s args wsX8_lowLater RX8 9 RX8 TX8 4 8 0 := ⟨hinX8, rfl, by decide, hts (.fieldLink RX8 9 "SlowPaths$Waves" "before" "[J") (List.mem_of_getElem? (i := 2) rfl)⟩
  have F18 : FLk s args wsX8_lowLater RX8 18 RX8 TX8 4 8 2 := ⟨hinX8, rfl, by decide, hts (.fieldLink RX8 18 "SlowPaths$Waves" "low" "[J") (List.mem_of_getElem? (i := 1) rfl)⟩
  have h := hf
  rw [f_X8_lowLater] at h
  refine lv_aload_n hx hb dX8_lowLater_0 rfl (lv_at hl 0 rfl) ?_
  refine z_get S hw F18 0 rfl rfl dX8_lowLater_1 ?_
  refine lv_iload_n hx hb dX8_lowLater_4 rfl (lv_at hl 1 rfl) ?_
  obtain ⟨hg, h⟩ := grd_el h
  refine z_lald S hw 1 1 rfl rfl hg dX8_lowLater_5 ?_
  refine lv_iload_n hx hb dX8_lowLater_6 rfl (lv_at hl 2 rfl) ?_
  refine lv_lshl hx hb dX8_lowLater_7 rfl ?_
  refine lv_aload_n hx hb dX8_lowLater_8 rfl (lv_at hl 0 rfl) ?_
  refine z_get S hw F9 0 rfl rfl dX8_lowLater_9 ?_
  refine lv_iload_n hx hb dX8_lowLater_12 rfl (lv_at hl 1 rfl) ?_
  obtain ⟨hg, h⟩ := grd_el h
  refine z_lald S hw 2 1 rfl rfl hg dX8_lowLater_13 ?_
  refine lv_bipush (v := (64 : Int32)) hx hb dX8_lowLater_14 (by decide) ?_
  refine lv_iload_n hx hb dX8_lowLater_16 rfl (lv_at hl 2 rfl) ?_
  refine lv_isub hx hb dX8_lowLater_17 ?_
  refine lv_lushr hx hb dX8_lowLater_18 rfl ?_
  refine lv_lor hx hb dX8_lowLater_19 ?_
  cases h
  exact z_lretr S hQ hr dX8_lowLater_20
abbrev rmX8_highLater : Room := { frames := 0, cells := 0, slots := 0, locals := 0 }
theorem dv_X8_highLater : yX8_highLater.cls = RX8 ∧ yX8_highLater.cls ≠ "java/lang/invoke/MethodHandle" ∧ yX8_highLater.cls ≠ "java/lang/invoke/VarHandle" ∧ (parseMethodDescriptor yX8_highLater.desc).map (fun d => d.parameters.length) = some 2 := by decide +kernel
noncomputable def f_X8_highLater (N : Nat) (y1 : Int32) (y2 : Int32) (k_high : (Nat → Int64)) (k_low : (Nat → Int64)) : Option (Int64) :=
  grd (inb y1 18) <| grd (inb y1 18) <| some ((((k_high y1.toNatClampNeg) <<< (y2.toInt64 &&& 63)) ||| (((k_low y1.toNatClampNeg).toUInt64 >>> (((64 : Int32) - y2).toInt64.toUInt64 &&& Int64.toUInt64 63)).toInt64)))
set_option maxHeartbeats 4000000 in
set_option maxRecDepth 100000 in
theorem c_X8_highLater (l : Launch) (D : va_G) (cI cJ cZ cS : ClassId) (sz N : Nat) (a_this a_high a_low a_before a_after : Nat) (k_high : (Nat → Int64)) (k_low : (Nat → Int64)) (y1 : Int32) (y2 : Int32) (rr : Int64) (hf : f_X8_highLater N y1 y2 k_high k_low = some (rr)) : MetLr l yX8_highLater wsX8_highLater rmX8_highLater D (tyA cI cJ cZ cS) [(a_this, .inr (8, [.ref a_before, .ref a_after, .ref a_low, .ref a_high])), (a_high, .inl (cJ, 18, .inr (.inl k_high))), (a_low, .inl (cJ, 18, .inr (.inl k_low)))] sz [.ref a_this, .int y1, .int y2] rr := by
  refine entLr (cc := cX8_highLater) (maxL := 3) (own := RX8) (by decide) rfl rfl (Nat.le_of_ble_eq_true rfl) ?_
  intro p e s m args below meth c A ls Q S hr hw hl hQ
  have hx := S.1.1
  have hb := S.1.2.1
  have hts := S.1.2.2.2.2
  have hl : lv_has ls 3 [(0, .ref a_this), (1, .int y1), (2, .int y2)] := hl
  have hinX8 : ∀ w ∈ u_ws RX8 TX8 4, w ∈ wsX8_highLater := (fun _ h => List.mem_cons_of_mem _ (List.mem_append_right _ h))
  have F18 : FLk s args wsX8_highLater RX8 18 RX8 TX8 4 8 2 := ⟨hinX8, rfl, by decide, hts (.fieldLink RX8 18 "SlowPaths$Waves" "low" "[J") (List.mem_of_getElem? (i := 2) rfl)⟩
  have F21 : FLk s args wsX8_highLater RX8 21 RX8 TX8 4 8 3 := ⟨hinX8, rfl, by decide, hts (.fieldLink RX8 21 "SlowPaths$Waves" "high" "[J") (List.mem_of_getElem? (i := 1) rfl)⟩
  have h := hf
  rw [f_X8_highLater] at h
  refine lv_aload_n hx hb dX8_highLater_0 rfl (lv_at hl 0 rfl) ?_
  refine z_get S hw F21 0 rfl rfl dX8_highLater_1 ?_
  refine lv_iload_n hx hb dX8_highLater_4 rfl (lv_at hl 1 rfl) ?_
  obtain ⟨hg, h⟩ := grd_el h
  refine z_lald S hw 1 1 rfl rfl hg dX8_highLater_5 ?_
  refine lv_iload_n hx hb dX8_highLater_6 rfl (lv_at hl 2 rfl) ?_
  refine lv_lshl hx hb dX8_highLater_7 rfl ?_
  refine lv_aload_n hx hb dX8_highLater_8 rfl (lv_at hl 0 rfl) ?_
  refine z_get S hw F18 0 rfl rfl dX8_highLater_9 ?_
  refine lv_iload_n hx hb dX8_highLater_12 rfl (lv_at hl 1 rfl) ?_
  obtain ⟨hg, h⟩ := grd_el h
  refine z_lald S hw 2 1 rfl rfl hg dX8_highLater_13 ?_
  refine lv_bipush (v := (64 : Int32)) hx hb dX8_highLater_14 (by decide) ?_
  refine lv_iload_n hx hb dX8_highLater_16 rfl (lv_at hl 2 rfl) ?_
  refine lv_isub hx hb dX8_highLater_17 ?_
  refine lv_lushr hx hb dX8_highLater_18 rfl ?_
  refine lv_lor hx hb dX8_highLater_19 ?_
  cases h
  exact z_lretr S hQ hr dX8_highLater_20
abbrev rmX8_run : Room := { frames := 1, cells := 0, slots := 0, locals := 24 }
theorem dv_X8_run : yX8_run.cls = RX8 ∧ yX8_run.cls ≠ "java/lang/invoke/MethodHandle" ∧ yX8_run.cls ≠ "java/lang/invoke/VarHandle" ∧ (parseMethodDescriptor yX8_run.desc).map (fun d => d.parameters.length) = some 4 := by decide +kernel
noncomputable def f_X8_run_L83 (N : Nat) (i_p1_gates : Int32) (k_p2 : (Nat → Int32)) (k_p3 : (Nat → Int32)) (k_p1_lefts : (Nat → Int32)) (k_p1_rights : (Nat → Int32)) (j258_1 : (Nat → Int64) → (Nat → Int64) → (Nat → Int64) → (Nat → Int64) → Option ((Nat → Int64) × (Nat → Int64) × (Nat → Int64) × (Nat → Int64))) : Nat → Int32 → (Nat → Int64) → (Nat → Int64) → (Nat → Int64) → (Nat → Int64) → Option ((Nat → Int64) × (Nat → Int64) × (Nat → Int64) × (Nat → Int64))
  | 0, _, _, _, _, _ => none
  | n_83 + 1, x5_9, k_before_10, k_after_11, k_low_12, k_high_13 =>
    (if i_p1_gates ≤ x5_9 then (j258_1 k_before_10 k_after_11 k_low_12 k_high_13) else (grd (inb x5_9 8) <| bnd ((k_p1_lefts x5_9.toNatClampNeg)) fun (x6_14 : Int32) => grd (inb x5_9 8) <| bnd (fun (t_15 : Int32) => (bnd (((10 : Int32) + x5_9)) fun (x8_16 : Int32) => grd (inb x5_9 8) <| bnd ((k_p3 x5_9.toNatClampNeg)) fun (x9_17 : Int32) => grd (inb x5_9 8) <| grd (inb x6_14 18) <| grd (inb t_15 18) <| obd1 (f_X8_made N (k_p2 x5_9.toNatClampNeg) (k_before_10 x6_14.toNatClampNeg) (k_before_10 t_15.toNatClampNeg)) fun (r_18 : Int64) => grd (inb x8_16 18) <| bnd (vp_updL k_before_10 x8_16.toNatClampNeg r_18) fun (k_before_19 : (Nat → Int64)) => grd (inb x5_9 8) <| grd (inb x6_14 18) <| grd (inb t_15 18) <| obd1 (f_X8_made N (k_p2 x5_9.toNatClampNeg) (k_after_11 x6_14.toNatClampNeg) (k_after_11 t_15.toNatClampNeg)) fun (r_20 : Int64) => grd (inb x8_16 18) <| bnd (vp_updL k_after_11 x8_16.toNatClampNeg r_20) fun (k_after_21 : (Nat → Int64)) => grd (inb x5_9 8) <| obd1 (f_X8_lowLater N x6_14 x9_17 k_low_12 k_before_19) fun (r_22 : Int64) => obd1 (f_X8_lowLater N t_15 x9_17 k_low_12 k_before_19) fun (r_23 : Int64) => obd1 (f_X8_made N (k_p2 x5_9.toNatClampNeg) r_22 r_23) fun (r_24 : Int64) => grd (inb x8_16 18) <| bnd (vp_updL k_low_12 x8_16.toNatClampNeg r_24) fun (k_low_25 : (Nat → Int64)) => grd (inb x5_9 8) <| obd1 (f_X8_highLater N x6_14 x9_17 k_high_13 k_low_25) fun (r_26 : Int64) => obd1 (f_X8_highLater N t_15 x9_17 k_high_13 k_low_25) fun (r_27 : Int64) => obd1 (f_X8_made N (k_p2 x5_9.toNatClampNeg) r_26 r_27) fun (r_28 : Int64) => grd (inb x8_16 18) <| bnd (vp_updL k_high_13 x8_16.toNatClampNeg r_28) fun (k_high_29 : (Nat → Int64)) => bnd (x5_9 + (1 : Int32)) fun (x5_30 : Int32) => f_X8_run_L83 N i_p1_gates k_p2 k_p3 k_p1_lefts k_p1_rights j258_1 n_83 x5_30 k_before_19 k_after_21 k_low_25 k_high_29)) fun (j121_1 : Int32 → Option ((Nat → Int64) × (Nat → Int64) × (Nat → Int64) × (Nat → Int64))) => (if (k_p2 x5_9.toNatClampNeg) = (4 : Int32) then (j121_1 x6_14) else (grd (inb x5_9 8) <| j121_1 ((k_p1_rights x5_9.toNatClampNeg))))))
noncomputable def f_X8_run_L3 (N : Nat) (y4 : Int32) (i_p1_inputs : Int32) (j80_1 : (Nat → Int64) → (Nat → Int64) → (Nat → Int64) → (Nat → Int64) → Option ((Nat → Int64) × (Nat → Int64) × (Nat → Int64) × (Nat → Int64))) : Nat → Int32 → (Nat → Int64) → (Nat → Int64) → (Nat → Int64) → (Nat → Int64) → Option ((Nat → Int64) × (Nat → Int64) × (Nat → Int64) × (Nat → Int64))
  | 0, _, _, _, _, _ => none
  | n_3 + 1, x5_31, k_before_32, k_after_33, k_low_34, k_high_35 =>
    (if i_p1_inputs ≤ x5_31 then (j80_1 k_before_32 k_after_33 k_low_34 k_high_35) else (grd (inb x5_31 18) <| bnd (vp_updL k_before_32 x5_31.toNatClampNeg (-(((y4 >>> (((4 : Int32) + x5_31) &&& 31)) &&& (1 : Int32)).toInt64))) fun (k_before_36 : (Nat → Int64)) => grd (inb x5_31 18) <| bnd (vp_updL k_after_33 x5_31.toNatClampNeg (-(((y4 >>> (x5_31 &&& 31)) &&& (1 : Int32)).toInt64))) fun (k_after_37 : (Nat → Int64)) => grd (inb x5_31 18) <| grd (inb x5_31 18) <| bnd (vp_updL k_low_34 x5_31.toNatClampNeg (k_after_37 x5_31.toNatClampNeg)) fun (k_low_38 : (Nat → Int64)) => grd (inb x5_31 18) <| grd (inb x5_31 18) <| bnd (vp_updL k_high_35 x5_31.toNatClampNeg (k_after_37 x5_31.toNatClampNeg)) fun (k_high_39 : (Nat → Int64)) => bnd (x5_31 + (1 : Int32)) fun (x5_40 : Int32) => f_X8_run_L3 N y4 i_p1_inputs j80_1 n_3 x5_40 k_before_36 k_after_37 k_low_38 k_high_39))
noncomputable def f_X8_run (N : Nat) (y4 : Int32) (i_p1_inputs : Int32) (i_p1_gates : Int32) (k_p2 : (Nat → Int32)) (k_p3 : (Nat → Int32)) (k_p1_lefts : (Nat → Int32)) (k_p1_rights : (Nat → Int32)) (k_before : (Nat → Int64)) (k_after : (Nat → Int64)) (k_low : (Nat → Int64)) (k_high : (Nat → Int64)) : Option ((Nat → Int64) × (Nat → Int64) × (Nat → Int64) × (Nat → Int64)) :=
  bnd (fun (k_before_1 : (Nat → Int64)) (k_after_2 : (Nat → Int64)) (k_low_3 : (Nat → Int64)) (k_high_4 : (Nat → Int64)) => (bnd (fun (k_before_5 : (Nat → Int64)) (k_after_6 : (Nat → Int64)) (k_low_7 : (Nat → Int64)) (k_high_8 : (Nat → Int64)) => (some (k_before_5, k_after_6, k_low_7, k_high_8))) fun (j258_1 : (Nat → Int64) → (Nat → Int64) → (Nat → Int64) → (Nat → Int64) → Option ((Nat → Int64) × (Nat → Int64) × (Nat → Int64) × (Nat → Int64))) => f_X8_run_L83 N i_p1_gates k_p2 k_p3 k_p1_lefts k_p1_rights j258_1 N ((0 : Int32)) k_before_1 k_after_2 k_low_3 k_high_4)) fun (j80_1 : (Nat → Int64) → (Nat → Int64) → (Nat → Int64) → (Nat → Int64) → Option ((Nat → Int64) × (Nat → Int64) × (Nat → Int64) × (Nat → Int64))) => f_X8_run_L3 N y4 i_p1_inputs j80_1 N ((0 : Int32)) k_before k_after k_low k_high
set_option maxHeartbeats 4000000 in
set_option maxRecDepth 100000 in
theorem c_X8_run (l : Launch) (D : va_G) (cI cJ cZ cS : ClassId) (sz N : Nat) (a_p1 a_p2 a_p3 a_this a_p1_lefts a_p1_rights a_before a_after a_low a_high a_p1_told a_p1_nexts a_p1_starts a_p1_sizes a_p1_steps a_p1_links : Nat) (i_p1_inputs : Int32) (i_p1_gates : Int32) (i_p1_paths : Int32) (k_p2 : (Nat → Int32)) (k_p3 : (Nat → Int32)) (k_p1_lefts : (Nat → Int32)) (k_p1_rights : (Nat → Int32)) (k_before : (Nat → Int64)) (k_after : (Nat → Int64)) (k_low : (Nat → Int64)) (k_high : (Nat → Int64)) (y4 : Int32) (o_before : (Nat → Int64)) (o_after : (Nat → Int64)) (o_low : (Nat → Int64)) (o_high : (Nat → Int64)) (hf : f_X8_run N y4 i_p1_inputs i_p1_gates k_p2 k_p3 k_p1_lefts k_p1_rights k_before k_after k_low k_high = some (o_before, o_after, o_low, o_high)) : MetV l yX8_run wsX8_run rmX8_run D (tyA cI cJ cZ cS) [(a_p1, .inr (2, [.int i_p1_inputs, .int i_p1_gates, .int i_p1_paths, .ref a_p1_told, .ref a_p1_lefts, .ref a_p1_rights, .ref a_p1_nexts, .ref a_p1_starts, .ref a_p1_sizes, .ref a_p1_steps, .ref a_p1_links])), (a_p2, .inl (cI, 8, .inl k_p2)), (a_p3, .inl (cI, 8, .inl k_p3)), (a_this, .inr (8, [.ref a_before, .ref a_after, .ref a_low, .ref a_high])), (a_p1_lefts, .inl (cI, 8, .inl k_p1_lefts)), (a_p1_rights, .inl (cI, 8, .inl k_p1_rights)), (a_before, .inl (cJ, 18, .inr (.inl k_before))), (a_after, .inl (cJ, 18, .inr (.inl k_after))), (a_low, .inl (cJ, 18, .inr (.inl k_low))), (a_high, .inl (cJ, 18, .inr (.inl k_high)))] sz [.ref a_this, .ref a_p1, .ref a_p2, .ref a_p3, .int y4] [(a_p1, .inr (2, [.int i_p1_inputs, .int i_p1_gates, .int i_p1_paths, .ref a_p1_told, .ref a_p1_lefts, .ref a_p1_rights, .ref a_p1_nexts, .ref a_p1_starts, .ref a_p1_sizes, .ref a_p1_steps, .ref a_p1_links])), (a_p2, .inl (cI, 8, .inl k_p2)), (a_p3, .inl (cI, 8, .inl k_p3)), (a_this, .inr (8, [.ref a_before, .ref a_after, .ref a_low, .ref a_high])), (a_p1_lefts, .inl (cI, 8, .inl k_p1_lefts)), (a_p1_rights, .inl (cI, 8, .inl k_p1_rights)), (a_before, .inl (cJ, 18, .inr (.inl o_before))), (a_after, .inl (cJ, 18, .inr (.inl o_after))), (a_low, .inl (cJ, 18, .inr (.inl o_low))), (a_high, .inl (cJ, 18, .inr (.inl o_high)))] := by
  refine entV (cc := cX8_run) (maxL := 10) (own := RX8) (by decide) rfl rfl (Nat.le_of_ble_eq_true rfl) ?_
  intro p e s m args below meth c A ls Q H locs S hr hw hl hQ
  have hx := S.1.1
  have hb := S.1.2.1
  have hts := S.1.2.2.2.2
  have hl : lv_has ls 10 [(0, .ref a_this), (1, .ref a_p1), (2, .ref a_p2), (3, .ref a_p3), (4, .int y4)] := hl
  have hinX8 : ∀ w ∈ u_ws RX8 TX8 4, w ∈ wsX8_run := (fun _ h => List.mem_cons_of_mem _ (List.mem_append_right _ h))
  have F9 : FLk s args wsX8_run RX8 9 RX8 TX8 4 8 0 := ⟨hinX8, rfl, by decide, hts (.fieldLink RX8 9 "SlowPaths$Waves" "before" "[J") (List.mem_of_getElem? (i := 2) rfl)⟩
  have F15 : FLk s args wsX8_run RX8 15 RX8 TX8 4 8 1 := ⟨hinX8, rfl, by decide, hts (.fieldLink RX8 15 "SlowPaths$Waves" "after" "[J") (List.mem_of_getElem? (i := 3) rfl)⟩
  have F18 : FLk s args wsX8_run RX8 18 RX8 TX8 4 8 2 := ⟨hinX8, rfl, by decide, hts (.fieldLink RX8 18 "SlowPaths$Waves" "low" "[J") (List.mem_of_getElem? (i := 4) rfl)⟩
  have F21 : FLk s args wsX8_run RX8 21 RX8 TX8 4 8 3 := ⟨hinX8, rfl, by decide, hts (.fieldLink RX8 21 "SlowPaths$Waves" "high" "[J") (List.mem_of_getElem? (i := 5) rfl)⟩
  have hinX2 : ∀ w ∈ u_ws RX2 TX2 11, w ∈ wsX8_run := (fun _ h => List.mem_cons_of_mem _ (List.mem_append_left _ (List.mem_append_right _ h)))
  have F24 : FLk s args wsX8_run RX8 24 RX2 TX2 11 2 0 := ⟨hinX2, rfl, by decide, hts (.fieldLink RX8 24 "SlowPaths$Net" "inputs" "I") (List.mem_of_getElem? (i := 1) rfl)⟩
  have F30 : FLk s args wsX8_run RX8 30 RX2 TX2 11 2 1 := ⟨hinX2, rfl, by decide, hts (.fieldLink RX8 30 "SlowPaths$Net" "gates" "I") (List.mem_of_getElem? (i := 6) rfl)⟩
  have F33 : FLk s args wsX8_run RX8 33 RX2 TX2 11 2 4 := ⟨hinX2, rfl, by decide, hts (.fieldLink RX8 33 "SlowPaths$Net" "lefts" "[I") (List.mem_of_getElem? (i := 7) rfl)⟩
  have F37 : FLk s args wsX8_run RX8 37 RX2 TX2 11 2 5 := ⟨hinX2, rfl, by decide, hts (.fieldLink RX8 37 "SlowPaths$Net" "rights" "[I") (List.mem_of_getElem? (i := 8) rfl)⟩
  have h := hf
  rw [f_X8_run] at h
  refine lv_iconst (v := (0 : Int32)) hx hb dX8_run_0 (by decide) ?_
  refine lv_istore (lv' := [(5, .int (0 : Int32)), (0, .ref a_this), (1, .ref a_p1), (2, .ref a_p2), (3, .ref a_p3), (4, .int y4)]) hx hb dX8_run_1 hl (by decide) rfl (fun ls hl => ?_)
  obtain ⟨j80_1, ej80_1, h⟩ := bnd_ex h
  have hj80_1 : ∀ (k_before_1 : (Nat → Int64)) (k_after_2 : (Nat → Int64)) (k_low_3 : (Nat → Int64)) (k_high_4 : (Nat → Int64)) (H : Heap) (locs : List Loc) (ls : Array Slot), j80_1 k_before_1 k_after_2 k_low_3 k_high_4 = some (o_before, o_after, o_low, o_high) → Wd D (tyA cI cJ cZ cS) A s [(a_p1, .inr (2, [.int i_p1_inputs, .int i_p1_gates, .int i_p1_paths, .ref a_p1_told, .ref a_p1_lefts, .ref a_p1_rights, .ref a_p1_nexts, .ref a_p1_starts, .ref a_p1_sizes, .ref a_p1_steps, .ref a_p1_links])), (a_p2, .inl (cI, 8, .inl k_p2)), (a_p3, .inl (cI, 8, .inl k_p3)), (a_this, .inr (8, [.ref a_before, .ref a_after, .ref a_low, .ref a_high])), (a_p1_lefts, .inl (cI, 8, .inl k_p1_lefts)), (a_p1_rights, .inl (cI, 8, .inl k_p1_rights)), (a_before, .inl (cJ, 18, .inr (.inl k_before_1))), (a_after, .inl (cJ, 18, .inr (.inl k_after_2))), (a_low, .inl (cJ, 18, .inr (.inl k_low_3))), (a_high, .inl (cJ, 18, .inr (.inl k_high_4)))] H locs → lv_has ls 10 [(0, .ref a_this), (1, .ref a_p1), (2, .ref a_p2), (3, .ref a_p3)] → W p l e rmX8_run s m args below meth c H locs 0 0 Q (F0 m 80 ls []) := by
    intro k_before_1 k_after_2 k_low_3 k_high_4 H locs ls h hw hl
    replace h := ap4 ej80_1 h
    refine lv_iconst (v := (0 : Int32)) hx hb dX8_run_80 (by decide) ?_
    refine lv_istore (lv' := [(5, .int (0 : Int32)), (0, .ref a_this), (1, .ref a_p1), (2, .ref a_p2), (3, .ref a_p3)]) hx hb dX8_run_81 hl (by decide) rfl (fun ls hl => ?_)
    obtain ⟨j258_1, ej258_1, h⟩ := bnd_ex h
    have hj258_1 : ∀ (k_before_5 : (Nat → Int64)) (k_after_6 : (Nat → Int64)) (k_low_7 : (Nat → Int64)) (k_high_8 : (Nat → Int64)) (H : Heap) (locs : List Loc) (ls : Array Slot), j258_1 k_before_5 k_after_6 k_low_7 k_high_8 = some (o_before, o_after, o_low, o_high) → Wd D (tyA cI cJ cZ cS) A s [(a_p1, .inr (2, [.int i_p1_inputs, .int i_p1_gates, .int i_p1_paths, .ref a_p1_told, .ref a_p1_lefts, .ref a_p1_rights, .ref a_p1_nexts, .ref a_p1_starts, .ref a_p1_sizes, .ref a_p1_steps, .ref a_p1_links])), (a_p2, .inl (cI, 8, .inl k_p2)), (a_p3, .inl (cI, 8, .inl k_p3)), (a_this, .inr (8, [.ref a_before, .ref a_after, .ref a_low, .ref a_high])), (a_p1_lefts, .inl (cI, 8, .inl k_p1_lefts)), (a_p1_rights, .inl (cI, 8, .inl k_p1_rights)), (a_before, .inl (cJ, 18, .inr (.inl k_before_5))), (a_after, .inl (cJ, 18, .inr (.inl k_after_6))), (a_low, .inl (cJ, 18, .inr (.inl k_low_7))), (a_high, .inl (cJ, 18, .inr (.inl k_high_8)))] H locs → lv_has ls 10 [] → W p l e rmX8_run s m args below meth c H locs 0 0 Q (F0 m 258 ls []) := by
      intro k_before_5 k_after_6 k_low_7 k_high_8 H locs ls h hw hl
      replace h := ap4 ej258_1 h
      cases h
      exact z_vret S hQ hr hw [0, 1, 2, 3, 4, 5, 6, 7, 8, 9] rfl rfl dX8_run_258
    have hL83_1 : ∀ (nf : Nat) (x5_9 : Int32) (k_before_10 : (Nat → Int64)) (k_after_11 : (Nat → Int64)) (k_low_12 : (Nat → Int64)) (k_high_13 : (Nat → Int64)) (H : Heap) (locs : List Loc) (ls : Array Slot), f_X8_run_L83 N i_p1_gates k_p2 k_p3 k_p1_lefts k_p1_rights j258_1 nf x5_9 k_before_10 k_after_11 k_low_12 k_high_13 = some (o_before, o_after, o_low, o_high) → Wd D (tyA cI cJ cZ cS) A s [(a_p1, .inr (2, [.int i_p1_inputs, .int i_p1_gates, .int i_p1_paths, .ref a_p1_told, .ref a_p1_lefts, .ref a_p1_rights, .ref a_p1_nexts, .ref a_p1_starts, .ref a_p1_sizes, .ref a_p1_steps, .ref a_p1_links])), (a_p2, .inl (cI, 8, .inl k_p2)), (a_p3, .inl (cI, 8, .inl k_p3)), (a_this, .inr (8, [.ref a_before, .ref a_after, .ref a_low, .ref a_high])), (a_p1_lefts, .inl (cI, 8, .inl k_p1_lefts)), (a_p1_rights, .inl (cI, 8, .inl k_p1_rights)), (a_before, .inl (cJ, 18, .inr (.inl k_before_10))), (a_after, .inl (cJ, 18, .inr (.inl k_after_11))), (a_low, .inl (cJ, 18, .inr (.inl k_low_12))), (a_high, .inl (cJ, 18, .inr (.inl k_high_13)))] H locs → lv_has ls 10 [(0, .ref a_this), (1, .ref a_p1), (2, .ref a_p2), (3, .ref a_p3), (5, .int x5_9)] → W p l e rmX8_run s m args below meth c H locs 0 0 Q (F0 m 83 ls []) := by
      intro nf
      induction nf with
      | zero =>
        intro x5_9 k_before_10 k_after_11 k_low_12 k_high_13 H locs ls h
        rw [f_X8_run_L83] at h
        cases h
      | succ n_83 ih_83 =>
        intro x5_9 k_before_10 k_after_11 k_low_12 k_high_13 H locs ls h hw hl
        rw [f_X8_run_L83] at h
        refine lv_iload hx hb dX8_run_83 (lv_at hl 4 rfl) ?_
        refine lv_aload_n hx hb dX8_run_85 rfl (lv_at hl 1 rfl) ?_
        refine z_get S hw F30 0 rfl rfl dX8_run_86 ?_
        refine lv_icmp_ge (tgt := 258) hx hb dX8_run_89 (by decide) (fun hc => ?_) (fun hc => ?_)
        · replace h := if_t hc h
          exact hj258_1 k_before_10 k_after_11 k_low_12 k_high_13 H locs ls h hw (lv_sub hl [] rfl)
        · replace h := if_f hc h
          refine lv_aload_n hx hb dX8_run_92 rfl (lv_at hl 1 rfl) ?_
          refine z_get S hw F33 0 rfl rfl dX8_run_93 ?_
          refine lv_iload hx hb dX8_run_96 (lv_at hl 4 rfl) ?_
          obtain ⟨hg, h⟩ := grd_el h
          refine z_iald S hw 4 0 rfl rfl hg dX8_run_98 ?_
          refine lv_topi (fun x6_14 ex6_14 => ?_)
          replace h := bnd_at ex6_14 h
          refine lv_istore (lv' := [(6, .int x6_14), (0, .ref a_this), (1, .ref a_p1), (2, .ref a_p2), (3, .ref a_p3), (5, .int x5_9)]) hx hb dX8_run_99 hl (by decide) rfl (fun ls hl => ?_)
          refine lv_aload_n hx hb dX8_run_101 rfl (lv_at hl 3 rfl) ?_
          refine lv_iload hx hb dX8_run_102 (lv_at hl 5 rfl) ?_
          obtain ⟨hg, h⟩ := grd_el h
          refine z_iald S hw 1 0 rfl rfl hg dX8_run_104 ?_
          refine lv_iconst (v := (4 : Int32)) hx hb dX8_run_105 (by decide) ?_
          obtain ⟨j121_1, ej121_1, h⟩ := bnd_ex h
          have hj121_1 : ∀ (t_15 : Int32) (H : Heap) (locs : List Loc) (ls : Array Slot), j121_1 t_15 = some (o_before, o_after, o_low, o_high) → Wd D (tyA cI cJ cZ cS) A s [(a_p1, .inr (2, [.int i_p1_inputs, .int i_p1_gates, .int i_p1_paths, .ref a_p1_told, .ref a_p1_lefts, .ref a_p1_rights, .ref a_p1_nexts, .ref a_p1_starts, .ref a_p1_sizes, .ref a_p1_steps, .ref a_p1_links])), (a_p2, .inl (cI, 8, .inl k_p2)), (a_p3, .inl (cI, 8, .inl k_p3)), (a_this, .inr (8, [.ref a_before, .ref a_after, .ref a_low, .ref a_high])), (a_p1_lefts, .inl (cI, 8, .inl k_p1_lefts)), (a_p1_rights, .inl (cI, 8, .inl k_p1_rights)), (a_before, .inl (cJ, 18, .inr (.inl k_before_10))), (a_after, .inl (cJ, 18, .inr (.inl k_after_11))), (a_low, .inl (cJ, 18, .inr (.inl k_low_12))), (a_high, .inl (cJ, 18, .inr (.inl k_high_13)))] H locs → lv_has ls 10 [(0, .ref a_this), (1, .ref a_p1), (2, .ref a_p2), (3, .ref a_p3), (5, .int x5_9), (6, .int x6_14)] → W p l e rmX8_run s m args below meth c H locs 0 0 Q (F0 m 121 ls [.int t_15]) := by
            intro t_15 H locs ls h hw hl
            replace h := ap1 ej121_1 h
            refine lv_istore (lv' := [(7, .int t_15), (0, .ref a_this), (1, .ref a_p1), (2, .ref a_p2), (3, .ref a_p3), (5, .int x5_9), (6, .int x6_14)]) hx hb dX8_run_121 hl (by decide) rfl (fun ls hl => ?_)
            refine lv_bipush (v := (10 : Int32)) hx hb dX8_run_123 (by decide) ?_
            refine lv_iload hx hb dX8_run_125 (lv_at hl 5 rfl) ?_
            refine lv_iadd hx hb dX8_run_127 ?_
            refine lv_topi (fun x8_16 ex8_16 => ?_)
            replace h := bnd_at ex8_16 h
            refine lv_istore (lv' := [(8, .int x8_16), (7, .int t_15), (0, .ref a_this), (1, .ref a_p1), (2, .ref a_p2), (3, .ref a_p3), (5, .int x5_9), (6, .int x6_14)]) hx hb dX8_run_128 hl (by decide) rfl (fun ls hl => ?_)
            refine lv_aload_n hx hb dX8_run_130 rfl (lv_at hl 5 rfl) ?_
            refine lv_iload hx hb dX8_run_131 (lv_at hl 6 rfl) ?_
            obtain ⟨hg, h⟩ := grd_el h
            refine z_iald S hw 2 0 rfl rfl hg dX8_run_133 ?_
            refine lv_topi (fun x9_17 ex9_17 => ?_)
            replace h := bnd_at ex9_17 h
            refine lv_istore (lv' := [(9, .int x9_17), (8, .int x8_16), (7, .int t_15), (0, .ref a_this), (1, .ref a_p1), (2, .ref a_p2), (3, .ref a_p3), (5, .int x5_9), (6, .int x6_14)]) hx hb dX8_run_134 hl (by decide) rfl (fun ls hl => ?_)
            refine lv_aload_n hx hb dX8_run_136 rfl (lv_at hl 3 rfl) ?_
            refine z_get S hw F9 3 rfl rfl dX8_run_137 ?_
            refine lv_iload hx hb dX8_run_140 (lv_at hl 1 rfl) ?_
            refine lv_aload_n hx hb dX8_run_142 rfl (lv_at hl 5 rfl) ?_
            refine lv_iload hx hb dX8_run_143 (lv_at hl 7 rfl) ?_
            obtain ⟨hg, h⟩ := grd_el h
            refine z_iald S hw 1 0 rfl rfl hg dX8_run_145 ?_
            refine lv_aload_n hx hb dX8_run_146 rfl (lv_at hl 3 rfl) ?_
            refine z_get S hw F9 3 rfl rfl dX8_run_147 ?_
            refine lv_iload hx hb dX8_run_150 (lv_at hl 8 rfl) ?_
            obtain ⟨hg, h⟩ := grd_el h
            refine z_lald S hw 6 1 rfl rfl hg dX8_run_152 ?_
            refine lv_aload_n hx hb dX8_run_153 rfl (lv_at hl 3 rfl) ?_
            refine z_get S hw F9 3 rfl rfl dX8_run_154 ?_
            refine lv_iload hx hb dX8_run_157 (lv_at hl 2 rfl) ?_
            obtain ⟨hg, h⟩ := grd_el h
            refine z_lald S hw 6 1 rfl rfl hg dX8_run_159 ?_
            obtain ⟨r_18, e160_1, h⟩ := obd1_el h
            refine zr_SL (As := [.int (k_p2 x5_9.toNatClampNeg), .long (k_before_10 x6_14.toNatClampNeg), .long (k_before_10 t_15.toNatClampNeg)]) (rest := [.int x8_16, .ref a_before]) (q0 := 0) (ci := 0) (fs := []) (qc := (RX0, TX0, 4)) S hw (c_X8_made l D cI cJ cZ cS H.size N (k_p2 x5_9.toNatClampNeg) (k_before_10 x6_14.toNatClampNeg) (k_before_10 t_15.toNatClampNeg) r_18 e160_1) (va_cwS 3 hts gX8_run_X8_made rfl rfl rfl ds_X8_made ⟨Nat.le_of_ble_eq_true rfl, Nat.le_of_ble_eq_true rfl⟩) [] rfl rfl rfl hl.1 rfl (Nat.le_of_ble_eq_true rfl) dX8_run_160 ⟨Nat.zero_le _, Nat.zero_le _⟩ ?_
            obtain ⟨hg, h⟩ := grd_el h
            obtain ⟨k_before_19, ek_before_19, h⟩ := bnd_ex h
            refine z_last S hw ek_before_19 6 1 rfl rfl hg dX8_run_163 (fun H locs hw => ?_)
            refine lv_aload_n hx hb dX8_run_164 rfl (lv_at hl 3 rfl) ?_
            refine z_get S hw F15 3 rfl rfl dX8_run_165 ?_
            refine lv_iload hx hb dX8_run_168 (lv_at hl 1 rfl) ?_
            refine lv_aload_n hx hb dX8_run_170 rfl (lv_at hl 5 rfl) ?_
            refine lv_iload hx hb dX8_run_171 (lv_at hl 7 rfl) ?_
            obtain ⟨hg, h⟩ := grd_el h
            refine z_iald S hw 1 0 rfl rfl hg dX8_run_173 ?_
            refine lv_aload_n hx hb dX8_run_174 rfl (lv_at hl 3 rfl) ?_
            refine z_get S hw F15 3 rfl rfl dX8_run_175 ?_
            refine lv_iload hx hb dX8_run_178 (lv_at hl 8 rfl) ?_
            obtain ⟨hg, h⟩ := grd_el h
            refine z_lald S hw 7 1 rfl rfl hg dX8_run_180 ?_
            refine lv_aload_n hx hb dX8_run_181 rfl (lv_at hl 3 rfl) ?_
            refine z_get S hw F15 3 rfl rfl dX8_run_182 ?_
            refine lv_iload hx hb dX8_run_185 (lv_at hl 2 rfl) ?_
            obtain ⟨hg, h⟩ := grd_el h
            refine z_lald S hw 7 1 rfl rfl hg dX8_run_187 ?_
            obtain ⟨r_20, e188_1, h⟩ := obd1_el h
            refine zr_SL (As := [.int (k_p2 x5_9.toNatClampNeg), .long (k_after_11 x6_14.toNatClampNeg), .long (k_after_11 t_15.toNatClampNeg)]) (rest := [.int x8_16, .ref a_after]) (q0 := 0) (ci := 0) (fs := []) (qc := (RX0, TX0, 4)) S hw (c_X8_made l D cI cJ cZ cS H.size N (k_p2 x5_9.toNatClampNeg) (k_after_11 x6_14.toNatClampNeg) (k_after_11 t_15.toNatClampNeg) r_20 e188_1) (va_cwS 3 hts gX8_run_X8_made rfl rfl rfl ds_X8_made ⟨Nat.le_of_ble_eq_true rfl, Nat.le_of_ble_eq_true rfl⟩) [] rfl rfl rfl hl.1 rfl (Nat.le_of_ble_eq_true rfl) dX8_run_188 ⟨Nat.zero_le _, Nat.zero_le _⟩ ?_
            obtain ⟨hg, h⟩ := grd_el h
            obtain ⟨k_after_21, ek_after_21, h⟩ := bnd_ex h
            refine z_last S hw ek_after_21 7 1 rfl rfl hg dX8_run_191 (fun H locs hw => ?_)
            refine lv_aload_n hx hb dX8_run_192 rfl (lv_at hl 3 rfl) ?_
            refine z_get S hw F18 3 rfl rfl dX8_run_193 ?_
            refine lv_iload hx hb dX8_run_196 (lv_at hl 1 rfl) ?_
            refine lv_aload_n hx hb dX8_run_198 rfl (lv_at hl 5 rfl) ?_
            refine lv_iload hx hb dX8_run_199 (lv_at hl 7 rfl) ?_
            obtain ⟨hg, h⟩ := grd_el h
            refine z_iald S hw 1 0 rfl rfl hg dX8_run_201 ?_
            refine lv_aload_n hx hb dX8_run_202 rfl (lv_at hl 3 rfl) ?_
            refine lv_iload hx hb dX8_run_203 (lv_at hl 8 rfl) ?_
            refine lv_iload hx hb dX8_run_205 (lv_at hl 0 rfl) ?_
            obtain ⟨r_22, e207_1, h⟩ := obd1_el h
            refine zr_VL (As := [.int x6_14, .int x9_17]) (rest := [.int (k_p2 x5_9.toNatClampNeg), .int x8_16, .ref a_low]) (q0 := 0) S hw (c_X8_lowLater l D cI cJ cZ cS H.size N a_this a_low a_before a_after a_high k_low_12 k_before_19 x6_14 x9_17 r_22 e207_1) (cwV 2 hts gX8_run_X8_lowLater rfl rfl rfl dv_X8_lowLater ⟨Nat.le_of_ble_eq_true rfl, Nat.le_of_ble_eq_true rfl⟩) [3, 8, 6] rfl rfl rfl rfl rfl rfl hl.1 rfl (Nat.le_of_ble_eq_true rfl) dX8_run_207 ⟨Nat.zero_le _, Nat.zero_le _⟩ ?_
            refine lv_aload_n hx hb dX8_run_210 rfl (lv_at hl 3 rfl) ?_
            refine lv_iload hx hb dX8_run_211 (lv_at hl 2 rfl) ?_
            refine lv_iload hx hb dX8_run_213 (lv_at hl 0 rfl) ?_
            obtain ⟨r_23, e215_1, h⟩ := obd1_el h
            refine zr_VL (As := [.int t_15, .int x9_17]) (rest := [.long r_22, .int (k_p2 x5_9.toNatClampNeg), .int x8_16, .ref a_low]) (q0 := 0) S hw (c_X8_lowLater l D cI cJ cZ cS H.size N a_this a_low a_before a_after a_high k_low_12 k_before_19 t_15 x9_17 r_23 e215_1) (cwV 2 hts gX8_run_X8_lowLater rfl rfl rfl dv_X8_lowLater ⟨Nat.le_of_ble_eq_true rfl, Nat.le_of_ble_eq_true rfl⟩) [3, 8, 6] rfl rfl rfl rfl rfl rfl hl.1 rfl (Nat.le_of_ble_eq_true rfl) dX8_run_215 ⟨Nat.zero_le _, Nat.zero_le _⟩ ?_
            obtain ⟨r_24, e218_1, h⟩ := obd1_el h
            refine zr_SL (As := [.int (k_p2 x5_9.toNatClampNeg), .long r_22, .long r_23]) (rest := [.int x8_16, .ref a_low]) (q0 := 0) (ci := 0) (fs := []) (qc := (RX0, TX0, 4)) S hw (c_X8_made l D cI cJ cZ cS H.size N (k_p2 x5_9.toNatClampNeg) r_22 r_23 r_24 e218_1) (va_cwS 3 hts gX8_run_X8_made rfl rfl rfl ds_X8_made ⟨Nat.le_of_ble_eq_true rfl, Nat.le_of_ble_eq_true rfl⟩) [] rfl rfl rfl hl.1 rfl (Nat.le_of_ble_eq_true rfl) dX8_run_218 ⟨Nat.zero_le _, Nat.zero_le _⟩ ?_
            obtain ⟨hg, h⟩ := grd_el h
            obtain ⟨k_low_25, ek_low_25, h⟩ := bnd_ex h
            refine z_last S hw ek_low_25 8 1 rfl rfl hg dX8_run_221 (fun H locs hw => ?_)
            refine lv_aload_n hx hb dX8_run_222 rfl (lv_at hl 3 rfl) ?_
            refine z_get S hw F21 3 rfl rfl dX8_run_223 ?_
            refine lv_iload hx hb dX8_run_226 (lv_at hl 1 rfl) ?_
            refine lv_aload_n hx hb dX8_run_228 rfl (lv_at hl 5 rfl) ?_
            refine lv_iload hx hb dX8_run_229 (lv_at hl 7 rfl) ?_
            obtain ⟨hg, h⟩ := grd_el h
            refine z_iald S hw 1 0 rfl rfl hg dX8_run_231 ?_
            refine lv_aload_n hx hb dX8_run_232 rfl (lv_at hl 3 rfl) ?_
            refine lv_iload hx hb dX8_run_233 (lv_at hl 8 rfl) ?_
            refine lv_iload hx hb dX8_run_235 (lv_at hl 0 rfl) ?_
            obtain ⟨r_26, e237_1, h⟩ := obd1_el h
            refine zr_VL (As := [.int x6_14, .int x9_17]) (rest := [.int (k_p2 x5_9.toNatClampNeg), .int x8_16, .ref a_high]) (q0 := 0) S hw (c_X8_highLater l D cI cJ cZ cS H.size N a_this a_high a_low a_before a_after k_high_13 k_low_25 x6_14 x9_17 r_26 e237_1) (cwV 2 hts gX8_run_X8_highLater rfl rfl rfl dv_X8_highLater ⟨Nat.le_of_ble_eq_true rfl, Nat.le_of_ble_eq_true rfl⟩) [3, 9, 8] rfl rfl rfl rfl rfl rfl hl.1 rfl (Nat.le_of_ble_eq_true rfl) dX8_run_237 ⟨Nat.zero_le _, Nat.zero_le _⟩ ?_
            refine lv_aload_n hx hb dX8_run_240 rfl (lv_at hl 3 rfl) ?_
            refine lv_iload hx hb dX8_run_241 (lv_at hl 2 rfl) ?_
            refine lv_iload hx hb dX8_run_243 (lv_at hl 0 rfl) ?_
            obtain ⟨r_27, e245_1, h⟩ := obd1_el h
            refine zr_VL (As := [.int t_15, .int x9_17]) (rest := [.long r_26, .int (k_p2 x5_9.toNatClampNeg), .int x8_16, .ref a_high]) (q0 := 0) S hw (c_X8_highLater l D cI cJ cZ cS H.size N a_this a_high a_low a_before a_after k_high_13 k_low_25 t_15 x9_17 r_27 e245_1) (cwV 2 hts gX8_run_X8_highLater rfl rfl rfl dv_X8_highLater ⟨Nat.le_of_ble_eq_true rfl, Nat.le_of_ble_eq_true rfl⟩) [3, 9, 8] rfl rfl rfl rfl rfl rfl hl.1 rfl (Nat.le_of_ble_eq_true rfl) dX8_run_245 ⟨Nat.zero_le _, Nat.zero_le _⟩ ?_
            obtain ⟨r_28, e248_1, h⟩ := obd1_el h
            refine zr_SL (As := [.int (k_p2 x5_9.toNatClampNeg), .long r_26, .long r_27]) (rest := [.int x8_16, .ref a_high]) (q0 := 0) (ci := 0) (fs := []) (qc := (RX0, TX0, 4)) S hw (c_X8_made l D cI cJ cZ cS H.size N (k_p2 x5_9.toNatClampNeg) r_26 r_27 r_28 e248_1) (va_cwS 3 hts gX8_run_X8_made rfl rfl rfl ds_X8_made ⟨Nat.le_of_ble_eq_true rfl, Nat.le_of_ble_eq_true rfl⟩) [] rfl rfl rfl hl.1 rfl (Nat.le_of_ble_eq_true rfl) dX8_run_248 ⟨Nat.zero_le _, Nat.zero_le _⟩ ?_
            obtain ⟨hg, h⟩ := grd_el h
            obtain ⟨k_high_29, ek_high_29, h⟩ := bnd_ex h
            refine z_last S hw ek_high_29 9 1 rfl rfl hg dX8_run_251 (fun H locs hw => ?_)
            obtain ⟨x5_30, ex5_30, h⟩ := bnd_ex h
            refine lv_iinc (v := x5_30) (lv' := [(5, .int x5_30), (9, .int x9_17), (8, .int x8_16), (7, .int t_15), (0, .ref a_this), (1, .ref a_p1), (2, .ref a_p2), (3, .ref a_p3), (6, .int x6_14)]) hx hb dX8_run_252 hl (k := 7) rfl (by rw [ex5_30]; rfl) (by decide) rfl (fun ls hl => ?_)
            refine lv_goto (tgt := 83) hx hb dX8_run_255 (by decide) ?_
            exact ih_83 x5_30 k_before_19 k_after_21 k_low_25 k_high_29 H locs ls h hw (lv_sub hl [4, 5, 6, 7, 0] rfl)
          refine lv_icmp_ne (tgt := 114) hx hb dX8_run_106 (by decide) (fun hc => ?_) (fun hc => ?_)
          · replace h := if_f hc h
            refine lv_aload_n hx hb dX8_run_114 rfl (lv_at hl 2 rfl) ?_
            refine z_get S hw F37 0 rfl rfl dX8_run_115 ?_
            refine lv_iload hx hb dX8_run_118 (lv_at hl 5 rfl) ?_
            obtain ⟨hg, h⟩ := grd_el h
            refine z_iald S hw 5 0 rfl rfl hg dX8_run_120 ?_
            exact hj121_1 ((k_p1_rights x5_9.toNatClampNeg)) H locs ls h hw (lv_sub hl [1, 2, 3, 4, 5, 0] rfl)
          · replace h := if_t hc h
            refine lv_iload hx hb dX8_run_109 (lv_at hl 0 rfl) ?_
            refine lv_goto (tgt := 121) hx hb dX8_run_111 (by decide) ?_
            exact hj121_1 x6_14 H locs ls h hw (lv_sub hl [1, 2, 3, 4, 5, 0] rfl)
    exact hL83_1 N ((0 : Int32)) k_before_1 k_after_2 k_low_3 k_high_4 H locs ls h hw (lv_sub hl [1, 2, 3, 4, 0] rfl)
  have hL3_1 : ∀ (nf : Nat) (x5_31 : Int32) (k_before_32 : (Nat → Int64)) (k_after_33 : (Nat → Int64)) (k_low_34 : (Nat → Int64)) (k_high_35 : (Nat → Int64)) (H : Heap) (locs : List Loc) (ls : Array Slot), f_X8_run_L3 N y4 i_p1_inputs j80_1 nf x5_31 k_before_32 k_after_33 k_low_34 k_high_35 = some (o_before, o_after, o_low, o_high) → Wd D (tyA cI cJ cZ cS) A s [(a_p1, .inr (2, [.int i_p1_inputs, .int i_p1_gates, .int i_p1_paths, .ref a_p1_told, .ref a_p1_lefts, .ref a_p1_rights, .ref a_p1_nexts, .ref a_p1_starts, .ref a_p1_sizes, .ref a_p1_steps, .ref a_p1_links])), (a_p2, .inl (cI, 8, .inl k_p2)), (a_p3, .inl (cI, 8, .inl k_p3)), (a_this, .inr (8, [.ref a_before, .ref a_after, .ref a_low, .ref a_high])), (a_p1_lefts, .inl (cI, 8, .inl k_p1_lefts)), (a_p1_rights, .inl (cI, 8, .inl k_p1_rights)), (a_before, .inl (cJ, 18, .inr (.inl k_before_32))), (a_after, .inl (cJ, 18, .inr (.inl k_after_33))), (a_low, .inl (cJ, 18, .inr (.inl k_low_34))), (a_high, .inl (cJ, 18, .inr (.inl k_high_35)))] H locs → lv_has ls 10 [(0, .ref a_this), (1, .ref a_p1), (2, .ref a_p2), (3, .ref a_p3), (4, .int y4), (5, .int x5_31)] → W p l e rmX8_run s m args below meth c H locs 0 0 Q (F0 m 3 ls []) := by
    intro nf
    induction nf with
    | zero =>
      intro x5_31 k_before_32 k_after_33 k_low_34 k_high_35 H locs ls h
      rw [f_X8_run_L3] at h
      cases h
    | succ n_3 ih_3 =>
      intro x5_31 k_before_32 k_after_33 k_low_34 k_high_35 H locs ls h hw hl
      rw [f_X8_run_L3] at h
      refine lv_iload hx hb dX8_run_3 (lv_at hl 5 rfl) ?_
      refine lv_aload_n hx hb dX8_run_5 rfl (lv_at hl 1 rfl) ?_
      refine z_get S hw F24 0 rfl rfl dX8_run_6 ?_
      refine lv_icmp_ge (tgt := 80) hx hb dX8_run_9 (by decide) (fun hc => ?_) (fun hc => ?_)
      · replace h := if_t hc h
        exact hj80_1 k_before_32 k_after_33 k_low_34 k_high_35 H locs ls h hw (lv_sub hl [0, 1, 2, 3] rfl)
      · replace h := if_f hc h
        refine lv_aload_n hx hb dX8_run_12 rfl (lv_at hl 0 rfl) ?_
        refine z_get S hw F9 3 rfl rfl dX8_run_13 ?_
        refine lv_iload hx hb dX8_run_16 (lv_at hl 5 rfl) ?_
        refine lv_iload hx hb dX8_run_18 (lv_at hl 4 rfl) ?_
        refine lv_iconst (v := (4 : Int32)) hx hb dX8_run_20 (by decide) ?_
        refine lv_iload hx hb dX8_run_21 (lv_at hl 5 rfl) ?_
        refine lv_iadd hx hb dX8_run_23 ?_
        refine lv_ishr hx hb dX8_run_24 ?_
        refine lv_iconst (v := (1 : Int32)) hx hb dX8_run_25 (by decide) ?_
        refine lv_iand hx hb dX8_run_26 ?_
        refine lv_i2l hx hb dX8_run_27 rfl ?_
        refine lv_lneg hx hb dX8_run_28 ?_
        obtain ⟨hg, h⟩ := grd_el h
        obtain ⟨k_before_36, ek_before_36, h⟩ := bnd_ex h
        refine z_last S hw ek_before_36 6 1 rfl rfl hg dX8_run_29 (fun H locs hw => ?_)
        refine lv_aload_n hx hb dX8_run_30 rfl (lv_at hl 0 rfl) ?_
        refine z_get S hw F15 3 rfl rfl dX8_run_31 ?_
        refine lv_iload hx hb dX8_run_34 (lv_at hl 5 rfl) ?_
        refine lv_iload hx hb dX8_run_36 (lv_at hl 4 rfl) ?_
        refine lv_iload hx hb dX8_run_38 (lv_at hl 5 rfl) ?_
        refine lv_ishr hx hb dX8_run_40 ?_
        refine lv_iconst (v := (1 : Int32)) hx hb dX8_run_41 (by decide) ?_
        refine lv_iand hx hb dX8_run_42 ?_
        refine lv_i2l hx hb dX8_run_43 rfl ?_
        refine lv_lneg hx hb dX8_run_44 ?_
        obtain ⟨hg, h⟩ := grd_el h
        obtain ⟨k_after_37, ek_after_37, h⟩ := bnd_ex h
        refine z_last S hw ek_after_37 7 1 rfl rfl hg dX8_run_45 (fun H locs hw => ?_)
        refine lv_aload_n hx hb dX8_run_46 rfl (lv_at hl 0 rfl) ?_
        refine z_get S hw F18 3 rfl rfl dX8_run_47 ?_
        refine lv_iload hx hb dX8_run_50 (lv_at hl 5 rfl) ?_
        refine lv_aload_n hx hb dX8_run_52 rfl (lv_at hl 0 rfl) ?_
        refine z_get S hw F15 3 rfl rfl dX8_run_53 ?_
        refine lv_iload hx hb dX8_run_56 (lv_at hl 5 rfl) ?_
        obtain ⟨hg, h⟩ := grd_el h
        refine z_lald S hw 7 1 rfl rfl hg dX8_run_58 ?_
        obtain ⟨hg, h⟩ := grd_el h
        obtain ⟨k_low_38, ek_low_38, h⟩ := bnd_ex h
        refine z_last S hw ek_low_38 8 1 rfl rfl hg dX8_run_59 (fun H locs hw => ?_)
        refine lv_aload_n hx hb dX8_run_60 rfl (lv_at hl 0 rfl) ?_
        refine z_get S hw F21 3 rfl rfl dX8_run_61 ?_
        refine lv_iload hx hb dX8_run_64 (lv_at hl 5 rfl) ?_
        refine lv_aload_n hx hb dX8_run_66 rfl (lv_at hl 0 rfl) ?_
        refine z_get S hw F15 3 rfl rfl dX8_run_67 ?_
        refine lv_iload hx hb dX8_run_70 (lv_at hl 5 rfl) ?_
        obtain ⟨hg, h⟩ := grd_el h
        refine z_lald S hw 7 1 rfl rfl hg dX8_run_72 ?_
        obtain ⟨hg, h⟩ := grd_el h
        obtain ⟨k_high_39, ek_high_39, h⟩ := bnd_ex h
        refine z_last S hw ek_high_39 9 1 rfl rfl hg dX8_run_73 (fun H locs hw => ?_)
        obtain ⟨x5_40, ex5_40, h⟩ := bnd_ex h
        refine lv_iinc (v := x5_40) (lv' := [(5, .int x5_40), (0, .ref a_this), (1, .ref a_p1), (2, .ref a_p2), (3, .ref a_p3), (4, .int y4)]) hx hb dX8_run_74 hl (k := 5) rfl (by rw [ex5_40]; rfl) (by decide) rfl (fun ls hl => ?_)
        refine lv_goto (tgt := 3) hx hb dX8_run_77 (by decide) ?_
        exact ih_3 x5_40 k_before_36 k_after_37 k_low_38 k_high_39 H locs ls h hw (lv_sub hl [1, 2, 3, 4, 5, 0] rfl)
  exact hL3_1 N ((0 : Int32)) k_before k_after k_low k_high H locs ls h hw (lv_sub hl [1, 2, 3, 4, 5, 0] rfl)
abbrev rmX8_at : Room := { frames := 0, cells := 0, slots := 0, locals := 0 }
theorem dv_X8_at : yX8_at.cls = RX8 ∧ yX8_at.cls ≠ "java/lang/invoke/MethodHandle" ∧ yX8_at.cls ≠ "java/lang/invoke/VarHandle" ∧ (parseMethodDescriptor yX8_at.desc).map (fun d => d.parameters.length) = some 2 := by decide +kernel
noncomputable def f_X8_at (N : Nat) (y1 : Int32) (y2 : Int32) (k_high : (Nat → Int64)) (k_low : (Nat → Int64)) : Option (Int32) :=
  bnd (fun (t_1 : Int64) => (some (((t_1 &&& (1 : Int64)).toInt32)))) fun (j28_1 : Int64 → Option (Int32)) => (if (64 : Int32) ≤ y2 then (grd (inb y1 18) <| j28_1 ((((k_high y1.toNatClampNeg).toUInt64 >>> ((y2 - (64 : Int32)).toInt64.toUInt64 &&& Int64.toUInt64 63)).toInt64))) else (grd (inb y1 18) <| j28_1 ((((k_low y1.toNatClampNeg).toUInt64 >>> (y2.toInt64.toUInt64 &&& Int64.toUInt64 63)).toInt64))))
set_option maxHeartbeats 4000000 in
set_option maxRecDepth 100000 in
theorem c_X8_at (l : Launch) (D : va_G) (cI cJ cZ cS : ClassId) (sz N : Nat) (a_this a_high a_low a_before a_after : Nat) (k_high : (Nat → Int64)) (k_low : (Nat → Int64)) (y1 : Int32) (y2 : Int32) (rr : Int32) (hf : f_X8_at N y1 y2 k_high k_low = some (rr)) : MetIr l yX8_at wsX8_at rmX8_at D (tyA cI cJ cZ cS) [(a_this, .inr (8, [.ref a_before, .ref a_after, .ref a_low, .ref a_high])), (a_high, .inl (cJ, 18, .inr (.inl k_high))), (a_low, .inl (cJ, 18, .inr (.inl k_low)))] sz [.ref a_this, .int y1, .int y2] rr := by
  refine entIr (cc := cX8_at) (maxL := 5) (own := RX8) (by decide) rfl rfl (Nat.le_of_ble_eq_true rfl) ?_
  intro p e s m args below meth c A ls Q S hr hw hl hQ
  have hx := S.1.1
  have hb := S.1.2.1
  have hts := S.1.2.2.2.2
  have hl : lv_has ls 5 [(0, .ref a_this), (1, .int y1), (2, .int y2)] := hl
  have hinX8 : ∀ w ∈ u_ws RX8 TX8 4, w ∈ wsX8_at := (fun _ h => List.mem_cons_of_mem _ (List.mem_append_right _ h))
  have F18 : FLk s args wsX8_at RX8 18 RX8 TX8 4 8 2 := ⟨hinX8, rfl, by decide, hts (.fieldLink RX8 18 "SlowPaths$Waves" "low" "[J") (List.mem_of_getElem? (i := 1) rfl)⟩
  have F21 : FLk s args wsX8_at RX8 21 RX8 TX8 4 8 3 := ⟨hinX8, rfl, by decide, hts (.fieldLink RX8 21 "SlowPaths$Waves" "high" "[J") (List.mem_of_getElem? (i := 2) rfl)⟩
  have h := hf
  rw [f_X8_at] at h
  refine lv_iload_n hx hb dX8_at_0 rfl (lv_at hl 2 rfl) ?_
  refine lv_bipush (v := (64 : Int32)) hx hb dX8_at_1 (by decide) ?_
  obtain ⟨j28_1, ej28_1, h⟩ := bnd_ex h
  have hj28_1 : ∀ (t_1 : Int64) (ls : Array Slot), j28_1 t_1 = some (rr) → lv_has ls 5 [] → W p l e rmX8_at s m args below meth c s.heap [] 0 0 Q (F0 m 28 ls [.long t_1]) := by
    intro t_1 ls h hl
    replace h := ap1 ej28_1 h
    refine lv_lstore_n (lv' := [(3, .long t_1)]) hx hb dX8_at_28 rfl hl (by decide) rfl (fun ls hl => ?_)
    refine lv_lload_n hx hb dX8_at_29 rfl (lv_at hl 0 rfl) ?_
    refine lv_lconst (v := (1 : Int64)) hx hb dX8_at_30 (by decide) ?_
    refine lv_land hx hb dX8_at_31 ?_
    refine lv_l2i hx hb dX8_at_32 rfl ?_
    cases h
    exact z_iretr S hQ hr dX8_at_33
  refine lv_icmp_ge (tgt := 17) hx hb dX8_at_3 (by decide) (fun hc => ?_) (fun hc => ?_)
  · replace h := if_t hc h
    refine lv_aload_n hx hb dX8_at_17 rfl (lv_at hl 0 rfl) ?_
    refine z_get S hw F21 0 rfl rfl dX8_at_18 ?_
    refine lv_iload_n hx hb dX8_at_21 rfl (lv_at hl 1 rfl) ?_
    obtain ⟨hg, h⟩ := grd_el h
    refine z_lald S hw 1 1 rfl rfl hg dX8_at_22 ?_
    refine lv_iload_n hx hb dX8_at_23 rfl (lv_at hl 2 rfl) ?_
    refine lv_bipush (v := (64 : Int32)) hx hb dX8_at_24 (by decide) ?_
    refine lv_isub hx hb dX8_at_26 ?_
    refine lv_lushr hx hb dX8_at_27 rfl ?_
    exact hj28_1 ((((k_high y1.toNatClampNeg).toUInt64 >>> ((y2 - (64 : Int32)).toInt64.toUInt64 &&& Int64.toUInt64 63)).toInt64)) ls h (lv_sub hl [] rfl)
  · replace h := if_f hc h
    refine lv_aload_n hx hb dX8_at_6 rfl (lv_at hl 0 rfl) ?_
    refine z_get S hw F18 0 rfl rfl dX8_at_7 ?_
    refine lv_iload_n hx hb dX8_at_10 rfl (lv_at hl 1 rfl) ?_
    obtain ⟨hg, h⟩ := grd_el h
    refine z_lald S hw 2 1 rfl rfl hg dX8_at_11 ?_
    refine lv_iload_n hx hb dX8_at_12 rfl (lv_at hl 2 rfl) ?_
    refine lv_lushr hx hb dX8_at_13 rfl ?_
    refine lv_goto (tgt := 28) hx hb dX8_at_14 (by decide) ?_
    exact hj28_1 ((((k_low y1.toNatClampNeg).toUInt64 >>> (y2.toInt64.toUInt64 &&& Int64.toUInt64 63)).toInt64)) ls h (lv_sub hl [] rfl)
abbrev rmX8_isLate : Room := { frames := 1, cells := 0, slots := 0, locals := 24 }
theorem dv_X8_isLate : yX8_isLate.cls = RX8 ∧ yX8_isLate.cls ≠ "java/lang/invoke/MethodHandle" ∧ yX8_isLate.cls ≠ "java/lang/invoke/VarHandle" ∧ (parseMethodDescriptor yX8_isLate.desc).map (fun d => d.parameters.length) = some 2 := by decide +kernel
noncomputable def f_X8_isLate (N : Nat) (y2 : Int32) (i_p1_gates : Int32) (k_high : (Nat → Int64)) (k_low : (Nat → Int64)) (k_after : (Nat → Int64)) : Option (Int32) :=
  bnd ((((10 : Int32) + i_p1_gates) - (1 : Int32))) fun (x3_1 : Int32) => obd1 (f_X8_at N x3_1 y2 k_high k_low) fun (r_2 : Int32) => grd (inb x3_1 18) <| (if r_2 = (((k_after x3_1.toNatClampNeg) &&& (1 : Int64)).toInt32) then (some ((0 : Int32))) else (some ((1 : Int32))))
set_option maxHeartbeats 4000000 in
set_option maxRecDepth 100000 in
theorem c_X8_isLate (l : Launch) (D : va_G) (cI cJ cZ cS : ClassId) (sz N : Nat) (a_p1 a_this a_high a_low a_after a_p1_told a_p1_lefts a_p1_rights a_p1_nexts a_p1_starts a_p1_sizes a_p1_steps a_p1_links a_before : Nat) (i_p1_inputs : Int32) (i_p1_gates : Int32) (i_p1_paths : Int32) (k_high : (Nat → Int64)) (k_low : (Nat → Int64)) (k_after : (Nat → Int64)) (y2 : Int32) (rr : Int32) (hf : f_X8_isLate N y2 i_p1_gates k_high k_low k_after = some (rr)) : MetIr l yX8_isLate wsX8_isLate rmX8_isLate D (tyA cI cJ cZ cS) [(a_p1, .inr (2, [.int i_p1_inputs, .int i_p1_gates, .int i_p1_paths, .ref a_p1_told, .ref a_p1_lefts, .ref a_p1_rights, .ref a_p1_nexts, .ref a_p1_starts, .ref a_p1_sizes, .ref a_p1_steps, .ref a_p1_links])), (a_this, .inr (8, [.ref a_before, .ref a_after, .ref a_low, .ref a_high])), (a_high, .inl (cJ, 18, .inr (.inl k_high))), (a_low, .inl (cJ, 18, .inr (.inl k_low))), (a_after, .inl (cJ, 18, .inr (.inl k_after)))] sz [.ref a_this, .ref a_p1, .int y2] rr := by
  refine entZr (cc := cX8_isLate) (maxL := 4) (own := RX8) (by decide) rfl rfl (Nat.le_of_ble_eq_true rfl) ?_
  intro p e s m args below meth c A ls Q S hr hw hl hQ
  have hx := S.1.1
  have hb := S.1.2.1
  have hts := S.1.2.2.2.2
  have hl : lv_has ls 4 [(0, .ref a_this), (1, .ref a_p1), (2, .int y2)] := hl
  have hinX8 : ∀ w ∈ u_ws RX8 TX8 4, w ∈ wsX8_isLate := (fun _ h => List.mem_cons_of_mem _ (List.mem_append_right _ h))
  have F15 : FLk s args wsX8_isLate RX8 15 RX8 TX8 4 8 1 := ⟨hinX8, rfl, by decide, hts (.fieldLink RX8 15 "SlowPaths$Waves" "after" "[J") (List.mem_of_getElem? (i := 2) rfl)⟩
  have hinX2 : ∀ w ∈ u_ws RX2 TX2 11, w ∈ wsX8_isLate := (fun _ h => List.mem_cons_of_mem _ (List.mem_append_left _ (List.mem_append_right _ h)))
  have F30 : FLk s args wsX8_isLate RX8 30 RX2 TX2 11 2 1 := ⟨hinX2, rfl, by decide, hts (.fieldLink RX8 30 "SlowPaths$Net" "gates" "I") (List.mem_of_getElem? (i := 1) rfl)⟩
  have h := hf
  rw [f_X8_isLate] at h
  refine lv_bipush (v := (10 : Int32)) hx hb dX8_isLate_0 (by decide) ?_
  refine lv_aload_n hx hb dX8_isLate_2 rfl (lv_at hl 1 rfl) ?_
  refine z_get S hw F30 0 rfl rfl dX8_isLate_3 ?_
  refine lv_iadd hx hb dX8_isLate_6 ?_
  refine lv_iconst (v := (1 : Int32)) hx hb dX8_isLate_7 (by decide) ?_
  refine lv_isub hx hb dX8_isLate_8 ?_
  refine lv_topi (fun x3_1 ex3_1 => ?_)
  replace h := bnd_at ex3_1 h
  refine lv_istore_n (lv' := [(3, .int x3_1), (0, .ref a_this), (1, .ref a_p1), (2, .int y2)]) hx hb dX8_isLate_9 rfl hl (by decide) rfl (fun ls hl => ?_)
  refine lv_aload_n hx hb dX8_isLate_10 rfl (lv_at hl 1 rfl) ?_
  refine lv_iload_n hx hb dX8_isLate_11 rfl (lv_at hl 0 rfl) ?_
  refine lv_iload_n hx hb dX8_isLate_12 rfl (lv_at hl 3 rfl) ?_
  obtain ⟨r_2, e13_1, h⟩ := obd1_el h
  refine zr_VI (As := [.int x3_1, .int y2]) (rest := []) (q0 := 0) S hw (c_X8_at l D cI cJ cZ cS s.heap.size N a_this a_high a_low a_before a_after k_high k_low x3_1 y2 r_2 e13_1) (cwV 2 hts gX8_isLate_X8_at rfl rfl rfl dv_X8_at ⟨Nat.le_of_ble_eq_true rfl, Nat.le_of_ble_eq_true rfl⟩) [1, 2, 3] rfl rfl rfl rfl rfl rfl hl.1 rfl (Nat.le_of_ble_eq_true rfl) dX8_isLate_13 ⟨Nat.zero_le _, Nat.zero_le _⟩ ?_
  refine lv_aload_n hx hb dX8_isLate_16 rfl (lv_at hl 1 rfl) ?_
  refine z_get S hw F15 1 rfl rfl dX8_isLate_17 ?_
  refine lv_iload_n hx hb dX8_isLate_20 rfl (lv_at hl 0 rfl) ?_
  obtain ⟨hg, h⟩ := grd_el h
  refine z_lald S hw 4 1 rfl rfl hg dX8_isLate_21 ?_
  refine lv_lconst (v := (1 : Int64)) hx hb dX8_isLate_22 (by decide) ?_
  refine lv_land hx hb dX8_isLate_23 ?_
  refine lv_l2i hx hb dX8_isLate_24 rfl ?_
  refine lv_icmp_eq (tgt := 32) hx hb dX8_isLate_25 (by decide) (fun hc => ?_) (fun hc => ?_)
  · replace h := if_t hc h
    refine lv_iconst (v := (0 : Int32)) hx hb dX8_isLate_32 (by decide) ?_
    cases h
    exact z_zretr S hQ hr rfl dX8_isLate_33
  · replace h := if_f hc h
    refine lv_iconst (v := (1 : Int32)) hx hb dX8_isLate_28 (by decide) ?_
    refine lv_goto (tgt := 33) hx hb dX8_isLate_29 (by decide) ?_
    cases h
    exact z_zretr S hQ hr rfl dX8_isLate_33
abbrev rmX9_write : Room := { frames := 0, cells := 0, slots := 0, locals := 0 }
theorem dv_X9_write : yX9_write.cls = RX9 ∧ yX9_write.cls ≠ "java/lang/invoke/MethodHandle" ∧ yX9_write.cls ≠ "java/lang/invoke/VarHandle" ∧ (parseMethodDescriptor yX9_write.desc).map (fun d => d.parameters.length) = some 1 := by decide +kernel
noncomputable def f_X9_write (N : Nat) (y1 : Int32) (i_script_size : Int32) (k_script_letters : (Nat → Int32)) : Option (Int32 × Int32 × (Nat → Int32)) :=
  (if y1 < (0 : Int32) then (some ((-2 : Int32), i_script_size, k_script_letters)) else ((if y1 ≤ (255 : Int32) then ((if i_script_size < (40 : Int32) then (grd (inb i_script_size 40) <| bnd (upd k_script_letters i_script_size.toNatClampNeg y1) fun (k_script_letters_1 : (Nat → Int32)) => bnd ((i_script_size + (1 : Int32))) fun (i_size_2 : Int32) => some (i_size_2, i_size_2, k_script_letters_1)) else (some ((-4 : Int32), i_script_size, k_script_letters)))) else (some ((-2 : Int32), i_script_size, k_script_letters)))))
set_option maxHeartbeats 4000000 in
set_option maxRecDepth 100000 in
theorem c_X9_write (l : Launch) (D : va_G) (cI cJ cZ cS : ClassId) (sz N : Nat) (a_this a_script a_script_letters a_acts a_sightings a_now a_trial a_slots a_levels a_table a_waves a_spans a_net a_draft : Nat) (i_this_lastDraw : Int64) (i_script_size : Int32) (i_script_at : Int32) (k_script_letters : (Nat → Int32)) (y1 : Int32) (rr : Int32) (o_script_size : Int32) (o_script_letters : (Nat → Int32)) (hf : f_X9_write N y1 i_script_size k_script_letters = some (rr, o_script_size, o_script_letters)) : MetI l yX9_write wsX9_write rmX9_write D (tyA cI cJ cZ cS) [(a_this, .inr (9, [.ref a_script, .ref a_acts, .ref a_sightings, .ref a_now, .ref a_trial, .ref a_slots, .ref a_levels, .ref a_table, .ref a_waves, .ref a_spans, .ref a_net, .ref a_draft, .long i_this_lastDraw])), (a_script, .inr (4, [.ref a_script_letters, .int i_script_size, .int i_script_at])), (a_script_letters, .inl (cI, 40, .inl k_script_letters))] sz [.ref a_this, .int y1] rr [(a_this, .inr (9, [.ref a_script, .ref a_acts, .ref a_sightings, .ref a_now, .ref a_trial, .ref a_slots, .ref a_levels, .ref a_table, .ref a_waves, .ref a_spans, .ref a_net, .ref a_draft, .long i_this_lastDraw])), (a_script, .inr (4, [.ref a_script_letters, .int o_script_size, .int i_script_at])), (a_script_letters, .inl (cI, 40, .inl o_script_letters))] := by
  refine entI (cc := cX9_write) (maxL := 2) (own := RX9) (by decide) rfl rfl (Nat.le_of_ble_eq_true rfl) ?_
  intro p e s m args below meth c A ls Q H locs S hr hw hl hQ
  have hx := S.1.1
  have hb := S.1.2.1
  have hts := S.1.2.2.2.2
  have hl : lv_has ls 2 [(0, .ref a_this), (1, .int y1)] := hl
  have hinX9 : ∀ w ∈ u_ws RX9 TX9 13, w ∈ wsX9_write := (fun _ h => List.mem_cons_of_mem _ (List.mem_append_left _ (List.mem_append_right _ h)))
  have F12 : FLk s args wsX9_write RX9 12 RX9 TX9 13 9 0 := ⟨hinX9, rfl, by decide, hts (.fieldLink RX9 12 "SlowPaths" "script" "LSlowPaths$Script;") (List.mem_of_getElem? (i := 1) rfl)⟩
  have hinX4 : ∀ w ∈ u_ws RX4 TX4 3, w ∈ wsX9_write := (fun _ h => List.mem_cons_of_mem _ (List.mem_append_right _ h))
  have F86 : FLk s args wsX9_write RX9 86 RX4 TX4 3 4 1 := ⟨hinX4, rfl, by decide, hts (.fieldLink RX9 86 "SlowPaths$Script" "size" "I") (List.mem_of_getElem? (i := 2) rfl)⟩
  have F90 : FLk s args wsX9_write RX9 90 RX4 TX4 3 4 0 := ⟨hinX4, rfl, by decide, hts (.fieldLink RX9 90 "SlowPaths$Script" "letters" "[I") (List.mem_of_getElem? (i := 3) rfl)⟩
  have P86 : PLk TX4 3 1 tyX4 false .int := ⟨tyX4_ok, nmX4, rfl, rfl⟩
  have h := hf
  rw [f_X9_write] at h
  refine lv_iload_n hx hb dX9_write_0 rfl (lv_at hl 1 rfl) ?_
  refine lv_if_lt (tgt := 11) hx hb dX9_write_1 (by decide) (fun hc => ?_) (fun hc => ?_)
  · replace h := if_t hc h
    refine lv_bipush (v := (-2 : Int32)) hx hb dX9_write_11 (by decide) ?_
    cases h
    exact z_iret S hQ hr hw [0, 1, 2] rfl rfl dX9_write_13
  · replace h := if_f hc h
    refine lv_iload_n hx hb dX9_write_4 rfl (lv_at hl 1 rfl) ?_
    refine lv_sipush (v := (255 : Int32)) hx hb dX9_write_5 (by decide) ?_
    refine lv_icmp_le (tgt := 14) hx hb dX9_write_8 (by decide) (fun hc => ?_) (fun hc => ?_)
    · replace h := if_t hc h
      refine lv_aload_n hx hb dX9_write_14 rfl (lv_at hl 0 rfl) ?_
      refine z_get S hw F12 0 rfl rfl dX9_write_15 ?_
      refine z_get S hw F86 1 rfl rfl dX9_write_18 ?_
      refine lv_bipush (v := (40 : Int32)) hx hb dX9_write_21 (by decide) ?_
      refine lv_icmp_lt (tgt := 29) hx hb dX9_write_23 (by decide) (fun hc => ?_) (fun hc => ?_)
      · replace h := if_t hc h
        refine lv_aload_n hx hb dX9_write_29 rfl (lv_at hl 0 rfl) ?_
        refine z_get S hw F12 0 rfl rfl dX9_write_30 ?_
        refine z_get S hw F90 1 rfl rfl dX9_write_33 ?_
        refine lv_aload_n hx hb dX9_write_36 rfl (lv_at hl 0 rfl) ?_
        refine z_get S hw F12 0 rfl rfl dX9_write_37 ?_
        refine z_get S hw F86 1 rfl rfl dX9_write_40 ?_
        refine lv_iload_n hx hb dX9_write_43 rfl (lv_at hl 1 rfl) ?_
        obtain ⟨hg, h⟩ := grd_el h
        obtain ⟨k_script_letters_1, ek_script_letters_1, h⟩ := bnd_ex h
        refine z_iast S hw ek_script_letters_1 2 0 rfl rfl hg dX9_write_44 (fun H locs hw => ?_)
        refine lv_aload_n hx hb dX9_write_45 rfl (lv_at hl 0 rfl) ?_
        refine z_get S hw F12 0 rfl rfl dX9_write_46 ?_
        refine lv_dup hx hb dX9_write_49 rfl ?_
        refine z_get S hw F86 1 rfl rfl dX9_write_50 ?_
        refine lv_iconst (v := (1 : Int32)) hx hb dX9_write_53 (by decide) ?_
        refine lv_iadd hx hb dX9_write_54 ?_
        refine lv_topi (fun i_size_2 ei_size_2 => ?_)
        replace h := bnd_at ei_size_2 h
        refine z_put S hw F86 P86 rfl rfl 1 rfl (Nat.le_of_ble_eq_true rfl) dX9_write_55 (fun H locs hw => ?_)
        refine lv_aload_n hx hb dX9_write_58 rfl (lv_at hl 0 rfl) ?_
        refine z_get S hw F12 0 rfl rfl dX9_write_59 ?_
        refine z_get S hw F86 1 rfl rfl dX9_write_62 ?_
        cases h
        exact z_iret S hQ hr hw [0, 1, 2] rfl rfl dX9_write_65
      · replace h := if_f hc h
        refine lv_bipush (v := (-4 : Int32)) hx hb dX9_write_26 (by decide) ?_
        cases h
        exact z_iret S hQ hr hw [0, 1, 2] rfl rfl dX9_write_28
    · replace h := if_f hc h
      refine lv_bipush (v := (-2 : Int32)) hx hb dX9_write_11 (by decide) ?_
      cases h
      exact z_iret S hQ hr hw [0, 1, 2] rfl rfl dX9_write_13
abbrev rmX9_wipe : Room := { frames := 0, cells := 0, slots := 0, locals := 0 }
theorem dv_X9_wipe : yX9_wipe.cls = RX9 ∧ yX9_wipe.cls ≠ "java/lang/invoke/MethodHandle" ∧ yX9_wipe.cls ≠ "java/lang/invoke/VarHandle" ∧ (parseMethodDescriptor yX9_wipe.desc).map (fun d => d.parameters.length) = some 0 := by decide +kernel
noncomputable def f_X9_wipe (N : Nat)  (i_script_size : Int32) : Option (Int32 × Int32) :=
  some (i_script_size, (0 : Int32))
set_option maxHeartbeats 4000000 in
set_option maxRecDepth 100000 in
theorem c_X9_wipe (l : Launch) (D : va_G) (cI cJ cZ cS : ClassId) (sz N : Nat) (a_this a_script a_acts a_sightings a_now a_trial a_slots a_levels a_table a_waves a_spans a_net a_draft a_script_letters : Nat) (i_this_lastDraw : Int64) (i_script_size : Int32) (i_script_at : Int32)  (rr : Int32) (o_script_size : Int32) (hf : f_X9_wipe N i_script_size = some (rr, o_script_size)) : MetI l yX9_wipe wsX9_wipe rmX9_wipe D (tyA cI cJ cZ cS) [(a_this, .inr (9, [.ref a_script, .ref a_acts, .ref a_sightings, .ref a_now, .ref a_trial, .ref a_slots, .ref a_levels, .ref a_table, .ref a_waves, .ref a_spans, .ref a_net, .ref a_draft, .long i_this_lastDraw])), (a_script, .inr (4, [.ref a_script_letters, .int i_script_size, .int i_script_at]))] sz [.ref a_this] rr [(a_this, .inr (9, [.ref a_script, .ref a_acts, .ref a_sightings, .ref a_now, .ref a_trial, .ref a_slots, .ref a_levels, .ref a_table, .ref a_waves, .ref a_spans, .ref a_net, .ref a_draft, .long i_this_lastDraw])), (a_script, .inr (4, [.ref a_script_letters, .int o_script_size, .int i_script_at]))] := by
  refine entI (cc := cX9_wipe) (maxL := 2) (own := RX9) (by decide) rfl rfl (Nat.le_of_ble_eq_true rfl) ?_
  intro p e s m args below meth c A ls Q H locs S hr hw hl hQ
  have hx := S.1.1
  have hb := S.1.2.1
  have hts := S.1.2.2.2.2
  have hl : lv_has ls 2 [(0, .ref a_this)] := hl
  have hinX9 : ∀ w ∈ u_ws RX9 TX9 13, w ∈ wsX9_wipe := (fun _ h => List.mem_cons_of_mem _ (List.mem_append_left _ (List.mem_append_right _ h)))
  have F12 : FLk s args wsX9_wipe RX9 12 RX9 TX9 13 9 0 := ⟨hinX9, rfl, by decide, hts (.fieldLink RX9 12 "SlowPaths" "script" "LSlowPaths$Script;") (List.mem_of_getElem? (i := 1) rfl)⟩
  have hinX4 : ∀ w ∈ u_ws RX4 TX4 3, w ∈ wsX9_wipe := (fun _ h => List.mem_cons_of_mem _ (List.mem_append_right _ h))
  have F86 : FLk s args wsX9_wipe RX9 86 RX4 TX4 3 4 1 := ⟨hinX4, rfl, by decide, hts (.fieldLink RX9 86 "SlowPaths$Script" "size" "I") (List.mem_of_getElem? (i := 2) rfl)⟩
  have P86 : PLk TX4 3 1 tyX4 false .int := ⟨tyX4_ok, nmX4, rfl, rfl⟩
  have h := hf
  rw [f_X9_wipe] at h
  refine lv_aload_n hx hb dX9_wipe_0 rfl (lv_at hl 0 rfl) ?_
  refine z_get S hw F12 0 rfl rfl dX9_wipe_1 ?_
  refine z_get S hw F86 1 rfl rfl dX9_wipe_4 ?_
  refine lv_istore_n (lv' := [(1, .int i_script_size), (0, .ref a_this)]) hx hb dX9_wipe_7 rfl hl (by decide) rfl (fun ls hl => ?_)
  refine lv_aload_n hx hb dX9_wipe_8 rfl (lv_at hl 1 rfl) ?_
  refine z_get S hw F12 0 rfl rfl dX9_wipe_9 ?_
  refine lv_iconst (v := (0 : Int32)) hx hb dX9_wipe_12 (by decide) ?_
  refine z_put S hw F86 P86 rfl rfl 1 rfl (Nat.le_of_ble_eq_true rfl) dX9_wipe_13 (fun H locs hw => ?_)
  refine lv_iload_n hx hb dX9_wipe_16 rfl (lv_at hl 0 rfl) ?_
  cases h
  exact z_iret S hQ hr hw [0, 1] rfl rfl dX9_wipe_17
abbrev rmX9_fault : Room := { frames := 5, cells := 0, slots := 0, locals := 113 }
theorem dv_X9_fault : yX9_fault.cls = RX9 ∧ yX9_fault.cls ≠ "java/lang/invoke/MethodHandle" ∧ yX9_fault.cls ≠ "java/lang/invoke/VarHandle" ∧ (parseMethodDescriptor yX9_fault.desc).map (fun d => d.parameters.length) = some 0 := by decide +kernel
noncomputable def f_X9_fault (N : Nat)  (i_script_size : Int32) (i_script_at : Int32) (i_draft_inputs : Int32) (i_draft_gates : Int32) (i_draft_paths : Int32) (k_script_letters : (Nat → Int32)) (k_draft_told : (Nat → Int32)) (k_draft_lefts : (Nat → Int32)) (k_draft_rights : (Nat → Int32)) (k_draft_nexts : (Nat → Int32)) : Option (Int32 × Int32 × Int32 × Int32 × Int32 × (Nat → Int32) × (Nat → Int32) × (Nat → Int32) × (Nat → Int32)) :=
  obd9 (f_X4_readInto N i_script_size i_script_at i_draft_inputs i_draft_gates i_draft_paths k_script_letters k_draft_told k_draft_lefts k_draft_rights k_draft_nexts) fun (r_1 : Int32) (i_script_at_2 : Int32) (i_draft_inputs_3 : Int32) (i_draft_gates_4 : Int32) (i_draft_paths_5 : Int32) (k_draft_told_6 : (Nat → Int32)) (k_draft_lefts_7 : (Nat → Int32)) (k_draft_rights_8 : (Nat → Int32)) (k_draft_nexts_9 : (Nat → Int32)) => some (r_1, i_script_at_2, i_draft_inputs_3, i_draft_gates_4, i_draft_paths_5, k_draft_told_6, k_draft_lefts_7, k_draft_rights_8, k_draft_nexts_9)
set_option maxHeartbeats 4000000 in
set_option maxRecDepth 100000 in
theorem c_X9_fault (l : Launch) (D : va_G) (cI cJ cZ cS : ClassId) (sz N : Nat) (a_this a_script a_draft a_script_letters a_draft_told a_draft_lefts a_draft_rights a_draft_nexts a_acts a_sightings a_now a_trial a_slots a_levels a_table a_waves a_spans a_net a_draft_starts a_draft_sizes a_draft_steps a_draft_links : Nat) (i_this_lastDraw : Int64) (i_script_size : Int32) (i_script_at : Int32) (i_draft_inputs : Int32) (i_draft_gates : Int32) (i_draft_paths : Int32) (k_script_letters : (Nat → Int32)) (k_draft_told : (Nat → Int32)) (k_draft_lefts : (Nat → Int32)) (k_draft_rights : (Nat → Int32)) (k_draft_nexts : (Nat → Int32))  (rr : Int32) (o_script_at : Int32) (o_draft_inputs : Int32) (o_draft_gates : Int32) (o_draft_paths : Int32) (o_draft_told : (Nat → Int32)) (o_draft_lefts : (Nat → Int32)) (o_draft_rights : (Nat → Int32)) (o_draft_nexts : (Nat → Int32)) (hf : f_X9_fault N i_script_size i_script_at i_draft_inputs i_draft_gates i_draft_paths k_script_letters k_draft_told k_draft_lefts k_draft_rights k_draft_nexts = some (rr, o_script_at, o_draft_inputs, o_draft_gates, o_draft_paths, o_draft_told, o_draft_lefts, o_draft_rights, o_draft_nexts)) : MetI l yX9_fault wsX9_fault rmX9_fault D (tyA cI cJ cZ cS) [(a_this, .inr (9, [.ref a_script, .ref a_acts, .ref a_sightings, .ref a_now, .ref a_trial, .ref a_slots, .ref a_levels, .ref a_table, .ref a_waves, .ref a_spans, .ref a_net, .ref a_draft, .long i_this_lastDraw])), (a_script, .inr (4, [.ref a_script_letters, .int i_script_size, .int i_script_at])), (a_draft, .inr (2, [.int i_draft_inputs, .int i_draft_gates, .int i_draft_paths, .ref a_draft_told, .ref a_draft_lefts, .ref a_draft_rights, .ref a_draft_nexts, .ref a_draft_starts, .ref a_draft_sizes, .ref a_draft_steps, .ref a_draft_links])), (a_script_letters, .inl (cI, 40, .inl k_script_letters)), (a_draft_told, .inl (cI, 8, .inl k_draft_told)), (a_draft_lefts, .inl (cI, 8, .inl k_draft_lefts)), (a_draft_rights, .inl (cI, 8, .inl k_draft_rights)), (a_draft_nexts, .inl (cI, 4, .inl k_draft_nexts))] sz [.ref a_this] rr [(a_this, .inr (9, [.ref a_script, .ref a_acts, .ref a_sightings, .ref a_now, .ref a_trial, .ref a_slots, .ref a_levels, .ref a_table, .ref a_waves, .ref a_spans, .ref a_net, .ref a_draft, .long i_this_lastDraw])), (a_script, .inr (4, [.ref a_script_letters, .int i_script_size, .int o_script_at])), (a_draft, .inr (2, [.int o_draft_inputs, .int o_draft_gates, .int o_draft_paths, .ref a_draft_told, .ref a_draft_lefts, .ref a_draft_rights, .ref a_draft_nexts, .ref a_draft_starts, .ref a_draft_sizes, .ref a_draft_steps, .ref a_draft_links])), (a_script_letters, .inl (cI, 40, .inl k_script_letters)), (a_draft_told, .inl (cI, 8, .inl o_draft_told)), (a_draft_lefts, .inl (cI, 8, .inl o_draft_lefts)), (a_draft_rights, .inl (cI, 8, .inl o_draft_rights)), (a_draft_nexts, .inl (cI, 4, .inl o_draft_nexts))] := by
  refine entI (cc := cX9_fault) (maxL := 1) (own := RX9) (by decide) rfl rfl (Nat.le_of_ble_eq_true rfl) ?_
  intro p e s m args below meth c A ls Q H locs S hr hw hl hQ
  have hx := S.1.1
  have hb := S.1.2.1
  have hts := S.1.2.2.2.2
  have hl : lv_has ls 1 [(0, .ref a_this)] := hl
  have hinX9 : ∀ w ∈ u_ws RX9 TX9 13, w ∈ wsX9_fault := (fun _ h => List.mem_cons_of_mem _ (List.mem_append_left _ (List.mem_append_left _ (List.mem_append_right _ h))))
  have F12 : FLk s args wsX9_fault RX9 12 RX9 TX9 13 9 0 := ⟨hinX9, rfl, by decide, hts (.fieldLink RX9 12 "SlowPaths" "script" "LSlowPaths$Script;") (List.mem_of_getElem? (i := 1) rfl)⟩
  have F79 : FLk s args wsX9_fault RX9 79 RX9 TX9 13 9 11 := ⟨hinX9, rfl, by decide, hts (.fieldLink RX9 79 "SlowPaths" "draft" "LSlowPaths$Net;") (List.mem_of_getElem? (i := 2) rfl)⟩
  have h := hf
  rw [f_X9_fault] at h
  refine lv_aload_n hx hb dX9_fault_0 rfl (lv_at hl 0 rfl) ?_
  refine z_get S hw F12 0 rfl rfl dX9_fault_1 ?_
  refine lv_aload_n hx hb dX9_fault_4 rfl (lv_at hl 0 rfl) ?_
  refine z_get S hw F79 0 rfl rfl dX9_fault_5 ?_
  obtain ⟨r_1, i_script_at_2, i_draft_inputs_3, i_draft_gates_4, i_draft_paths_5, k_draft_told_6, k_draft_lefts_7, k_draft_rights_8, k_draft_nexts_9, e8_1, h⟩ := obd9_el h
  refine zc_VI (As := [.ref a_draft]) (rest := []) (wr := [(a_this, .inr (9, [.ref a_script, .ref a_acts, .ref a_sightings, .ref a_now, .ref a_trial, .ref a_slots, .ref a_levels, .ref a_table, .ref a_waves, .ref a_spans, .ref a_net, .ref a_draft, .long i_this_lastDraw]))]) (q0 := 0) S hw (c_X4_readInto l D cI cJ cZ cS H.size N a_script a_draft a_script_letters a_draft_told a_draft_lefts a_draft_rights a_draft_nexts a_draft_starts a_draft_sizes a_draft_steps a_draft_links i_script_size i_script_at i_draft_inputs i_draft_gates i_draft_paths k_script_letters k_draft_told k_draft_lefts k_draft_rights k_draft_nexts r_1 i_script_at_2 i_draft_inputs_3 i_draft_gates_4 i_draft_paths_5 k_draft_told_6 k_draft_lefts_7 k_draft_rights_8 k_draft_nexts_9 e8_1) (cwV 1 hts gX9_fault_X4_readInto rfl rfl rfl dv_X4_readInto ⟨Nat.le_of_ble_eq_true rfl, Nat.le_of_ble_eq_true rfl⟩) [1, 2, 3, 4, 5, 6, 7] [0] rfl rfl rfl rfl (by decide) rfl rfl rfl rfl hl.1 rfl (Nat.le_of_ble_eq_true rfl) dX9_fault_8 ⟨Nat.zero_le _, Nat.zero_le _⟩ (fun H locs hw => ?_)
  cases h
  exact z_iret S hQ hr hw [0, 1, 2, 3, 4, 5, 6, 7] rfl rfl dX9_fault_11
