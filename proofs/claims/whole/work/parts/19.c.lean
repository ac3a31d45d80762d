-- longest: the greatest length so far, and the first path that has it
def gI (len : Nat → Nat) : Nat → Int32
  | 0 => -9
  | q + 1 => if nI (len q) ≤ gI len q then gI len q else nI (len q)
def fI (len : Nat → Nat) : Nat → Int32
  | 0 => -9
  | q + 1 => if nI (len q) ≤ gI len q then fI len q else nI q
theorem gf_inv {len : Nat → Nat} (hl : ∀ q, len q < 2 ^ 31) : ∀ q, (∀ z, z < q → (nI (len z)).toInt ≤ (gI len q).toInt) ∧ ((q = 0 ∧ fI len q = -9 ∧ gI len q = -9) ∨ ∃ f, f < q ∧ fI len q = nI f ∧ nI (len f) = gI len q ∧ ∀ z, z < f → ¬ nI (len z) = gI len q)
  | 0 => ⟨fun z h => by omega, Or.inl ⟨rfl, rfl, rfl⟩⟩
  | q + 1 => by
    obtain ⟨h1, h2⟩ := gf_inv hl q
    have e9 : (-9 : Int32).toInt = -9 := rfl
    have el := nI_toInt (hl q)
    by_cases hc : nI (len q) ≤ gI len q
    · rw [gI, fI, if_pos hc, if_pos hc]
      rw [fa_le] at hc
      refine ⟨fun z hz => ?_, ?_⟩
      · rcases Nat.lt_or_ge z q with w | w
        · exact h1 z w
        · rw [show z = q by omega]
          exact hc
      · rcases h2 with ⟨-, -, h2⟩ | ⟨f, w1, w2, w3, w4⟩
        · rw [h2, e9, el] at hc
          omega
        · exact Or.inr ⟨f, by omega, w2, w3, w4⟩
    · rw [gI, fI, if_neg hc, if_neg hc]
      rw [fa_le] at hc
      refine ⟨fun z hz => ?_, Or.inr ⟨q, by omega, rfl, rfl, fun z hz e => ?_⟩⟩
      · rcases Nat.lt_or_ge z q with w | w
        · have := h1 z w
          omega
        · rw [show z = q by omega]
          exact Int.le_refl _
      · have := h1 z hz
        rw [e] at this
        omega
theorem greatM_eq {N : Nat} (hN : 1000 ≤ N) {G lv : Nat} {P : List (Nat × Nat)} (h55 : P.length ≤ 55) {pathGates now : Nat → Int32} {len : Nat → Nat} (hlen : ∀ p, p < P.length → f_X10_lengthOf N (nI lv) (nI p) (nI G) pathGates now = some (nI (len p))) : f_X10_greatest N (nI lv) (nI G) (nI P.length) pathGates now = some (gI len P.length) := by
  rw [f_X10_greatest]
  simp only [bnd]
  exact forL (fun nf q s => f_X10_greatest_L5 N (nI lv) (nI G) (nI P.length) pathGates now (fun x => some x) nf s (nI q)) P.length (fun q => gI len q) (some (gI len P.length)) (fun nf => by
    rw [f_X10_greatest_L5, if_pos (le_t (Nat.le_refl _) (by omega))]) (fun q nf hq => by
    rw [f_X10_greatest_L5, if_neg (le_f hq (by omega)), hlen q hq]
    simp only [obd1, bnd, nI_1, gI]
    by_cases hc : nI (len q) ≤ gI len q
    · rw [if_pos hc, if_pos hc]
    · rw [if_neg hc, if_neg hc]) P.length 0 N (by omega) (by omega)
theorem sm_longest {N : Nat} (hN : 1000 ≤ N) (y1 : Int32) {n G : Nat} {L R nx : Nat → Nat} {nt : Nat → Bool} {κ d : Nat → Nat} {i1 i2 i3 : Int32} {a1 a2 a3 a4 a5 a6 a7 : Nat → Int32} {j1 j2 j3 : Int32} {b1 b2 b3 b4 b5 : Nat → Int32} {kinds delays now : Nat → Int32} (hNet : RNet n G L R nx nt i1 i2 i3 a1 a2 a3 a4 a5 a6 a7 j1 j2 j3 b1 b2 b3 b4 b5) (hNow : RNow G nt κ d kinds delays now) : ∃ r, f_X9_longest N y1 i3 delays a5 a6 = some r ∧ f_X10_longest N y1 j2 j3 b5 now = some r := by
  obtain ⟨hn, hG, rfl, rfl, rfl, rfl⟩ := hNet.c
  obtain ⟨hC, hnx, hNC, hNM, hPC, hPM⟩ := hNet
  have e3 := hPC.1
  have f3 := hPM.1
  have h55 := hPC.2.1
  subst e3
  subst f3
  obtain ⟨len, hlenD⟩ : ∃ len : Nat → Nat, ∀ p, len p = match (PL n G L R)[p]? with | some x => plen d x.2 G | none => 0 := ⟨_, fun _ => rfl⟩
  have hlb : ∀ q, len q < 2 ^ 31 := by
    intro q
    rw [hlenD]
    split
    · have := plen_le (d := d) (set := (by assumption : Nat × Nat).2) (b := 9) (G := G) (fun g h => (hNow.1.2 g h).2)
      omega
    · decide
  have hdl : ∀ g, g < G → now (16 * 0 + 8 + g) = nI (d g) := fun g h => by
    have := (hNow.2.2 g h).2
    rw [← this]
  have hM : ∀ p, p < (PL n G L R).length → f_X10_lengthOf N (nI 0) (nI p) (nI G) b5 now = some (nI (len p)) := by
    intro p hp
    obtain ⟨⟨i, set⟩, hel⟩ : ∃ x, (PL n G L R)[p]? = some x := ⟨_, List.getElem?_eq_getElem hp⟩
    rw [hlenD, hel]
    exact lenM_eq hN hG (lv := 0) (by decide) hPM (fun p i set h => (PL_in h).2.1) hdl hel
  have hCl : ∀ p, p < (PL n G L R).length → f_X2_lengthOf N (nI p) delays a5 a6 = some (nI (len p)) := by
    intro p hp
    obtain ⟨⟨i, set⟩, hel⟩ : ∃ x, (PL n G L R)[p]? = some x := ⟨_, List.getElem?_eq_getElem hp⟩
    rw [hlenD, hel]
    exact lenC_eq hN hG hPC (fun g h => (hNow.2.1 g h).2) hel
  have z0 : (0 : Int32).toInt = 0 := rfl
  have z1 : (1 : Int32).toInt = 1 := rfl
  have z2 : (0 : Int64).toInt = 0 := rfl
  have z3 : (1 : Int64).toInt = 1 := rfl
  rw [f_X9_longest, f_X10_longest, in32]
  simp only [obd1, zo0, fa_lt, fa_le, z0, z1, z2, z3]
  by_cases hy : 0 ≤ y1.toInt ∧ y1.toInt ≤ 1
  · rw [if_neg (c := y1.toInt < 0) (by omega), if_pos (c := y1.toInt ≤ 1) (by omega), if_neg (c := ¬ (0 ≤ y1.toInt ∧ y1.toInt ≤ 1)) (by omega)]
    have eC := forL (fun nf q s => f_X9_longest_L21 N (nI (PL n G L R).length) delays a5 a6 (fun x2_1 x3_2 => if y1 = 0 then some x2_1 else some x3_2) nf s.1 s.2 (nI q)) (PL n G L R).length (fun q => (gI len q, fI len q)) (if y1 = 0 then some (gI len (PL n G L R).length) else some (fI len (PL n G L R).length)) (fun nf => by
      rw [f_X9_longest_L21, if_pos (le_t (Nat.le_refl _) (by omega))]) (fun q nf hq => by
      dsimp only
      rw [f_X9_longest_L21, if_neg (le_f hq (by omega)), hCl q hq]
      simp only [obd1, bnd, nI_1, gI, fI]
      by_cases hc : nI (len q) ≤ gI len q
      · rw [if_pos hc, if_pos hc, if_pos hc]
      · rw [if_neg hc, if_neg hc, if_neg hc]) (PL n G L R).length 0 N (by omega) (by omega)
    simp only [bnd]
    have eC : f_X9_longest_L21 N (nI (PL n G L R).length) delays a5 a6 (fun x2_1 x3_2 => if y1 = 0 then some x2_1 else some x3_2) N (-9) (-9) 0 = if y1 = 0 then some (gI len (PL n G L R).length) else some (fI len (PL n G L R).length) := eC
    rw [eC, show (0 : Int32) = nI 0 from rfl, greatM_eq hN h55 hM]
    simp only
    by_cases hy0 : y1 = nI 0
    · rw [if_pos hy0, if_pos hy0]
      exact ⟨_, rfl, rfl⟩
    · rw [if_neg hy0, if_neg hy0]
      have eM := forS (fun nf q => f_X10_longest_L27 N (nI G) (nI (PL n G L R).length) b5 now (gI len (PL n G L R).length) (some (-9)) nf (nI q)) (PL n G L R).length (some (-9)) (fun q => decide (nI (len q) = gI len (PL n G L R).length)) (fun q => some (nI q)) (fun nf => by
        rw [f_X10_longest_L27, if_pos (le_t (Nat.le_refl _) (by omega))]) (fun q nf hq => by
        have hm := hM q hq
        rw [f_X10_longest_L27, if_neg (le_f hq (by omega)), show (0 : Int32) = nI 0 from rfl, hm]
        simp only [obd1, bnd, nI_1, decide_eq_true_eq]) (PL n G L R).length 0 N (by omega) (by omega)
      obtain ⟨g1, g2⟩ := gf_inv hlb (PL n G L R).length
      refine ⟨fI len (PL n G L R).length, rfl, ?_⟩
      rcases g2 with ⟨w1, w2, w3⟩ | ⟨f, w1, w2, w3, w4⟩
      · rcases eM with ⟨q, -, v2, -⟩ | ⟨-, v2⟩
        · omega
        · rw [w2]
          exact v2
      · rcases eM with ⟨q, v1, v2, v3, v4, v5⟩ | ⟨v1, v2⟩
        · rw [decide_eq_true_eq] at v3
          have hfq : f = q := by
            rcases Nat.lt_trichotomy f q with u | u | u
            · have := v4 f (Nat.zero_le _) u
              rw [decide_eq_false_iff_not] at this
              exact absurd w3 this
            · exact u
            · exact absurd v3 (w4 q u)
          subst hfq
          rw [w2]
          exact v5
        · have := v1 f (Nat.zero_le _) w1
          rw [decide_eq_false_iff_not] at this
          exact absurd w3 this
  · rw [if_pos (c := ¬ (0 ≤ y1.toInt ∧ y1.toInt ≤ 1)) hy]
    by_cases hy2 : y1.toInt < 0
    · rw [if_pos hy2]
      exact ⟨_, rfl, rfl⟩
    · rw [if_neg hy2, if_neg (by omega)]
      exact ⟨_, rfl, rfl⟩
