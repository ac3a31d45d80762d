-- path and longest
theorem ones_more {set G : Nat} (h : set < 2 ^ G) : ∀ k, ones set (G + k) = ones set G
  | 0 => rfl
  | k + 1 => by
    rw [← Nat.add_assoc, ones, ones_more h k, Nat.testBit_lt_two_pow (Nat.lt_of_lt_of_le h (Nat.pow_le_pow_right (by decide) (by omega)))]
    rfl
theorem onesM_eq {N : Nat} (hN : 1000 ≤ N) {set : Nat} (hs : set < 256) : f_X10_ones N (nI set) = some (nI (ones set 8)) := by
  rw [f_X10_ones]
  simp only [bnd]
  exact forL (fun nf q s => f_X10_ones_L4 N (nI set) (fun x => some x) nf s (nI q)) 8 (fun q => nI (ones set q)) (some (nI (ones set 8))) (fun nf => by
    rw [f_X10_ones_L4, if_pos (show (8 : Int32) ≤ nI 8 from le_t (Nat.le_refl 8) (by decide))]) (fun q nf hq => by
    rw [f_X10_ones_L4, if_neg (show ¬ (8 : Int32) ≤ nI q from le_f hq (by decide)), bit_nI (by omega) (by omega)]
    simp only [bnd, nI_1, nI_add, ones]
    have e : set / 2 ^ q % 2 = if set.testBit q = true then 1 else 0 := by
      cases hb : set.testBit q with
      | true => rw [(tb_iff set q).mp hb]; rfl
      | false => rw [(tb_iff0 set q).mp hb]; rfl
    rw [e]) 8 0 N (by omega) (by omega)
theorem nth_of {set : Nat} : ∀ {G q : Nat}, q < G → set.testBit q = true → nth set (ones set q) G = q ∧ ones set q < ones set G
  | 0, q, h, _ => absurd h (Nat.not_lt_zero q)
  | G + 1, q, h, hb => by
    rcases Nat.lt_or_ge q G with w | w
    · obtain ⟨h1, h2⟩ := nth_of w hb
      refine ⟨by rw [nth_up h2]; exact h1, ?_⟩
      rw [ones]
      omega
    · have e : q = G := by omega
      subst e
      rw [nth, if_pos ⟨rfl, hb⟩, ones, if_pos hb]
      exact ⟨rfl, by omega⟩
theorem half_pos {set G : Nat} (h : set / 2 ^ (G - 1) = 1) (hG : 0 < G) : set < 2 ^ G := by
  have h2 : 2 ^ G = 2 ^ (G - 1) * 2 := by
    rw [← Nat.pow_succ]
    exact congrArg (2 ^ ·) (by omega)
  have hp : 0 < 2 ^ (G - 1) := Nat.pow_pos (by decide)
  have := Nat.lt_mul_div_succ set hp
  rw [h] at this
  omega
theorem sub_0 (x y : Int32) : x - y = 0 ↔ x = y := by
  constructor
  · intro h
    have := congrArg (· + y) h
    simp only [Int32.sub_add_cancel, Int32.zero_add] at this
    exact this
  · intro h
    rw [h, Int32.sub_self]
theorem pathM_find {N : Nat} (hN : 1000 ≤ N) {G p set : Nat} (hG : G ≤ 8) (hp : p < 64) {pathGates : Nat → Int32} (hset : pathGates p = nI set) (hs : set < 256) (y : Int32) (hy : 0 ≤ y.toInt) : f_X10_path_L66 N (nI p) (nI G) pathGates (some (-9)) N y (nI 0) = some (if y.toInt < (ones set G : Int) then nI (nth set y.toInt.toNat G) else -9) := by
  have ho := ones_le set G
  have e := forS (fun nf q => f_X10_path_L66 N (nI p) (nI G) pathGates (some (-9)) nf (y - nI (ones set q)) (nI q)) G (some (-9)) (fun q => set.testBit q && decide (y = nI (ones set q))) (fun q => some (nI q)) (fun nf => by
    rw [f_X10_path_L66, if_pos (le_t (Nat.le_refl _) (by omega))]) (fun q nf hq => by
    rw [f_X10_path_L66, if_neg (le_f hq (by omega)), grd_nI hp (by decide), nI_clamp (by omega), hset, has_eq N (by omega) (by omega)]
    simp only [obd1, bnd, zI_0, nI_1, sub_0]
    cases hb : set.testBit q with
    | false =>
      simp only [↓reduceIte, Bool.false_and, Bool.false_eq_true]
      rw [ones, hb]
      rfl
    | true =>
      simp only [Bool.true_eq_false, ↓reduceIte, Bool.true_and, decide_eq_true_eq]
      by_cases h : y = nI (ones set q)
      · rw [if_pos h, if_pos h]
      · rw [if_neg h, if_neg h]
        have e1 : y - nI (ones set q) + -1 = y - nI (ones set (q + 1)) := by
          rw [ones, if_pos hb, ← nI_1, Int32.sub_eq_add_neg, Int32.sub_eq_add_neg, Int32.neg_add, Int32.sub_eq_add_neg, Int32.add_assoc]
        rw [e1]) G 0 N (by omega) (by omega)
  have e0 : y - nI (ones set 0) = y := by
    show y - 0 = y
    exact Int32.sub_zero y
  simp only [e0] at e
  rcases e with ⟨q, h1, h2, h3, h4, h5⟩ | ⟨h1, h2⟩
  · rw [h5]
    rw [Bool.and_eq_true, decide_eq_true_eq] at h3
    obtain ⟨w1, w2⟩ := nth_of h2 h3.1
    have ey : y.toInt = (ones set q : Int) := by rw [h3.2, nI_toInt (by omega)]
    rw [ey, if_pos (by omega), Int.toNat_natCast, w1]
  · rw [h2]
    rw [if_neg]
    intro h
    obtain ⟨w1, w2, w3⟩ := nth_lt (set := set) (G := G) (k := y.toInt.toNat) (by omega)
    have := h1 _ (Nat.zero_le _) w1
    rw [w2, w3, Bool.true_and, decide_eq_false_iff_not] at this
    apply this
    rw [fa_eq, nI_toInt (by omega)]
    omega
theorem stepC_eq {N : Nat} {G : Nat} (hG : G ≤ 8) {L R : Nat → Nat} {P : List (Nat × Nat)} {paths : Int32} {starts sizes steps links : Nat → Int32} (hP : PathC G L R P paths starts sizes steps links) {p i set : Nat} (hp : P[p]? = some (i, set)) (y : Int32) (hy : 0 ≤ y.toInt) : f_X2_stepOf N (nI p) y sizes steps = some (if y.toInt < (ones set G : Int) then nI (nth set y.toInt.toNat G) else -9) := by
  have hpl : p < P.length := (List.getElem?_eq_some_iff.mp hp).1
  have hp55 := hP.2.1
  obtain ⟨h1, h2, h3, h4⟩ := hP.2.2 p i set hp
  have ho := ones_le set G
  have e0 : (0 : Int32).toInt = 0 := rfl
  rw [f_X2_stepOf]
  simp only [bnd]
  rw [if_neg (by rw [fa_lt, e0]; omega), grd_nI (show p < 55 by omega) (by decide), nI_clamp (show p < 2 ^ 31 by omega), h2]
  by_cases h : y.toInt < (ones set G : Int)
  · obtain ⟨k, hk, rfl⟩ := nI_of_rng (y := y) (n := ones set G) hy h (by omega)
    rw [if_neg (le_f hk (by omega)), l8p, grd_nI (show p * 8 + k < 440 by omega) (by decide), nI_clamp (show p * 8 + k < 2 ^ 31 by omega), h4 k hk, nI_toInt (by omega), if_pos (by omega), Int.toNat_natCast]
  · rw [if_neg h, if_pos (by rw [fa_le, nI_toInt (by omega)]; omega)]
theorem sm_path {N : Nat} (hN : 1000 ≤ N) (y1 y2 : Int32) {n G : Nat} {L R nx : Nat → Nat} {nt : Nat → Bool} {κ d : Nat → Nat} {i1 i2 i3 : Int32} {a1 a2 a3 a4 a5 a6 a7 : Nat → Int32} {j1 j2 j3 : Int32} {b1 b2 b3 b4 b5 : Nat → Int32} {kinds delays now : Nat → Int32} (hNet : RNet n G L R nx nt i1 i2 i3 a1 a2 a3 a4 a5 a6 a7 j1 j2 j3 b1 b2 b3 b4 b5) (hNow : RNow G nt κ d kinds delays now) : ∃ r, f_X9_path N y1 y2 i3 a4 a5 delays a6 = some r ∧ f_X10_path N y1 y2 j2 j3 b5 now b4 = some r := by
  obtain ⟨hn, hG, rfl, rfl, rfl, rfl⟩ := hNet.c
  obtain ⟨hC, hnx, hNC, hNM, hPC, hPM⟩ := hNet
  have e3 := hPC.1
  have f3 := hPM.1
  have h55 := hPC.2.1
  subst e3
  subst f3
  have q0 : (0 : Int32).toInt = 0 := rfl
  have q3 : (3 : Int32).toInt = 3 := rfl
  rw [f_X9_path, f_X10_path, hasPath_eq N y1 (by omega), isPath_eq N y1 (by omega)]
  simp only [obd1]
  by_cases hz : gz y1 (PL n G L R).length = 0
  · rw [if_pos hz, if_pos hz]
    exact ⟨_, rfl, rfl⟩
  · rw [if_neg hz, if_neg hz]
    obtain ⟨p, hp, rfl⟩ := gz_in (by omega) hz
    obtain ⟨⟨i, set⟩, hel⟩ : ∃ x, (PL n G L R)[p]? = some x := ⟨_, List.getElem?_eq_getElem hp⟩
    obtain ⟨hi, hset, htop, hfl⟩ := PL_in hel
    obtain ⟨m1, m2⟩ := hPM.2.2 p i set hel
    obtain ⟨h1, h2, h3, h4⟩ := hPC.2.2 p i set hel
    have hG0 : 0 < G := by
      rcases Nat.eq_zero_or_pos G with w | w
      · have := hC.2.2.2.1 w
        omega
      · exact w
    have ho8 : ones set 8 = ones set G := by
      have := ones_more (half_pos htop hG0) (8 - G)
      rw [show G + (8 - G) = 8 by omega] at this
      exact this
    have hdl : ∀ g, g < G → now (16 * 0 + 8 + g) = nI (d g) := fun g h => by
      have := (hNow.2.2 g h).2
      rw [← this]
    simp only [fa_le, q0, q3]
    by_cases hy : 0 ≤ y2.toInt
    · rw [if_pos hy, if_pos hy]
      by_cases hy3 : 3 ≤ y2.toInt
      · have n0 : ¬ y2 = 0 := fun z => by rw [z, q0] at hy3; omega
        have n1 : ¬ y2 = 1 := fun z => by rw [z] at hy3; have : (1 : Int32).toInt = 1 := rfl; omega
        have n2 : ¬ y2 = 2 := fun z => by rw [z] at hy3; have : (2 : Int32).toInt = 2 := rfl; omega
        obtain ⟨k, hk, rfl⟩ := nI_of_rng (y := y2) (n := 2 ^ 31) hy (by have := Int32.toInt_lt y2; omega) (Nat.le_refl _)
        rw [nI_toInt hk] at hy3
        have e3 : nI k - 3 = nI (k - 3) := pk_sub (a := k) (b := 3) (by omega)
        rw [if_neg n0, if_neg n1, if_neg n2, if_pos (show (3 : Int) ≤ (nI k).toInt by rw [nI_toInt hk]; exact hy3), e3, stepC_eq hG hPC hel _ (by rw [nI_toInt (by omega)]; omega)]
        simp only [bnd]
        rw [show (0 : Int32) = nI 0 from rfl, pathM_find hN hG (by omega) m2 hset _ (by rw [nI_toInt (by omega)]; omega)]
        exact ⟨_, rfl, rfl⟩
      · rw [if_neg (c := (3 : Int) ≤ y2.toInt) hy3]
        by_cases n0 : y2 = 0
        · rw [if_pos n0, if_pos n0, grd_nI (show p < 55 by omega) (by decide), grd_nI (show p < 64 by omega) (by decide), nI_clamp (by omega), h1, m1]
          exact ⟨_, rfl, rfl⟩
        · rw [if_neg n0, if_neg n0]
          by_cases n1 : y2 = 1
          · rw [if_pos n1, if_pos n1, grd_nI (show p < 55 by omega) (by decide), grd_nI (show p < 64 by omega) (by decide), nI_clamp (by omega), h2, m2, onesM_eq hN hset, ho8]
            exact ⟨_, rfl, rfl⟩
          · rw [if_neg n1, if_neg n1]
            have n2 : y2 = 2 := by
              obtain ⟨k, hk, rfl⟩ := nI_of_rng (y := y2) (n := 3) hy (by omega) (by decide)
              rcases (show k = 0 ∨ k = 1 ∨ k = 2 by omega) with rfl | rfl | rfl
              · exact absurd rfl n0
              · exact absurd rfl n1
              · rfl
            rw [if_pos n2, lenC_eq hN hG hPC (fun g h => (hNow.2.1 g h).2) hel, show (0 : Int32) = nI 0 from rfl, lenM_eq hN hG (lv := 0) (by decide) hPM (fun p i set h => (PL_in h).2.1) hdl hel]
            exact ⟨_, rfl, rfl⟩
    · rw [if_neg hy, if_neg hy]
      exact ⟨_, rfl, rfl⟩
