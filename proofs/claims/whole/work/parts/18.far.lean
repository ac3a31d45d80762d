-- masks of links against the test gate by gate
def Sub (a b : Nat) : Prop := ∀ k, a.testBit k = true → b.testBit k = true
theorem tb_add {A c k j : Nat} (h : A < 2 ^ k) : (A + c * 2 ^ k).testBit j = if j < k then A.testBit j else c.testBit (j - k) := by
  rw [Nat.add_comm, Nat.mul_comm]
  exact Nat.testBit_two_pow_mul_add c h j
theorem Sub_split {A B c e k : Nat} (hA : A < 2 ^ k) (hB : B < 2 ^ k) : Sub (A + c * 2 ^ k) (B + e * 2 ^ k) ↔ Sub A B ∧ Sub c e := by
  constructor
  · intro h
    constructor
    · intro j hj
      rcases Nat.lt_or_ge j k with w | w
      · have := h j (by rw [tb_add hA, if_pos w]; exact hj)
        rw [tb_add hB, if_pos w] at this
        exact this
      · rw [Nat.testBit_lt_two_pow (Nat.lt_of_lt_of_le hA (Nat.pow_le_pow_right (by decide) w))] at hj
        cases hj
    · intro j hj
      have := h (j + k) (by rw [tb_add hA, if_neg (by omega), Nat.add_sub_cancel]; exact hj)
      rw [tb_add hB, if_neg (by omega), Nat.add_sub_cancel] at this
      exact this
  · intro h j hj
    rw [tb_add hA] at hj
    rw [tb_add hB]
    by_cases w : j < k
    · rw [if_pos w] at hj ⊢
      exact h.1 j hj
    · rw [if_neg w] at hj ⊢
      exact h.2 _ hj
theorem Sub_0 (e : Nat) : Sub 0 e := fun k h => by
  rw [Nat.zero_testBit] at h
  cases h
theorem Sub_1 (x y : Prop) [Decidable x] [Decidable y] : Sub 1 ((if x then 1 else 0) + (if y then 2 else 0)) ↔ x := by
  constructor
  · intro h
    have := h 0 (by decide)
    by_cases hx : x
    · exact hx
    · rw [if_neg hx] at this
      by_cases hy : y
      · rw [if_pos hy] at this
        cases this
      · rw [if_neg hy] at this
        cases this
  · intro hx k hk
    have hk0 : k = 0 := by
      rcases Nat.eq_zero_or_pos k with w | w
      · exact w
      · rw [Nat.testBit_lt_two_pow (show 1 < 2 ^ k from Nat.one_lt_two_pow (by omega))] at hk
        cases hk
    subst hk0
    rw [if_pos hx]
    by_cases hy : y
    · rw [if_pos hy]; rfl
    · rw [if_neg hy]; rfl
theorem Sub_2 (x y : Prop) [Decidable x] [Decidable y] : Sub 2 ((if x then 1 else 0) + (if y then 2 else 0)) ↔ y := by
  constructor
  · intro h
    have := h 1 (by decide)
    by_cases hy : y
    · exact hy
    · rw [if_neg hy] at this
      by_cases hx : x
      · rw [if_pos hx] at this
        cases this
      · rw [if_neg hx] at this
        cases this
  · intro hy k hk
    have hk0 : k = 1 := by
      rcases (show k = 0 ∨ k = 1 ∨ 2 ≤ k by omega) with w | w | w
      · subst w
        cases hk
      · exact w
      · rw [Nat.testBit_lt_two_pow (show 2 < 2 ^ k from Nat.lt_of_lt_of_le (by decide) (Nat.pow_le_pow_right (by decide) w))] at hk
        cases hk
    subst hk0
    rw [if_pos hy]
    by_cases hx : x
    · rw [if_pos hx]; rfl
    · rw [if_neg hx]; rfl
section FR
variable {n G : Nat} {L R nx κ : Nat → Nat} {nt : Nat → Bool}
theorem lm_lt (i set : Nat) : ∀ g, lm L R i set g < 4 ^ g
  | 0 => Nat.zero_lt_one
  | g + 1 => by
    have h := lm_lt i set g
    rw [lm, Nat.pow_succ]
    split
    · split <;> omega
    · omega
theorem cov_iff {pair i set f : Nat} (hf : 1 ≤ f) : ∀ g, (f ≤ tst L R κ pair G i set g ↔ (f ≤ if V0 pair i < 2 then 0 else 2) ∧ Sub (lm L R i set g) (lnkM L R κ pair G f g))
  | 0 => by
    rw [tst]
    constructor
    · intro h
      exact ⟨h, Sub_0 _⟩
    · intro h
      exact h.1
  | g + 1 => by
    have ih := cov_iff (pair := pair) (i := i) (set := set) hf g
    have h1 := lm_lt (L := L) (R := R) i set g
    have h2 := lnkM_lt L R κ pair G f g
    have e2 : lnkM L R κ pair G f (g + 1) = lnkM L R κ pair G f g + ((if f ≤ far1 (κ g) (Vs L R κ pair G (L g)) (Vs L R κ pair G (R g)) then 1 else 0) + (if f ≤ far1 (κ g) (Vs L R κ pair G (R g)) (Vs L R κ pair G (L g)) then 2 else 0)) * 2 ^ (2 * g) := by
      rw [lnkM, ← p4]
      split <;> split <;> omega
    rw [p4] at h1 h2
    rw [e2, tst, lm]
    by_cases hb : set.testBit g = true
    · rw [if_pos hb, if_pos hb, p4, Sub_split h1 h2]
      by_cases hL : L g = (fl L R i set g).1
      · rw [if_pos hL, if_pos hL, Sub_1, Nat.le_min, ih]
        constructor
        · intro w; exact ⟨w.1.1, w.1.2, w.2⟩
        · intro w; exact ⟨⟨w.1, w.2.1⟩, w.2.2⟩
      · rw [if_neg hL, if_neg hL, Sub_2, Nat.le_min, ih]
        constructor
        · intro w; exact ⟨w.1.1, w.1.2, w.2⟩
        · intro w; exact ⟨⟨w.1, w.2.1⟩, w.2.2⟩
    · rw [if_neg hb, if_neg hb]
      have e0 : lm L R i set g = lm L R i set g + 0 * 2 ^ (2 * g) := by omega
      rw [e0, Sub_split h1 h2, ih]
      constructor
      · intro w; exact ⟨w.1, w.2, Sub_0 _⟩
      · intro w; exact ⟨w.1, w.2.1⟩
end FR
theorem sub_nI {a b : Nat} (ha : a < 2 ^ 31) (hb : b < 2 ^ 31) : (nI a &&& (nI b ^^^ -1)) = 0 ↔ Sub a b := by
  have e : ∀ k, (nI a &&& (nI b ^^^ -1)).toBitVec.getLsbD k = (a.testBit k && (decide (k < 32) && !b.testBit k)) := by
    intro k
    show ((BitVec.ofNat 32 a) &&& ((BitVec.ofNat 32 b) ^^^ (-1 : Int32).toBitVec)).getLsbD k = _
    rw [show (-1 : Int32).toBitVec = BitVec.allOnes 32 from rfl]
    simp only [BitVec.getLsbD_and, BitVec.getLsbD_xor, BitVec.getLsbD_ofNat, BitVec.getLsbD_allOnes]
    by_cases hk : k < 32
    · simp [hk]
    · simp [hk]
  constructor
  · intro h k hk
    have hk32 : k < 32 := by
      rcases Nat.lt_or_ge k 32 with w | w
      · exact w
      · rw [Nat.testBit_lt_two_pow (Nat.lt_of_lt_of_le ha (Nat.pow_le_pow_right (by decide) (by omega)))] at hk
        cases hk
    have h2 := e k
    rw [h, hk] at h2
    have h3 : (0 : Int32).toBitVec.getLsbD k = false := by
      show (0#32).getLsbD k = false
      exact BitVec.getLsbD_zero
    rw [h3] at h2
    cases hb2 : b.testBit k with
    | true => rfl
    | false =>
      rw [hb2] at h2
      simp [hk32] at h2
  · intro h
    apply Int32.toBitVec_inj.mp
    apply BitVec.eq_of_getLsbD_eq
    intro k hk
    rw [e k]
    have h3 : (0 : Int32).toBitVec.getLsbD k = false := by
      show (0#32).getLsbD k = false
      exact BitVec.getLsbD_zero
    rw [h3]
    cases ha2 : a.testBit k with
    | false => rfl
    | true => rw [h k ha2]; simp
section HF
variable {n G : Nat} {L R nx κ : Nat → Nat} {nt : Nat → Bool}
theorem pow4_8 {g : Nat} (h : g ≤ 8) : 4 ^ g ≤ 65536 := Nat.le_trans (Nat.pow_le_pow_right (by decide) h) (by decide)
theorem howFar_eq {N : Nat} (hn : n ≤ 4) (hG : G ≤ 8) {P : List (Nat × Nat)} {paths : Int32} {starts sizes steps links of0 : Nat → Int32} (hP : PathC G L R P paths starts sizes steps links) {pair p i set : Nat} (hp : P[p]? = some (i, set)) (hi : i < n) :
    f_X1_howFar N (nI p) (nI (lnkM L R κ pair G 1 G)) (nI (lnkM L R κ pair G 2 G)) starts (ofC L R κ pair n of0 G) links = some (nI (tst L R κ pair G i set G)) := by
  have hpl : p < P.length := (List.getElem?_eq_some_iff.mp hp).1
  have hp55 := hP.2.1
  obtain ⟨h1, h2, h3, h4⟩ := hP.2.2 p i set hp
  have hV : ofC L R κ pair n of0 G i = nI (V0 pair i) := by
    have e := ofC_at (L := L) (R := R) (κ := κ) (pair := pair) (base := of0) (show Sg n G i from Or.inl hi) hn
    have e2 := Vs_stay (L := L) (R := R) (κ := κ) pair (g := 0) G i (by omega)
    rw [Nat.zero_add] at e2
    rw [e2] at e
    unfold cs at e
    rw [if_pos (by omega)] at e
    exact e
  have hv4 := V0_lt pair i
  have hl := lm_lt (L := L) (R := R) i set G
  have hm1 := lnkM_lt L R κ pair G 1 G
  have hm2 := lnkM_lt L R κ pair G 2 G
  have h48 := pow4_8 hG
  have ht := tst_le (L := L) (R := R) (κ := κ) (G := G) pair i set G
  have c1 := cov_iff (G := G) (L := L) (R := R) (κ := κ) (pair := pair) (i := i) (set := set) (f := 1) (by decide) G
  have c2 := cov_iff (G := G) (L := L) (R := R) (κ := κ) (pair := pair) (i := i) (set := set) (f := 2) (by decide) G
  rw [f_X1_howFar, grd_nI (show p < 55 by omega) (by decide), nI_clamp (show p < 2 ^ 31 by omega), h1, grd_nI (show i < 18 by omega) (by decide), nI_clamp (show i < 2 ^ 31 by omega), hV, h3]
  by_cases hv : V0 pair i < 2
  · rw [if_pos (show nI (V0 pair i) < (2 : Int32) from show nI (V0 pair i) < nI 2 from (nI_ltI (by omega) (by decide)).mpr hv)]
    rw [if_pos hv] at c1
    have : tst L R κ pair G i set G = 0 := by
      rcases Nat.eq_zero_or_pos (tst L R κ pair G i set G) with w | w
      · exact w
      · have := (c1.mp w).1
        omega
    rw [this]
    rfl
  · rw [if_neg (show ¬ nI (V0 pair i) < (2 : Int32) from show ¬ nI (V0 pair i) < nI 2 from fun z => hv ((nI_ltI (by omega) (by decide)).mp z)), grd_nI (show p < 55 by omega) (by decide)]
    rw [if_neg hv] at c1 c2
    by_cases s1 : Sub (lm L R i set G) (lnkM L R κ pair G 1 G)
    · rw [if_pos ((sub_nI (by omega) (by omega)).mpr s1), grd_nI (show p < 55 by omega) (by decide)]
      have t1 := c1.mpr ⟨by decide, s1⟩
      by_cases s2 : Sub (lm L R i set G) (lnkM L R κ pair G 2 G)
      · rw [if_pos ((sub_nI (by omega) (by omega)).mpr s2)]
        have t2 := c2.mpr ⟨by decide, s2⟩
        rw [show tst L R κ pair G i set G = 2 by omega]
        rfl
      · rw [if_neg (fun z => s2 ((sub_nI (by omega) (by omega)).mp z))]
        have t2 : ¬ 2 ≤ tst L R κ pair G i set G := fun z => s2 (c2.mp z).2
        rw [show tst L R κ pair G i set G = 1 by omega]
        rfl
    · rw [if_neg (fun z => s1 ((sub_nI (by omega) (by omega)).mp z))]
      have t1 : ¬ 1 ≤ tst L R κ pair G i set G := fun z => s1 (c1.mp z).2
      rw [show tst L R κ pair G i set G = 0 by omega]
      rfl
end HF
