-- Euclid's steps
theorem nz_nI {b : Nat} (hb : b < 2 ^ 31) (h : b ≠ 0) : ¬ nI b = 0 := fun z => h ((c0 hb).mp z)
theorem nzt {b : Nat} (hb : b < 2 ^ 31) (h : b ≠ 0) : nzI (nI b) = true := decide_eq_true (nz_nI hb h)
theorem eu_half {b r : Nat} (h0 : 0 < r) (h : r < b) : 2 * (b % r) < b + 1 := by
  have h1 := Nat.mod_lt b h0
  have h2 := Nat.div_add_mod b r
  have h3 : 1 ≤ b / r := (Nat.le_div_iff_mul_le h0).mpr (by omega)
  have h4 : r * 1 ≤ r * (b / r) := Nat.mul_le_mul_left _ h3
  omega
theorem euC (N : Nat) (J : Int32 → Option Int32) : ∀ j a b i nf : Nat, b < 2 ^ j → a < 2 ^ 31 → j ≤ 30 → i + 2 * j ≤ 63 → 2 * j < nf → f_X9_fraction_L8 N J nf (nI a) (nI b) (nI i) = J (nI (Nat.gcd b a)) := by
  intro j
  induction j with
  | zero =>
    intro a b i nf hb ha hj hi hnf
    obtain ⟨q, rfl⟩ : ∃ q, nf = q + 1 := ⟨nf - 1, by omega⟩
    obtain rfl : b = 0 := by omega
    rw [f_X9_fraction_L8, if_neg (show ¬ (64 : Int32) ≤ nI i from le_f (a := 64) (by omega) (by decide)), if_pos (show nI 0 = 0 from rfl), Nat.gcd_zero_left]
  | succ j ih =>
    intro a b i nf hb ha hj hi hnf
    obtain ⟨q, rfl⟩ : ∃ q, nf = q + 1 := ⟨nf - 1, by omega⟩
    obtain ⟨q', rfl⟩ : ∃ q', q = q' + 1 := ⟨q - 1, by omega⟩
    have hb31 : b < 2 ^ 31 := Nat.lt_of_lt_of_le hb (Nat.pow_le_pow_right (by decide) (by omega))
    rw [f_X9_fraction_L8, if_neg (show ¬ (64 : Int32) ≤ nI i from le_f (a := 64) (by omega) (by decide))]
    by_cases h0 : b = 0
    · subst h0
      rw [if_pos (show nI 0 = 0 from rfl), Nat.gcd_zero_left]
    · rw [if_neg (nz_nI hb31 h0), grd_t (nzt hb31 h0)]
      simp only [bnd, nI_1]
      rw [pk_rem ha (by omega) hb31]
      have hr : a % b < b := Nat.mod_lt _ (by omega)
      rw [f_X9_fraction_L8, if_neg (show ¬ (64 : Int32) ≤ nI (i + 1) from le_f (a := 64) (by omega) (by decide))]
      by_cases h1 : a % b = 0
      · rw [h1, if_pos (show nI 0 = 0 from rfl), Nat.gcd_rec b a, h1, Nat.gcd_zero_left]
      · rw [if_neg (nz_nI (by omega) h1), grd_t (nzt (show a % b < 2 ^ 31 by omega) h1)]
        simp only [bnd, nI_1]
        rw [pk_rem hb31 (by omega) (by omega), ih (a % b) (b % (a % b)) (i + 1 + 1) q' (by
          have := eu_half (show 0 < a % b by omega) hr
          rw [Nat.pow_succ] at hb
          omega) (by omega) (by omega) (by omega) (by omega), Nat.gcd_rec b a, Nat.gcd_rec (a % b) b]
