theorem euM (N : Nat) (J : Int32 → Option Int32) : ∀ j a b nf : Nat, b < 2 ^ j → a < 2 ^ 31 → j ≤ 30 → 2 * j < nf → f_X10_common_L13 N J nf (nI a) (nI b) = J (nI (Nat.gcd b a)) := by
  intro j
  induction j with
  | zero =>
    intro a b nf hb ha hj hnf
    obtain ⟨q, rfl⟩ : ∃ q, nf = q + 1 := ⟨nf - 1, by omega⟩
    obtain rfl : b = 0 := by omega
    rw [f_X10_common_L13, if_pos (show nI 0 = 0 from rfl), Nat.gcd_zero_left]
  | succ j ih =>
    intro a b nf hb ha hj hnf
    obtain ⟨q, rfl⟩ : ∃ q, nf = q + 1 := ⟨nf - 1, by omega⟩
    obtain ⟨q', rfl⟩ : ∃ q', q = q' + 1 := ⟨q - 1, by omega⟩
    have hb31 : b < 2 ^ 31 := Nat.lt_of_lt_of_le hb (Nat.pow_le_pow_right (by decide) (by omega))
    rw [f_X10_common_L13]
    by_cases h0 : b = 0
    · subst h0
      rw [if_pos (show nI 0 = 0 from rfl), Nat.gcd_zero_left]
    · rw [if_neg (nz_nI hb31 h0), grd_t (nzt hb31 h0)]
      simp only [bnd]
      rw [pk_rem ha (by omega) hb31]
      have hr : a % b < b := Nat.mod_lt _ (by omega)
      rw [f_X10_common_L13]
      by_cases h1 : a % b = 0
      · rw [h1, if_pos (show nI 0 = 0 from rfl), Nat.gcd_rec b a, h1, Nat.gcd_zero_left]
      · rw [if_neg (nz_nI (by omega) h1), grd_t (nzt (show a % b < 2 ^ 31 by omega) h1)]
        simp only [bnd]
        rw [pk_rem hb31 (by omega) (by omega), ih (a % b) (b % (a % b)) q' (by
          have := eu_half (show 0 < a % b by omega) hr
          rw [Nat.pow_succ] at hb
          omega) (by omega) (by omega) (by omega), Nat.gcd_rec b a, Nat.gcd_rec (a % b) b]
