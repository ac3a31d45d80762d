-- Euclid's steps
theorem nz_nI {b : Nat} (hb : b < 2 ^ 31) (h : b ≠ 0) : ¬ nI b = 0 := fun z => h ((c0 hb).mp z)
theorem eu_half {b r : Nat} (h0 : 0 < r) (h : r < b) : 2 * (b % r) < b + 1 := by
  have h1 := Nat.mod_lt b h0
  have h2 := Nat.div_add_mod b r
  have h3 : 1 ≤ b / r := (Nat.le_div_iff_mul_le h0).mpr (by omega)
  have h4 : r * 1 ≤ r * (b / r) := Nat.mul_le_mul_left _ h3
  omega
