-- sightings: bits of a pair past the inputs are not seen
def mskP (n p : Nat) : Nat := (p / 16 % 2 ^ n) * 16 + p % 16 % 2 ^ n
theorem mskP_lt : ∀ n, n < 5 → ∀ p, p < 256 → mskP n p < 256 := by decide +kernel
theorem mskP_tab : ∀ n, n < 5 → ∀ p, p < 256 → f_X2_pairWithin 0 (nI p) (nI n) = some (nI (mskP n p)) := by decide +kernel
theorem pairWithin_eq (N : Nat) {n p : Nat} (hn : n ≤ 4) (hp : p < 256) : f_X2_pairWithin N (nI p) (nI n) = some (nI (mskP n p)) := mskP_tab n (by omega) p hp
theorem mskP_bit : ∀ n, n < 5 → ∀ p, p < 256 → ∀ s, s < n → bitN (mskP n p / 16) s = bitN (p / 16) s ∧ bitN (mskP n p % 16) s = bitN (p % 16) s := by decide +kernel
section WJ
variable {n G : Nat} {L R nx κ d : Nat → Nat} {nt : Nat → Bool}
theorem Ws_msk (hn : n ≤ 4) (hg : ∀ g, g < G → Sg n g (L g) ∧ Sg n g (R g)) {p : Nat} (hp : p < 256) : ∀ g, g ≤ G → ∀ s t, Sg n g s → Ws L R κ d (mskP n p) g s t = Ws L R κ d p g s t := by
  intro g
  induction g with
  | zero =>
    intro _ s t hs
    have h : s < n := by rcases hs with h | h <;> omega
    have b := mskP_bit n (by omega) p hp s h
    rw [Ws, Ws, b.1, b.2]
  | succ g ih =>
    intro hG s t hs
    rw [Ws, Ws]
    have k := hg g (by omega)
    by_cases h : s = 4 + g
    · rw [if_pos h, if_pos h, ih (by omega) _ _ k.1, ih (by omega) _ _ k.2]
    · rw [if_neg h, if_neg h]
      refine ih (by omega) s t ?_
      rcases hs with hs | hs
      · exact Or.inl hs
      · exact Or.inr ⟨hs.1, by omega⟩
theorem Bs_msk (hn : n ≤ 4) (hg : ∀ g, g < G → Sg n g (L g) ∧ Sg n g (R g)) {p : Nat} (hp : p < 256) : ∀ g, g ≤ G → ∀ s, Sg n g s → Bs L R κ (mskP n p % 16) g s = Bs L R κ (p % 16) g s := by
  intro g
  induction g with
  | zero =>
    intro _ s hs
    have h : s < n := by rcases hs with h | h <;> omega
    exact (mskP_bit n (by omega) p hp s h).2
  | succ g ih =>
    intro hG s hs
    rw [Bs, Bs]
    have k := hg g (by omega)
    by_cases h : s = 4 + g
    · rw [if_pos h, if_pos h, ih (by omega) _ k.1, ih (by omega) _ k.2]
    · rw [if_neg h, if_neg h]
      refine ih (by omega) s ?_
      rcases hs with hs | hs
      · exact Or.inl hs
      · exact Or.inr ⟨hs.1, by omega⟩
theorem ltE_msk (hC : Circ n G L R nt) (h0 : 0 < G) {p t : Nat} (hp : p < 256) : ltE L R κ d G (mskP n p) t = ltE L R κ d G p t := by
  have hg : ∀ g, g < G → Sg n g (L g) ∧ Sg n g (R g) := fun g h => ⟨(hC.2.2.2.2 g h).1, (hC.2.2.2.2 g h).2.1⟩
  have hs : Sg n G (4 + (G - 1)) := Or.inr ⟨by omega, by omega⟩
  unfold ltE
  rw [Ws_msk hC.1 hg hp G (Nat.le_refl _) _ _ hs, Bs_msk hC.1 hg hp G (Nat.le_refl _) _ hs]
end WJ
