-- the reference's waves: a row of a hundred for each signal
section WM2
variable {n G : Nat} {L R nx κ d : Nat → Nat} {nt : Nat → Bool}
theorem Ws_full {pair g s : Nat} {t : Int} (h : Sg n g s) (hn : n ≤ 4) (hg : g ≤ G) : Ws L R κ d pair G s t = Ws L R κ d pair g s t := by
  have e := Ws_stay (L := L) (R := R) (κ := κ) (d := d) pair (g := g) (G - g) s t (Sg_lt h hn)
  rw [show g + (G - g) = G by omega] at e
  exact e
theorem Sg_up {g h s : Nat} (k : Sg n g s) (hh : g ≤ h) : Sg n h s := by
  rcases k with k | k
  · exact Or.inl k
  · exact Or.inr ⟨k.1, by omega⟩
/-- what the rows hold before instant t is done at gate g -/
def WInv (n G : Nat) (L R κ d : Nat → Nat) (pair t g : Nat) (W : Nat → Int32) : Prop := (∀ s u, Sg n G s → u < t → W (100 * s + u) = nI (Ws L R κ d pair G s u)) ∧ ∀ s, Sg n g s → W (100 * s + t) = nI (Ws L R κ d pair G s t)
theorem waveAt_eq (N : Nat) (hn : n ≤ 4) (hG : G ≤ 8) {pair t g s : Nat} {W bf : Nat → Int32} (hW : WInv n G L R κ d pair t g W) (hs : Sg n G s) (ht : t ≤ 100) (dl : Nat) (h1 : 1 ≤ dl) (h2 : dl ≤ 18) : f_X10_waveAt N (nI s) (nI t - nI dl) W (bfM L R κ (pair / 16) n bf G) = some (nI (Ws L R κ d pair G s ((t : Int) - dl))) := by
  have hs2 := Sg_lt hs hn
  have e := pk_sub_toInt (a := t) (b := dl) (by omega) (by omega)
  rw [f_X10_waveAt]
  by_cases h : dl ≤ t
  · have e2 : nI t - nI dl = nI (t - dl) := by
      rw [fa_eq, e, nI_toInt (by omega)]
      omega
    rw [e2, if_pos (show (0 : Int32) ≤ nI (t - dl) from le_t (Nat.zero_le _) (by omega)), show (100 : Int32) = nI 100 from rfl, pk_mul, nI_add, grd_nI (show 100 * s + (t - dl) < 1200 by omega) (by decide), nI_clamp (show 100 * s + (t - dl) < 2 ^ 31 by omega), hW.1 s (t - dl) hs (by omega), show ((t - dl : Nat) : Int) = (t : Int) - dl by omega]
  · rw [if_neg (by rw [fa_le, e]; show ¬ (0 : Int) ≤ _; omega), grd_nI (show s < 12 by omega) (by decide), nI_clamp (show s < 2 ^ 31 by omega), bfM_at hs hn, Ws_neg pair G s _ (by omega)]
theorem fw17 (N : Nat) (hn : n ≤ 4) (hG : G ≤ 8) {pair t : Nat} (ht : t < 100) (af : Nat → Int32) {ρ : Type} (J : (Nat → Int32) → Option ((Nat → Int32) × (Nat → Int32) × (Nat → Int32) × (Nat → Int32))) : ∀ (m i nf : Nat) (W : Nat → Int32), i + m = n → m < nf → (∀ s u, Sg n G s → u < t → W (100 * s + u) = nI (Ws L R κ d pair G s u)) → (∀ s, s < i → W (100 * s + t) = nI (Ws L R κ d pair G s t)) → ∃ W', f_X10_findWaves_L17 N (nI n) (bfM L R κ (pair % 16) n af G) (nI t) J nf (nI i) W = J W' ∧ WInv n G L R κ d pair t 0 W' := by
  intro m
  induction m with
  | zero =>
    intro i nf W hi hnf h1 h2
    obtain ⟨k, rfl⟩ : ∃ k, nf = k + 1 := ⟨nf - 1, by omega⟩
    rw [f_X10_findWaves_L17, if_pos (le_t (by omega) (by omega))]
    refine ⟨W, rfl, h1, fun s hs => h2 s ?_⟩
    rcases hs with hs | hs <;> omega
  | succ m ih =>
    intro i nf W hi hnf h1 h2
    obtain ⟨k, rfl⟩ : ∃ k, nf = k + 1 := ⟨nf - 1, by omega⟩
    have hs : Sg n 0 i := Or.inl (by omega)
    have hsG : Sg n G i := Sg_up hs (Nat.zero_le _)
    have er : bfM L R κ (pair % 16) n af G i = nI (Ws L R κ d pair G i t) := by
      rw [bfM_at hsG hn, Ws_full hs hn (Nat.zero_le _), Ws, if_neg (by omega)]
      have e := Bs_stay (L := L) (R := R) (κ := κ) (pair % 16) (g := 0) G i (by omega)
      rw [Nat.zero_add] at e
      rw [e]
      rfl
    rw [f_X10_findWaves_L17, if_neg (le_f (by omega) (by omega)), show (100 : Int32) = nI 100 from rfl, pk_mul, nI_add]
    simp only [bnd, grd_nI (show i < 12 by omega) (show 12 ≤ 2 ^ 31 by decide), grd_nI (show 100 * i + t < 1200 by omega) (show 1200 ≤ 2 ^ 31 by decide), nI_clamp (show i < 2 ^ 31 by omega), nI_clamp (show 100 * i + t < 2 ^ 31 by omega), nI_1, er]
    refine ih (i + 1) k _ (by omega) (by omega) (fun s u hs' hu => ?_) (fun s hs' => ?_)
    · rw [vp_upd_ne (by omega)]
      exact h1 s u hs' hu
    · by_cases hsi : s = i
      · subst hsi
        rw [vp_upd_eq]
      · rw [vp_upd_ne (by omega)]
        exact h2 s (by omega)
end WM2
