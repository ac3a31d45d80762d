-- slower: the reference
theorem lay_eq {N : Nat} (hN : 1000 ≤ N) (now : Nat → Int32) : ∃ w, f_X10_layTrial N now = some w ∧ ∀ i, i < 16 → w i = now i ∧ w (16 + i) = now i := by
  have key : ∀ (m i nf : Nat) (w : Nat → Int32), i + m = 16 → m < nf → (∀ j, j < 16 → w j = now j) → (∀ j, j < i → w (16 + j) = now j) → ∃ w', f_X10_layTrial_L2 N (fun w => some w) nf (nI i) w = some w' ∧ ∀ j, j < 16 → w' j = now j ∧ w' (16 + j) = now j := by
    intro m
    induction m with
    | zero =>
      intro i nf w hi hnf h1 h2
      obtain ⟨q, rfl⟩ : ∃ q, nf = q + 1 := ⟨nf - 1, by omega⟩
      rw [f_X10_layTrial_L2, if_pos (show (16 : Int32) ≤ nI i from le_t (a := 16) (by omega) (by omega))]
      exact ⟨w, rfl, fun j hj => ⟨h1 j hj, h2 j (by omega)⟩⟩
    | succ m ih =>
      intro i nf w hi hnf h1 h2
      obtain ⟨q, rfl⟩ : ∃ q, nf = q + 1 := ⟨nf - 1, by omega⟩
      rw [f_X10_layTrial_L2, if_neg (show ¬ (16 : Int32) ≤ nI i from le_f (a := 16) (by omega) (by decide)), show (16 : Int32) + nI i = nI (16 + i) from nI_add 16 i]
      simp only [bnd, grd_nI (show i < 32 by omega) (show 32 ≤ 2 ^ 31 by decide), grd_nI (show 16 + i < 32 by omega) (show 32 ≤ 2 ^ 31 by decide), nI_clamp (show i < 2 ^ 31 by omega), nI_clamp (show 16 + i < 2 ^ 31 by omega), nI_1]
      refine ih (i + 1) q _ (by omega) (by omega) (fun j hj => ?_) (fun j hj => ?_)
      · rw [updNe (by omega)]
        exact h1 j hj
      · by_cases e : j = i
        · subst e
          rw [updEq]
          exact h1 j (by omega)
        · rw [updNe (by omega)]
          exact h2 j (by omega)
  rw [f_X10_layTrial]
  simp only [bnd]
  exact key 16 0 N now (by omega) (by omega) (fun _ _ => rfl) (fun j hj => absurd hj (Nat.not_lt_zero _))
section SLM
variable {n G : Nat} {L R nx κ d : Nat → Nat} {nt : Nat → Bool}
theorem slM_L {N : Nat} (hN : 1000 ≤ N) (hC : Circ n G L R nt) (hκ : KOk G nt κ) (hd : ∀ g, g < G → 1 ≤ d g ∧ d g ≤ 9) {inputs gates : Int32} {one other next : Nat → Int32} (hNM : NetM n G L R nx nt inputs gates one other next) {k : Nat} (hk : k ≤ 6) {P T B : Nat → Nat} {pairs times lates : Nat → Int32} (hS : ∀ j, j < k → (P j < 256 ∧ pairs j = nI (P j)) ∧ (T j < 100 ∧ times j = nI (T j)) ∧ B j < 2 ∧ lates j = nI (B j)) {g : Nat} (hg : g < G) (J : Int32 → Int32 → (Nat → Int32) → (Nat → Int32) → (Nat → Int32) → (Nat → Int32) → (Nat → Int32) → Option (Int32 × (Nat → Int32) × (Nat → Int32) × (Nat → Int32) × (Nat → Int32) × (Nat → Int32))) : ∀ (m more nf : Nat) (s : Int32 × Nat) (now c1 c2 c3 c4 : Nat → Int32), more + m = 10 → 1 ≤ more → m < nf → s.2 + m ≤ 100 → SetM G κ d now 0 → ∃ now' c1' c2' c3' c4', f_X10_slower_L33 N inputs gates (nI k) pairs times other one lates (nI g) J nf (nI s.2) s.1 (nI more) now c1 c2 c3 c4 = J (nI (slI (fun g more => agA L R κ (upN d g (d g + more)) G P T B 0 k) g m more s).2) (slI (fun g more => agA L R κ (upN d g (d g + more)) G P T B 0 k) g m more s).1 now' c1' c2' c3' c4' ∧ SetM G κ d now' 0 := by
  intro m
  induction m with
  | zero =>
    intro more nf s now c1 c2 c3 c4 hm h1 hnf hs hM
    obtain ⟨q, rfl⟩ : ∃ q, nf = q + 1 := ⟨nf - 1, by omega⟩
    refine ⟨now, c1, c2, c3, c4, ?_, hM⟩
    rw [f_X10_slower_L33, if_pos (by rw [fa_lt, nI_toInt (by omega)]; show (9 : Int) < _; omega), slI]
  | succ m ih =>
    intro more nf s now c1 c2 c3 c4 hm h1 hnf hs hM
    obtain ⟨q, rfl⟩ : ∃ q, nf = q + 1 := ⟨nf - 1, by omega⟩
    have hG := hC.2.1
    obtain ⟨w, hw1, hw2⟩ := lay_eq hN now
    have hd2 : ∀ h, h < G → 1 ≤ upN d g (d g + more) h ∧ upN d g (d g + more) h ≤ 18 := by
      intro h hh
      have a := hd h hh
      have b := hd g hg
      unfold upN
      split <;> omega
    have hM8 : ∀ h, h < G → now (8 + h) = nI (d h) := fun h hh => by have := (hM h hh).2; rw [Nat.zero_add] at this; exact this
    have hM0 : ∀ h, h < G → now h = nI (κ h) := fun h hh => by have := (hM h hh).1; rw [Nat.zero_add] at this; exact this
    have hw24 : ∀ h, h < G → w (24 + h) = nI (d h) := fun h hh => by
      have := (hw2 (8 + h) (by omega)).2
      rw [show 16 + (8 + h) = 24 + h by omega] at this
      rw [this, hM8 h hh]
    have hdl2 : ∀ h, h < G → upd w (24 + g) (nI (d g + more)) (24 + h) = nI (upN d g (d g + more) h) := by
      intro h hh
      unfold upN upd
      by_cases e : h = g
      · rw [if_pos e, if_pos (by omega)]
      · rw [if_neg e, if_neg (by omega)]
        exact hw24 h hh
    have hK2 : ∀ h, h < G → upd w (24 + g) (nI (d g + more)) (16 + h) = nI (κ h) := by
      intro h hh
      rw [updNe (by omega), (hw2 h (by omega)).2, hM0 h hh]
    have hM2 : SetM G κ d (upd w (24 + g) (nI (d g + more))) 0 := by
      intro h hh
      rw [Nat.zero_add, Nat.zero_add, updNe (by omega), updNe (by omega), (hw2 h (by omega)).1, (hw2 (8 + h) (by omega)).1]
      exact ⟨hM0 h hh, hM8 h hh⟩
    rw [f_X10_slower_L33, if_neg (by rw [fa_lt, nI_toInt (by omega)]; show ¬ (9 : Int) < _; omega), hw1, show (24 : Int32) + nI g = nI (24 + g) from nI_add 24 g]
    have e10 : (10 : Int32) * nI g + nI more = nI (10 * g + more) := by
      rw [show (10 : Int32) = nI 10 from rfl, pk_mul, nI_add]
    simp only [bnd, obd1, grd_nI (show 24 + g < 32 by omega) (show 32 ≤ 2 ^ 31 by decide), nI_clamp (show 24 + g < 2 ^ 31 by omega), hw24 g hg, nI_add, nI_1, e10]
    obtain ⟨e1, e2, e3, e4, ha⟩ := agM_L hN hC (by omega) hκ hd2 hNM hK2 hdl2 hk hS _ k 0 N c1 c2 c3 c4 (by omega) (by omega)
    have hstep := ih (more + 1) q (slS (fun g more => agA L R κ (upN d g (d g + more)) G P T B 0 k) g more s) (upd w (24 + g) (nI (d g + more))) e1 e2 e3 e4 (by omega) (by omega) (by omega) (by
      have h2 : (slS (fun g more => agA L R κ (upN d g (d g + more)) G P T B 0 k) g more s).2 ≤ s.2 + 1 := by
        unfold slS
        split
        · exact Nat.le_refl _
        · omega
      omega) hM2
    obtain ⟨now', f1, f2, f3, f4, hx, hy⟩ := hstep
    refine ⟨now', f1, f2, f3, f4, ?_, hy⟩
    refine Eq.trans ha ?_
    rw [slI, ← hx]
    unfold slS
    by_cases hz : agA L R κ (upN d g (d g + more)) G P T B 0 k = true
    · simp only [hz, if_true, if_neg (show ¬ zI true = 0 by decide)]
      by_cases hc : s.2 = 0
      · rw [if_pos ((c0 (by omega)).mpr hc), if_pos hc]
      · rw [if_neg (fun z => hc ((c0 (by omega)).mp z)), if_neg hc]
    · rw [Bool.not_eq_true] at hz
      simp only [hz, Bool.false_eq_true, if_false, if_pos (show zI false = 0 by decide), Int32.add_zero]
end SLM
