-- slower
section SLO
variable {n G : Nat} {L R nx κ d : Nat → Nat} {nt : Nat → Bool}
def slS (A : Nat → Nat → Bool) (g more : Nat) (s : Int32 × Nat) : Int32 × Nat := if A g more = true then (if s.2 = 0 then nI (10 * g + more) else s.1, s.2 + 1) else s
def slI (A : Nat → Nat → Bool) (g : Nat) : Nat → Nat → Int32 × Nat → Int32 × Nat
  | 0, _, s => s
  | m + 1, more, s => slI A g m (more + 1) (slS A g more s)
theorem slI_le (A : Nat → Nat → Bool) (g : Nat) : ∀ m more s, (slI A g m more s).2 ≤ s.2 + m
  | 0, _, s => Nat.le_refl _
  | m + 1, more, s => by
    have h := slI_le A g m (more + 1) (slS A g more s)
    have h2 : (slS A g more s).2 ≤ s.2 + 1 := by
      unfold slS
      split
      · exact Nat.le_refl _
      · omega
    rw [slI]
    omega
theorem c0 {c : Nat} (hc : c < 2 ^ 31) : nI c = 0 ↔ c = 0 := nI_eq (b := 0) hc (by decide)
theorem slC_L {N : Nat} (hN : 1000 ≤ N) (hC : Circ n G L R nt) (hκ : KOk G nt κ) (hd : ∀ g, g < G → 1 ≤ d g ∧ d g ≤ 9) {inputs gates : Int32} {lefts rights nexts kinds nowd : Nat → Int32} (hNC : NetC n G L R nx nt inputs gates lefts rights nexts) (hK : ∀ g, g < G → kinds g = nI (κ g)) (hD : ∀ g, g < G → nowd g = nI (d g)) {k : Nat} (hk : k ≤ 6) {P T B : Nat → Nat} {pairs times lates : Nat → Int32} (hS : ∀ j, j < k → (P j < 256 ∧ pairs j = nI (P j)) ∧ (T j < 100 ∧ times j = nI (T j)) ∧ B j < 2 ∧ lates j = nI (B j)) {g : Nat} (hg : g < G) (J : Int32 → Int32 → (Nat → Int32) → (Nat → Int64) → (Nat → Int64) → (Nat → Int64) → (Nat → Int64) → Option (Int32 × (Nat → Int32) × (Nat → Int32) × (Nat → Int64) × (Nat → Int64) × (Nat → Int64) × (Nat → Int64))) : ∀ (m more nf : Nat) (s : Int32 × Nat) (dl : Nat → Int32) (c1 c2 c3 c4 : Nat → Int64), more + m = 10 → 1 ≤ more → m < nf → s.2 + m ≤ 100 → (∀ h, h < G → h ≠ g → dl h = nI (d h)) → ∃ dl' c1' c2' c3' c4', f_X9_slower_L46 N inputs gates (nI k) nowd pairs lefts rights times lates kinds (nI g) J nf s.1 (nI s.2) (nI more) dl c1 c2 c3 c4 = J (slI (fun g more => agA L R κ (upN d g (d g + more)) G P T B 0 k) g m more s).1 (nI (slI (fun g more => agA L R κ (upN d g (d g + more)) G P T B 0 k) g m more s).2) dl' c1' c2' c3' c4' ∧ ∀ h, h < G → h ≠ g → dl' h = nI (d h) := by
  intro m
  induction m with
  | zero =>
    intro more nf s dl c1 c2 c3 c4 hm h1 hnf hs hdl
    obtain ⟨q, rfl⟩ : ∃ q, nf = q + 1 := ⟨nf - 1, by omega⟩
    refine ⟨dl, c1, c2, c3, c4, ?_, hdl⟩
    rw [f_X9_slower_L46, if_pos (by rw [fa_lt, nI_toInt (by omega)]; show (9 : Int) < _; omega), slI]
  | succ m ih =>
    intro more nf s dl c1 c2 c3 c4 hm h1 hnf hs hdl
    obtain ⟨q, rfl⟩ : ∃ q, nf = q + 1 := ⟨nf - 1, by omega⟩
    have hG := hC.2.1
    have hd2 : ∀ h, h < G → 1 ≤ upN d g (d g + more) h ∧ upN d g (d g + more) h ≤ 18 := by
      intro h hh
      have a := hd h hh
      have b := hd g hg
      unfold upN
      split <;> omega
    have hdl2 : ∀ h, h < G → upd dl g (nI (d g + more)) h = nI (upN d g (d g + more) h) := by
      intro h hh
      unfold upN upd
      by_cases e : h = g
      · rw [if_pos e, if_pos e]
      · rw [if_neg e, if_neg e]
        exact hdl h hh e
    obtain ⟨e1, e2, e3, e4, ha⟩ := agC hN hC (by omega) hκ hd2 hNC hK hdl2 hk hS c1 c2 c3 c4
    rw [f_X9_slower_L46, if_neg (by rw [fa_lt, nI_toInt (by omega)]; show ¬ (9 : Int) < _; omega)]
    simp only [bnd, grd_nI (show g < 8 by omega) (show 8 ≤ 2 ^ 31 by decide), nI_clamp (show g < 2 ^ 31 by omega), hD g hg, nI_add, ha, obd5, nI_1]
    have e10 : (10 : Int32) * nI g + nI more = nI (10 * g + more) := by
      rw [show (10 : Int32) = nI 10 from rfl, pk_mul, nI_add]
    have hstep := ih (more + 1) q (slS (fun g more => agA L R κ (upN d g (d g + more)) G P T B 0 k) g more s) (upd dl g (nI (d g + more))) e1 e2 e3 e4 (by omega) (by omega) (by omega) (by
      have h2 : (slS (fun g more => agA L R κ (upN d g (d g + more)) G P T B 0 k) g more s).2 ≤ s.2 + 1 := by
        unfold slS
        split
        · exact Nat.le_refl _
        · omega
      omega) (fun h hh hne => by rw [updNe hne]; exact hdl h hh hne)
    rw [slI]
    rw [e10]
    unfold slS at hstep ⊢
    by_cases hz : agA L R κ (upN d g (d g + more)) G P T B 0 k = true
    · simp only [hz, if_true] at hstep ⊢
      rw [if_neg (by decide)]
      by_cases hc : s.2 = 0
      · rw [if_pos ((c0 (by omega)).mpr hc)]
        rw [if_pos hc] at hstep ⊢
        exact hstep
      · rw [if_neg (fun z => hc ((c0 (by omega)).mp z))]
        rw [if_neg hc] at hstep ⊢
        exact hstep
    · rw [Bool.not_eq_true] at hz
      simp only [hz, Bool.false_eq_true, if_false] at hstep ⊢
      rw [if_pos (by decide)]
      exact hstep
end SLO
