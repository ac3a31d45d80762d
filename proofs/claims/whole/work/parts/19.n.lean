-- slower: over the gates
def slG (A : Nat → Nat → Bool) : Nat → Nat → Int32 × Nat → Int32 × Nat
  | 0, _, s => s
  | m + 1, g, s => slG A m (g + 1) (slI A g 9 1 s)
section SLN
variable {n G : Nat} {L R nx κ d : Nat → Nat} {nt : Nat → Bool}
theorem slC_G {N : Nat} (hN : 1000 ≤ N) (hC : Circ n G L R nt) (hκ : KOk G nt κ) (hd : ∀ g, g < G → 1 ≤ d g ∧ d g ≤ 9) {inputs : Int32} {lefts rights nexts kinds nowd : Nat → Int32} (hNC : NetC n G L R nx nt inputs (nI G) lefts rights nexts) (hK : ∀ g, g < G → kinds g = nI (κ g)) (hD : ∀ g, g < G → nowd g = nI (d g)) {k : Nat} (hk : k ≤ 6) {P T B : Nat → Nat} {pairs times lates : Nat → Int32} (hS : ∀ j, j < k → (P j < 256 ∧ pairs j = nI (P j)) ∧ (T j < 100 ∧ times j = nI (T j)) ∧ B j < 2 ∧ lates j = nI (B j)) (J : Int32 → Int32 → (Nat → Int32) → (Nat → Int64) → (Nat → Int64) → (Nat → Int64) → (Nat → Int64) → Option (Int32 × (Nat → Int32) × (Nat → Int32) × (Nat → Int64) × (Nat → Int64) × (Nat → Int64) × (Nat → Int64))) : ∀ (m g nf : Nat) (s : Int32 × Nat) (dl : Nat → Int32) (c1 c2 c3 c4 : Nat → Int64), g + m = G → m < nf → s.2 ≤ 9 * g → (∀ h, h < G → dl h = nI (d h)) → ∃ dl' c1' c2' c3' c4', f_X9_slower_L31 N inputs (nI G) (nI k) nowd pairs lefts rights times lates kinds J nf s.1 (nI s.2) (nI g) dl c1 c2 c3 c4 = J (slG (fun g more => agA L R κ (upN d g (d g + more)) G P T B 0 k) m g s).1 (nI (slG (fun g more => agA L R κ (upN d g (d g + more)) G P T B 0 k) m g s).2) dl' c1' c2' c3' c4' := by
  have hG := hC.2.1
  intro m
  induction m with
  | zero =>
    intro g nf s dl c1 c2 c3 c4 hm hnf hs hdl
    obtain ⟨q, rfl⟩ : ∃ q, nf = q + 1 := ⟨nf - 1, by omega⟩
    refine ⟨dl, c1, c2, c3, c4, ?_⟩
    rw [f_X9_slower_L31, if_pos (le_t (by omega) (by omega)), slG]
  | succ m ih =>
    intro g nf s dl c1 c2 c3 c4 hm hnf hs hdl
    obtain ⟨q, rfl⟩ : ∃ q, nf = q + 1 := ⟨nf - 1, by omega⟩
    have hg : g < G := by omega
    rw [f_X9_slower_L31, if_neg (le_f (by omega) (by omega))]
    simp only [bnd, grd_nI (show g < 8 by omega) (show 8 ≤ 2 ^ 31 by decide), nI_clamp (show g < 2 ^ 31 by omega), hD g hg, nI_1]
    obtain ⟨dl1, e1, e2, e3, e4, hx, hy⟩ := slC_L hN hC hκ hd hNC hK hD hk hS hg (fun x2 x3 w a b c e => f_X9_slower_L31 N inputs (nI G) (nI k) nowd pairs lefts rights times lates kinds J q x2 x3 (nI (g + 1)) (upd w g (nI (d g))) a b c e) 9 1 N s dl c1 c2 c3 c4 (by omega) (by omega) (by omega) (by omega) (fun h hh _ => hdl h hh)
    have hle := slI_le (fun g more => agA L R κ (upN d g (d g + more)) G P T B 0 k) g 9 1 s
    obtain ⟨dl2, f1, f2, f3, f4, hz⟩ := ih (g + 1) q (slI (fun g more => agA L R κ (upN d g (d g + more)) G P T B 0 k) g 9 1 s) (upd dl1 g (nI (d g))) e1 e2 e3 e4 (by omega) (by omega) (by omega) (fun h hh => by
      by_cases e : h = g
      · subst e
        rw [updEq]
      · rw [updNe e]
        exact hy h hh e)
    exact ⟨dl2, f1, f2, f3, f4, hx.trans hz⟩
theorem slM_G {N : Nat} (hN : 1000 ≤ N) (hC : Circ n G L R nt) (hκ : KOk G nt κ) (hd : ∀ g, g < G → 1 ≤ d g ∧ d g ≤ 9) {inputs : Int32} {one other next : Nat → Int32} (hNM : NetM n G L R nx nt inputs (nI G) one other next) {k : Nat} (hk : k ≤ 6) {P T B : Nat → Nat} {pairs times lates : Nat → Int32} (hS : ∀ j, j < k → (P j < 256 ∧ pairs j = nI (P j)) ∧ (T j < 100 ∧ times j = nI (T j)) ∧ B j < 2 ∧ lates j = nI (B j)) (J : Int32 → Int32 → (Nat → Int32) → (Nat → Int32) → (Nat → Int32) → (Nat → Int32) → (Nat → Int32) → Option (Int32 × (Nat → Int32) × (Nat → Int32) × (Nat → Int32) × (Nat → Int32) × (Nat → Int32))) : ∀ (m g nf : Nat) (s : Int32 × Nat) (now c1 c2 c3 c4 : Nat → Int32), g + m = G → m < nf → s.2 ≤ 9 * g → SetM G κ d now 0 → ∃ now' c1' c2' c3' c4', f_X10_slower_L21 N inputs (nI G) (nI k) pairs times other one lates J nf (nI s.2) s.1 (nI g) now c1 c2 c3 c4 = J (nI (slG (fun g more => agA L R κ (upN d g (d g + more)) G P T B 0 k) m g s).2) (slG (fun g more => agA L R κ (upN d g (d g + more)) G P T B 0 k) m g s).1 now' c1' c2' c3' c4' ∧ SetM G κ d now' 0 := by
  have hG := hC.2.1
  intro m
  induction m with
  | zero =>
    intro g nf s now c1 c2 c3 c4 hm hnf hs hM
    obtain ⟨q, rfl⟩ : ∃ q, nf = q + 1 := ⟨nf - 1, by omega⟩
    refine ⟨now, c1, c2, c3, c4, ?_, hM⟩
    rw [f_X10_slower_L21, if_pos (le_t (by omega) (by omega)), slG]
  | succ m ih =>
    intro g nf s now c1 c2 c3 c4 hm hnf hs hM
    obtain ⟨q, rfl⟩ : ∃ q, nf = q + 1 := ⟨nf - 1, by omega⟩
    have hg : g < G := by omega
    rw [f_X10_slower_L21, if_neg (le_f (by omega) (by omega))]
    simp only [bnd, nI_1]
    obtain ⟨now1, e1, e2, e3, e4, hx, hy⟩ := slM_L hN hC hκ hd hNM hk hS hg (fun x2 x3 w a b c e => f_X10_slower_L21 N inputs (nI G) (nI k) pairs times other one lates J q x2 x3 (nI (g + 1)) w a b c e) 9 1 N s now c1 c2 c3 c4 (by omega) (by omega) (by omega) (by omega) hM
    have hle := slI_le (fun g more => agA L R κ (upN d g (d g + more)) G P T B 0 k) g 9 1 s
    obtain ⟨now2, f1, f2, f3, f4, hz, hw⟩ := ih (g + 1) q (slI (fun g more => agA L R κ (upN d g (d g + more)) G P T B 0 k) g 9 1 s) now1 e1 e2 e3 e4 (by omega) (by omega) (by omega) hy
    exact ⟨now2, f1, f2, f3, f4, hx.trans hz, hw⟩
end SLN
