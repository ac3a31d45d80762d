-- ACTS: the row of the class (what was), the ring of the reference (whole snapshots)
def cpR (now row : Nat → Int32) (t i : Nat) : Nat → Int32 := fun k => if 16 * t ≤ k ∧ k < 16 * t + i then now (k - 16 * t) else row k
theorem cpR_0 (now row : Nat → Int32) (t : Nat) : cpR now row t 0 = row := by
  funext k
  unfold cpR
  rw [if_neg (by omega)]
theorem cpR_s (now row : Nat → Int32) (t i : Nat) : upd (cpR now row t i) (16 * t + i) (now i) = cpR now row t (i + 1) := by
  funext k
  by_cases h : k = 16 * t + i
  · subst h
    rw [pk_us]
    unfold cpR
    rw [if_pos (by omega)]
    exact congrArg now (by omega)
  · rw [pk_un h]
    unfold cpR
    by_cases h2 : 16 * t ≤ k ∧ k < 16 * t + i
    · rw [if_pos h2, if_pos (by omega)]
    · rw [if_neg h2, if_neg (by omega)]
theorem cpR_in {now row : Nat → Int32} {t i k : Nat} (h : k < i) : cpR now row t i (16 * t + k) = now k := by
  unfold cpR
  rw [if_pos (by omega)]
  exact congrArg now (by omega)
theorem cpR_out {now row : Nat → Int32} {t i k : Nat} (h : k < 16 * t ∨ 16 * t + i ≤ k) : cpR now row t i k = row k := by
  unfold cpR
  rw [if_neg (by omega)]
theorem l16 (t i : Nat) : (16 : Int32) * nI t + nI i = nI (16 * t + i) := by
  rw [show (16 : Int32) = nI 16 from rfl, pk_mul, nI_add]
theorem le_lit {a k : Nat} (ha : a < 2 ^ 31) (hk : k < 2 ^ 31) : (nI k ≤ nI a) ↔ k ≤ a := nI_leI hk ha
theorem keepAct_L (N t : Nat) (ht : t < 14) (now row : Nat → Int32) (j : (Nat → Int32) → Option (Int32 × Int32 × (Nat → Int32))) : ∀ (m i nf : Nat), i + m = 16 → m < nf → f_X10_keepAct_L2 N (nI t) now j nf (nI i) (cpR now row t i) = j (cpR now row t 16) := by
  intro m
  induction m with
  | zero =>
    intro i nf hi hf
    obtain ⟨nf, rfl⟩ : ∃ q, nf = q + 1 := ⟨nf - 1, by omega⟩
    have hi : i = 16 := by omega
    subst hi
    rw [f_X10_keepAct_L2, if_pos (show (16 : Int32) ≤ nI 16 from show nI 16 ≤ nI 16 from (nI_leI (by decide) (by decide)).mpr (Nat.le_refl _))]
  | succ m ih =>
    intro i nf hi hf
    obtain ⟨nf, rfl⟩ : ∃ q, nf = q + 1 := ⟨nf - 1, by omega⟩
    rw [f_X10_keepAct_L2, if_neg (show ¬ (16 : Int32) ≤ nI i from show ¬ nI 16 ≤ nI i from fun h => by have := (nI_leI (by decide) (by omega)).mp h; omega), l16]
    rw [grd_nI (show i < 32 by omega) (by decide), grd_nI (show 16 * t + i < 224 by omega) (by decide), nI_clamp (show i < 2 ^ 31 by omega), nI_clamp (show 16 * t + i < 2 ^ 31 by omega), cpR_s]
    simp only [bnd, nI_1]
    exact ih (i + 1) nf (by omega) (by omega)
theorem keepAct_eq {N : Nat} (hN : 1000 ≤ N) {a t : Nat} (ha : a ≤ 14) (ht : t < 14) (now row : Nat → Int32) : f_X10_keepAct N (nI a) (nI t) now row = some (nI (if a < 14 then a + 1 else 14), nI ((t + 1) % 14), cpR now row t 16) := by
  rw [f_X10_keepAct]
  simp only [bnd]
  have e := keepAct_L N t ht now row (fun k_row_1 => if (14 : Int32) ≤ nI a then some ((14 : Int32), nI t + 1 - (nI t + 1) / 14 * 14, k_row_1) else some (nI a + 1, nI t + 1 - (nI t + 1) / 14 * 14, k_row_1)) 16 0 N (by omega) (by omega)
  rw [cpR_0] at e
  refine e.trans ?_
  have e14 : (14 : Int32) = nI 14 := rfl
  rw [nI_1, nI_1, e14, pk_rem (by omega) (by decide) (by decide)]
  by_cases h : a < 14
  · rw [if_neg (fun q => by have := (nI_leI (by decide) (by omega)).mp q; omega), if_pos h]
  · rw [if_pos ((nI_leI (by decide) (by omega)).mpr (by omega)), if_neg h]
theorem nar0 : vp_nar .boolean 0 = 0 := rfl
theorem nar1 : vp_nar .boolean 1 = 1 := rfl
def shF (f f0 : Nat → Int32) (i : Nat) : Nat → Int32 := fun k => if k + 1 < i then f (k + 1) else f0 k
theorem shF_1 (f : Nat → Int32) : shF f f 1 = f := by
  funext k
  unfold shF
  rw [if_neg (by omega)]
theorem shF_at {f : Nat → Int32} {i : Nat} : shF f f i i = f i := by
  unfold shF
  rw [if_neg (by omega)]
theorem shF_s (f : Nat → Int32) {i : Nat} (hi : 0 < i) : upd (shF f f i) (i - 1) (f i) = shF f f (i + 1) := by
  funext k
  by_cases h : k = i - 1
  · subst h
    rw [pk_us]
    unfold shF
    rw [if_pos (by omega)]
    exact congrArg f (by omega)
  · rw [pk_un h]
    unfold shF
    by_cases h2 : k + 1 < i
    · rw [if_pos h2, if_pos (by omega)]
    · rw [if_neg h2, if_neg (by omega)]
theorem m1_nI {i : Nat} (h : 0 < i) : nI i - 1 = nI (i - 1) := by
  have e := pk_sub (a := i) (b := 1) h
  exact e
theorem forget_L (N : Nat) (gs ts os : Nat → Int32) (hts : ∀ k, k < 14 → vp_nar .boolean (ts k) = ts k) (j : (Nat → Int32) → (Nat → Int32) → (Nat → Int32) → Option (Int32 × (Nat → Int32) × (Nat → Int32) × (Nat → Int32))) : ∀ (m i nf : Nat), 0 < i → i + m = 14 → m < nf → f_X0_forgetFirst_L2 N j nf (nI i) (shF gs gs i) (shF ts ts i) (shF os os i) = j (shF gs gs 14) (shF ts ts 14) (shF os os 14) := by
  intro m
  induction m with
  | zero =>
    intro i nf h0 hi hf
    obtain ⟨nf, rfl⟩ : ∃ q, nf = q + 1 := ⟨nf - 1, by omega⟩
    have hi : i = 14 := by omega
    subst hi
    rw [f_X0_forgetFirst_L2, if_pos (show (14 : Int32) ≤ nI 14 from show nI 14 ≤ nI 14 from (nI_leI (by decide) (by decide)).mpr (Nat.le_refl _))]
  | succ m ih =>
    intro i nf h0 hi hf
    obtain ⟨nf, rfl⟩ : ∃ q, nf = q + 1 := ⟨nf - 1, by omega⟩
    rw [f_X0_forgetFirst_L2, if_neg (show ¬ (14 : Int32) ≤ nI i from show ¬ nI 14 ≤ nI i from fun h => by have := (nI_leI (by decide) (by omega)).mp h; omega), m1_nI h0]
    simp only [grd_nI (show i < 14 by omega) (show 14 ≤ 2 ^ 31 by decide), grd_nI (show i - 1 < 14 by omega) (show 14 ≤ 2 ^ 31 by decide), bnd, nI_clamp (show i < 2 ^ 31 by omega), nI_clamp (show i - 1 < 2 ^ 31 by omega), nI_1, shF_at, hts i (by omega), shF_s _ h0]
    exact ih (i + 1) nf (by omega) (by omega) (by omega)
theorem forget_eq {N : Nat} (hN : 1000 ≤ N) (sz : Int32) (gs ts os : Nat → Int32) (hts : ∀ k, k < 14 → vp_nar .boolean (ts k) = ts k) : f_X0_forgetFirst N sz gs ts os = some (nI 13, shF gs gs 14, shF ts ts 14, shF os os 14) := by
  rw [f_X0_forgetFirst]
  simp only [bnd]
  have e := forget_L N gs ts os hts (fun a b c => some (nI 13, a, b, c)) 13 1 N (by decide) (by omega) (by omega)
  rw [shF_1, shF_1, shF_1] at e
  exact e
/-- one more act: what the class's row holds behind it -/
theorem add_eq {N : Nat} (hN : 1000 ≤ N) (y1 b old : Int32) (hb : vp_nar .boolean b = b) {a : Nat} (ha : a ≤ 14) (gs ts os : Nat → Int32) (hts : ∀ k, k < a → vp_nar .boolean (ts k) = ts k) :
    ∃ gs' ts' os', f_X0_add N y1 b old (nI a) gs ts os = some (nI (if a < 14 then a + 1 else 14), gs', ts', os') ∧
      (∀ j, j < (if a < 14 then a + 1 else 14) → j = 0 ∨ (gs' ((if a < 14 then a + 1 else 14) - 1 - j) = gs (a - 1 - (j - 1)) ∧ ts' ((if a < 14 then a + 1 else 14) - 1 - j) = ts (a - 1 - (j - 1)) ∧ os' ((if a < 14 then a + 1 else 14) - 1 - j) = os (a - 1 - (j - 1)))) ∧
      gs' ((if a < 14 then a + 1 else 14) - 1) = y1 ∧ ts' ((if a < 14 then a + 1 else 14) - 1) = b ∧ os' ((if a < 14 then a + 1 else 14) - 1) = old := by
  rw [f_X0_add]
  simp only [bnd]
  by_cases h : a < 14
  · rw [if_pos h, if_pos (show nI a < (14 : Int32) from show nI a < nI 14 from (nI_ltI (by omega) (by decide)).mpr h)]
    simp only [grd_nI h (show 14 ≤ 2 ^ 31 by decide), nI_clamp (show a < 2 ^ 31 by omega), nI_1, hb]
    refine ⟨_, _, _, rfl, ?_, ?_, ?_, ?_⟩
    · intro j hj
      rcases Nat.eq_zero_or_pos j with h0 | h0
      · exact Or.inl h0
      · refine Or.inr ?_
        have e : a + 1 - 1 - j = a - 1 - (j - 1) := by omega
        rw [e, pk_un (by omega), pk_un (by omega), pk_un (by omega)]
        exact ⟨rfl, rfl, rfl⟩
    · rw [show a + 1 - 1 = a by omega, pk_us]
    · rw [show a + 1 - 1 = a by omega, pk_us]
    · rw [show a + 1 - 1 = a by omega, pk_us]
  · have ea : a = 14 := by omega
    subst ea
    rw [if_neg h, if_neg (show ¬ nI 14 < (14 : Int32) from show ¬ nI 14 < nI 14 from fun q => by have := (nI_ltI (by decide) (by decide)).mp q; omega), forget_eq hN _ _ _ _ hts]
    simp only [obd4, grd_nI (show 13 < 14 by decide) (show 14 ≤ 2 ^ 31 by decide), nI_clamp (show 13 < 2 ^ 31 by decide), nI_1, hb]
    refine ⟨_, _, _, rfl, ?_, ?_, ?_, ?_⟩
    · intro j hj
      rcases Nat.eq_zero_or_pos j with h0 | h0
      · exact Or.inl h0
      · refine Or.inr ?_
        rw [pk_un (by omega), pk_un (by omega), pk_un (by omega)]
        unfold shF
        rw [if_pos (by omega), if_pos (by omega), if_pos (by omega)]
        have e : 14 - 1 - j + 1 = 14 - 1 - (j - 1) := by omega
        rw [e]
        exact ⟨rfl, rfl, rfl⟩
    · rw [show 14 - 1 = 13 from rfl, pk_us]
    · rw [show 14 - 1 = 13 from rfl, pk_us]
    · rw [show 14 - 1 = 13 from rfl, pk_us]
theorem SetM_at {G : Nat} (hG : G ≤ 8) {κ d : Nat → Nat} {now row : Nat → Int32} {t : Nat} (h : SetM G κ d now 0) : SetM G κ d (cpR now row t 16) (16 * t) := by
  intro g hg
  obtain ⟨h1, h2⟩ := h g hg
  rw [cpR_in (show g < 16 by omega), show 16 * t + 8 + g = 16 * t + (8 + g) by omega, cpR_in (show 8 + g < 16 by omega)]
  rw [Nat.zero_add] at h1
  exact ⟨h1, by first | (rw [← h2]; done) | (rw [← h2]; exact congrArg now (by omega))⟩
theorem SetM_keep {G : Nat} (hG : G ≤ 8) {κ d : Nat → Nat} {now row : Nat → Int32} {t q : Nat} (hq : q ≠ t) (h : SetM G κ d row (16 * q)) : SetM G κ d (cpR now row t 16) (16 * q) := by
  intro g hg
  rw [cpR_out (by omega), cpR_out (by omega)]
  exact h g hg
/-- both rows take one more act in: g0 got another kind (b = 1) or delay (b = 0) -/
theorem acts_push {N : Nat} (hN : 1000 ≤ N) {G : Nat} (hG : G ≤ 8) {nt : Nat → Bool} {κ d κ' d' : Nat → Nat} {size acts turn : Int32} {gates turned olds row now : Nat → Int32} (hA : RActs G nt κ d size gates turned olds acts turn row) (hok : SetOk G nt κ d) (hM : SetM G κ d now 0) {g0 : Nat} (hg0 : g0 < G) (hne : ∀ g, g < G → g ≠ g0 → κ g = κ' g ∧ d g = d' g) (b old : Int32) (hb : (b = 1 ∧ old = nI (κ g0) ∧ d g0 = d' g0) ∨ (b = 0 ∧ old = nI (d g0) ∧ κ g0 = κ' g0)) :
    ∃ size' gates' turned' olds' acts' turn' row', f_X0_add N (nI g0) b old size gates turned olds = some (size', gates', turned', olds') ∧ f_X10_keepAct N acts turn now row = some (acts', turn', row') ∧ RActs G nt κ' d' size' gates' turned' olds' acts' turn' row' := by
  obtain ⟨a, t, K, E, ha, ht, rfl, rfl, rfl, h0, hj⟩ := hA
  have hts : ∀ k, k < a → vp_nar .boolean (turned k) = turned k := by
    intro k hk
    obtain ⟨-, -, g1, -, -, -, q⟩ := hj (a - 1 - k) (by omega)
    rw [show a - 1 - (a - 1 - k) = k by omega] at q
    rcases q with q | q
    · rw [q.1]; rfl
    · rw [q.1]; rfl
  obtain ⟨gs', ts', os', e1, hold, hg', ht', ho'⟩ := add_eq hN (nI g0) b old (by rcases hb with q | q <;> rw [q.1] <;> rfl) ha gates turned olds hts
  refine ⟨_, gs', ts', os', _, _, _, e1, keepAct_eq hN ha ht now row, (if a < 14 then a + 1 else 14), (t + 1) % 14, (fun j => match j with | 0 => κ' | 1 => κ | j + 2 => K (j + 1)), (fun j => match j with | 0 => d' | 1 => d | j + 2 => E (j + 1)), by split <;> omega, by omega, rfl, rfl, rfl, fun g _ => ⟨rfl, rfl⟩, ?_⟩
  intro j hj'
  match j, hj' with
  | 0, _ =>
    refine ⟨hok, ?_, g0, hg0, ?_, hne, ?_⟩
    · rw [show ((t + 1) % 14 + 13 - 0) % 14 = t by omega]
      exact SetM_at hG hM
    · exact hg'
    · show (ts' _ = 1 ∧ os' _ = nI (κ g0) ∧ d g0 = d' g0) ∨ (ts' _ = 0 ∧ os' _ = nI (d g0) ∧ κ g0 = κ' g0)
      rw [Nat.sub_zero, ht', ho']
      exact hb
  | j + 1, hj' =>
    have hja : j < a := by
      revert hj'
      split <;> omega
    have hj13 : j < 13 := by
      revert hj'
      split <;> omega
    obtain ⟨q1, q2, g1, hg1, q3, q4, q5⟩ := hj j hja
    rcases hold (j + 1) hj' with z | ⟨z1, z2, z3⟩
    · omega
    · rw [Nat.add_sub_cancel] at z1 z2 z3
      refine ⟨q1, ?_, g1, hg1, z1.trans q3, ?_, ?_⟩
      · rw [show ((t + 1) % 14 + 13 - (j + 1)) % 14 = (t + 13 - j) % 14 by omega]
        exact SetM_keep hG (by omega) q2
      · intro g hg hgn
        obtain ⟨w1, w2⟩ := q4 g hg hgn
        match j with
        | 0 => exact ⟨w1.trans (h0 g hg).1, w2.trans (h0 g hg).2⟩
        | j + 1 => exact ⟨w1, w2⟩
      · rw [z2, z3]
        match j with
        | 0 =>
          rcases q5 with q5 | q5
          · exact Or.inl ⟨q5.1, q5.2.1, q5.2.2.trans (h0 g1 hg1).2⟩
          · exact Or.inr ⟨q5.1, q5.2.1, q5.2.2.trans (h0 g1 hg1).1⟩
        | j + 1 => exact q5
