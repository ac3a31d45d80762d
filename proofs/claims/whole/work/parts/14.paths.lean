-- loops with a state that is known at each step
theorem forL {σ ρ : Type} (F : Nat → Nat → σ → ρ) (e : Nat) (st : Nat → σ) (k : ρ) (hx : ∀ nf, F (nf + 1) e (st e) = k) (hs : ∀ i nf, i < e → F (nf + 1) i (st i) = F nf (i + 1) (st (i + 1))) : ∀ (m i nf : Nat), i + m = e → m < nf → F nf i (st i) = k := by
  intro m
  induction m with
  | zero =>
    intro i nf hi hf
    obtain ⟨nf, rfl⟩ : ∃ q, nf = q + 1 := ⟨nf - 1, by omega⟩
    have hi : i = e := by omega
    subst hi
    exact hx nf
  | succ m ih =>
    intro i nf hi hf
    obtain ⟨nf, rfl⟩ : ∃ q, nf = q + 1 := ⟨nf - 1, by omega⟩
    rw [hs i nf (by omega)]
    exact ih (i + 1) nf (by omega) (by omega)
/-- a loop that may end ahead of its time -/
theorem forS {ρ : Type} (F : Nat → Nat → ρ) (e : Nat) (k : ρ) (c : Nat → Bool) (r : Nat → ρ) (hx : ∀ nf, F (nf + 1) e = k) (hs : ∀ i nf, i < e → F (nf + 1) i = if c i then r i else F nf (i + 1)) : ∀ (m i nf : Nat), i + m = e → m < nf → (∃ q, i ≤ q ∧ q < e ∧ c q = true ∧ (∀ z, i ≤ z → z < q → c z = false) ∧ F nf i = r q) ∨ ((∀ z, i ≤ z → z < e → c z = false) ∧ F nf i = k) := by
  intro m
  induction m with
  | zero =>
    intro i nf hi hf
    obtain ⟨nf, rfl⟩ : ∃ q, nf = q + 1 := ⟨nf - 1, by omega⟩
    have hi : i = e := by omega
    subst hi
    exact Or.inr ⟨fun z h1 h2 => by omega, hx nf⟩
  | succ m ih =>
    intro i nf hi hf
    obtain ⟨nf, rfl⟩ : ∃ q, nf = q + 1 := ⟨nf - 1, by omega⟩
    rw [hs i nf (by omega)]
    by_cases h : c i = true
    · rw [if_pos h]
      exact Or.inl ⟨i, Nat.le_refl _, by omega, h, fun z h1 h2 => by omega, rfl⟩
    · rw [if_neg h]
      have h : c i = false := by
        cases hc : c i with
        | false => rfl
        | true => exact absurd hc h
      rcases ih (i + 1) nf (by omega) (by omega) with ⟨q, h1, h2, h3, h4, h5⟩ | ⟨h1, h2⟩
      · refine Or.inl ⟨q, by omega, h2, h3, fun z z1 z2 => ?_, h5⟩
        rcases Nat.lt_or_ge i z with w | w
        · exact h4 z (by omega) z2
        · have : z = i := by omega
          subst this
          exact h
      · refine Or.inr ⟨fun z z1 z2 => ?_, h2⟩
        rcases Nat.lt_or_ge i z with w | w
        · exact h1 z (by omega) z2
        · have : z = i := by omega
          subst this
          exact h
theorem le_t {a b : Nat} (h : a ≤ b) (hb : b < 2 ^ 31) : nI a ≤ nI b := nI_le h hb
theorem le_f {a b : Nat} (h : b < a) (ha : a < 2 ^ 31) : ¬ nI a ≤ nI b := nI_ge h ha
-- bits
theorem s_l : ∀ n, n < 32 → ((nI n &&& 31).toBitVec.smod 32).toNat = n := by decide
theorem shrB {v k : Nat} (hv : v < 2 ^ 31) (hk : k < 32) : nI v >>> (nI k &&& 31) = nI (v / 2 ^ k) := pk_shrN hv _ k (s_l k hk)
theorem and1 {v : Nat} (hv : v < 2 ^ 32) : nI v &&& 1 = nI (v % 2) := pk_andN hv 1 rfl
theorem tb_iff (v k : Nat) : v.testBit k = true ↔ v / 2 ^ k % 2 = 1 := by
  rw [Nat.testBit_eq_decide_div_mod_eq]
  exact decide_eq_true_iff
theorem tb_iff0 (v k : Nat) : v.testBit k = false ↔ v / 2 ^ k % 2 = 0 := by
  rw [Nat.testBit_eq_decide_div_mod_eq, decide_eq_false_iff_not]
  omega
theorem div_lt31 {v k : Nat} (hv : v < 2 ^ 31) : v / 2 ^ k < 2 ^ 31 := Nat.lt_of_le_of_lt (Nat.div_le_self _ _) hv
theorem bit_nI {v k : Nat} (hv : v < 2 ^ 31) (hk : k < 32) : (nI v >>> (nI k &&& 31)) &&& 1 = nI (v / 2 ^ k % 2) := by
  rw [shrB hv hk, and1 (Nat.lt_trans (div_lt31 hv) (by decide))]
def zI (b : Bool) : Int32 := if b then 1 else 0
theorem has_eq (N : Nat) {v k : Nat} (hv : v < 2 ^ 31) (hk : k < 32) : f_X10_has N (nI v) (nI k) = some (zI (v.testBit k)) := by
  rw [f_X10_has, bit_nI hv hk]
  cases h : v.testBit k with
  | true =>
    rw [(tb_iff v k).mp h]
    rfl
  | false =>
    rw [(tb_iff0 v k).mp h]
    rfl
theorem zI_0 (b : Bool) : (zI b = 0) ↔ b = false := by cases b <;> decide
-- paths by number
theorem hasPath_eq (N : Nat) (y : Int32) {G : Nat} (hG : G < 2 ^ 30) : f_X2_hasPath N y (nI G) = some (gz y G) := by
  have e := hasGate_eq N y hG
  rw [f_X2_hasGate] at e
  rw [f_X2_hasPath]
  exact e
theorem isPath_eq (N : Nat) (y : Int32) {G : Nat} (hG : G < 2 ^ 30) : f_X10_isPath N y (nI G) = some (gz y G) := by
  have e := isGate_eq N y hG
  rw [f_X10_isGate] at e
  rw [f_X10_isPath]
  exact e
-- sums over a set
def plen (d : Nat → Nat) (set : Nat) : Nat → Nat
  | 0 => 0
  | g + 1 => plen d set g + if set.testBit g then d g else 0
def csum (d : Nat → Nat) (set G : Nat) : Nat → Nat
  | 0 => 0
  | k + 1 => csum d set G k + d (nth set k G)
theorem ones_le (set : Nat) : ∀ G, ones set G ≤ G
  | 0 => Nat.le_refl _
  | G + 1 => by
    have h := ones_le set G
    unfold ones
    split <;> omega
theorem nth_up {set k g : Nat} (h : k < ones set g) : nth set k (g + 1) = nth set k g := by
  rw [nth, if_neg (by omega)]
theorem nth_lt {set : Nat} : ∀ {G k : Nat}, k < ones set G → nth set k G < G ∧ set.testBit (nth set k G) = true ∧ ones set (nth set k G) = k
  | 0, k, h => absurd h (Nat.not_lt_zero k)
  | G + 1, k, h => by
    rw [nth]
    by_cases q : ones set G = k ∧ set.testBit G = true
    · rw [if_pos q]
      exact ⟨Nat.lt_succ_self G, q.2, q.1⟩
    · rw [if_neg q]
      have h2 : k < ones set G := by
        rw [ones] at h
        by_cases hb : set.testBit G = true
        · rw [if_pos hb] at h
          rcases Nat.lt_or_ge k (ones set G) with w | w
          · exact w
          · exact absurd ⟨by omega, hb⟩ q
        · rw [if_neg hb] at h
          omega
      obtain ⟨h3, h4, h5⟩ := nth_lt h2
      exact ⟨by omega, h4, h5⟩
theorem csum_up (d : Nat → Nat) (set g : Nat) : ∀ m, m ≤ ones set g → csum d set (g + 1) m = csum d set g m
  | 0, _ => rfl
  | m + 1, h => by
    rw [csum, csum, csum_up d set g m (by omega), nth_up (by omega)]
theorem csum_plen (d : Nat → Nat) (set : Nat) : ∀ G, csum d set G (ones set G) = plen d set G
  | 0 => rfl
  | G + 1 => by
    rw [plen, ones]
    by_cases hb : set.testBit G = true
    · rw [if_pos hb, if_pos hb, csum, csum_up d set G _ (Nat.le_refl _), csum_plen d set G, nth, if_pos ⟨rfl, hb⟩]
    · rw [if_neg hb, if_neg hb]
      show csum d set (G + 1) (ones set G) = plen d set G
      rw [csum_up d set G _ (Nat.le_refl _), csum_plen d set G]
theorem plen_le {d : Nat → Nat} {set b : Nat} : ∀ {G : Nat}, (∀ g, g < G → d g ≤ b) → plen d set G ≤ G * b
  | 0, _ => Nat.zero_le _
  | G + 1, h => by
    have h1 := plen_le (set := set) (G := G) (fun g hg => h g (by omega))
    have h2 := h G (by omega)
    rw [plen, Nat.succ_mul]
    split <;> omega
theorem l8p (p k : Nat) : nI p * (8 : Int32) + nI k = nI (p * 8 + k) := by
  rw [show (8 : Int32) = nI 8 from rfl, pk_mul, nI_add]
/-- LENGTH of a path, as the class has it -/
theorem lenC_eq {N : Nat} (hN : 1000 ≤ N) {G : Nat} (hG : G ≤ 8) {L R : Nat → Nat} {P : List (Nat × Nat)} {paths : Int32} {starts sizes steps links delays : Nat → Int32} {d : Nat → Nat} (hP : PathC G L R P paths starts sizes steps links) (hd : ∀ g, g < G → delays g = nI (d g)) {p i set : Nat} (hp : P[p]? = some (i, set)) : f_X2_lengthOf N (nI p) delays sizes steps = some (nI (plen d set G)) := by
  have hpl : p < P.length := (List.getElem?_eq_some_iff.mp hp).1
  have hp55 := hP.2.1
  obtain ⟨h1, h2, h3, h4⟩ := hP.2.2 p i set hp
  have ho := ones_le set G
  rw [f_X2_lengthOf]
  simp only [bnd]
  have e := forL (fun nf q s => f_X2_lengthOf_L5 N (nI p) delays sizes steps (fun x => some x) nf s (nI q)) (ones set G) (fun q => nI (csum d set G q)) (some (nI (csum d set G (ones set G)))) (fun nf => by
    rw [f_X2_lengthOf_L5, grd_nI (show p < 55 by omega) (by decide), nI_clamp (by omega), h2, if_pos (le_t (Nat.le_refl _) (by omega))]) (fun q nf hq => by
    obtain ⟨w1, w2, w3⟩ := nth_lt hq
    rw [f_X2_lengthOf_L5, grd_nI (show p < 55 by omega) (by decide), nI_clamp (show p < 2 ^ 31 by omega), h2, if_neg (le_f hq (by omega)), l8p, grd_nI (show p * 8 + q < 440 by omega) (by decide), nI_clamp (show p * 8 + q < 2 ^ 31 by omega), h4 q hq, grd_nI (show nth set q G < 8 by omega) (by decide), nI_clamp (show nth set q G < 2 ^ 31 by omega), hd _ w1]
    simp only [bnd, nI_1, nI_add, csum]) (ones set G) 0 N (by omega) (by omega)
  rw [csum_plen] at e
  exact e
/-- LENGTH of a path, as the reference has it, on the level whose delays lie at base + 8 -/
theorem lenM_eq {N : Nat} (hN : 1000 ≤ N) {G lv : Nat} (hG : G ≤ 8) (hlv : lv ≤ 1) {P : List (Nat × Nat)} {paths : Int32} {pathInput pathGates now : Nat → Int32} {d : Nat → Nat} (hP : PathM P paths pathInput pathGates) (hset : ∀ (p i set : Nat), P[p]? = some (i, set) → set < 256) (hd : ∀ g, g < G → now (16 * lv + 8 + g) = nI (d g)) {p i set : Nat} (hp : P[p]? = some (i, set)) : f_X10_lengthOf N (nI lv) (nI p) (nI G) pathGates now = some (nI (plen d set G)) := by
  have hpl : p < P.length := (List.getElem?_eq_some_iff.mp hp).1
  have hp55 := hP.2.1
  obtain ⟨h1, h2⟩ := hP.2.2 p i set hp
  have hs := hset p i set hp
  rw [f_X10_lengthOf]
  simp only [bnd]
  exact forL (fun nf q s => f_X10_lengthOf_L5 N (nI lv) (nI p) (nI G) pathGates now (fun x => some x) nf s (nI q)) G (fun q => nI (plen d set q)) (some (nI (plen d set G))) (fun nf => by
    rw [f_X10_lengthOf_L5, if_pos (le_t (Nat.le_refl _) (by omega))]) (fun q nf hq => by
    rw [f_X10_lengthOf_L5, if_neg (le_f hq (by omega)), grd_nI (show p < 64 by omega) (by decide), nI_clamp (show p < 2 ^ 31 by omega), h2, has_eq N (by omega) (by omega)]
    simp only [obd1, bnd, zI_0]
    rw [plen]
    cases hb : set.testBit q with
    | false =>
      rw [if_pos rfl, if_neg (by decide), Nat.add_zero, nI_1]
      exact congrArg (fun z => f_X10_lengthOf_L5 N (nI lv) (nI p) (nI G) pathGates now (fun x => some x) nf z (nI (q + 1))) (Int32.add_zero _)
    | true =>
      rw [if_neg (by decide), if_pos rfl]
      have e16 : (16 : Int32) * nI lv + 8 + nI q = nI (16 * lv + 8 + q) := by
        rw [show (16 : Int32) = nI 16 from rfl, show (8 : Int32) = nI 8 from rfl, pk_mul, nI_add, nI_add]
      rw [e16, grd_nI (show 16 * lv + 8 + q < 32 by omega) (by decide), nI_clamp (show 16 * lv + 8 + q < 2 ^ 31 by omega), hd q hq, nI_add, nI_1]) G 0 N (by omega) (by omega)
