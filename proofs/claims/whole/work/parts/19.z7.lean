-- the paths, in both
/-- the class's set: gate 0 is the highest bit -/
def sgm (G c : Nat) : Nat := rev8 (c * 2 ^ (8 - G))
theorem sgm_tab : ∀ G, G < 9 → ∀ c, c < 2 ^ G → sgm G c < 2 ^ G ∧ ∀ g, g < G → (sgm G c).testBit g = c.testBit (G - 1 - g) := by decide +kernel
theorem ends_tab : ∀ G, G < 9 → 0 < G → ∀ v, v < 256 → (rev8 v / 2 ^ (G - 1) = 1 ↔ v % 2 ^ (9 - G) = 2 ^ (8 - G)) := by decide +kernel
def cps (G : Nat) (L R : Nat → Nat) (i : Nat) : Nat → List Nat
  | 0 => []
  | m + 1 => (if (fl L R i (sgm G (2 * m + 1)) G).2 = true then [sgm G (2 * m + 1)] else []) ++ cps G L R i m
theorem ps_cps {G : Nat} {L R : Nat → Nat} {i : Nat} (h0 : 0 < G) (hG : G ≤ 8) : ∀ v, v < 256 → psets G L R i v = cps G L R i ((v + 2 ^ (8 - G)) / 2 ^ (9 - G))
  | 0, _ => by
    rcases (show G = 1 ∨ G = 2 ∨ G = 3 ∨ G = 4 ∨ G = 5 ∨ G = 6 ∨ G = 7 ∨ G = 8 by omega) with rfl | rfl | rfl | rfl | rfl | rfl | rfl | rfl <;> rfl
  | v + 1, hv => by
    have ih := ps_cps (L := L) (R := R) (i := i) h0 hG v (by omega)
    have he := ends_tab G (by omega) h0 (v + 1) hv
    have hw : 2 ^ (9 - G) = 2 * 2 ^ (8 - G) := by
      rw [show 9 - G = (8 - G) + 1 by omega, Nat.pow_succ, Nat.mul_comm]
    rw [psets, ih]
    by_cases hc : (v + 1) % 2 ^ (9 - G) = 2 ^ (8 - G)
    · have hdiv : (v + 1 + 2 ^ (8 - G)) / 2 ^ (9 - G) = (v + 2 ^ (8 - G)) / 2 ^ (9 - G) + 1 ∧ v + 1 = (2 * ((v + 2 ^ (8 - G)) / 2 ^ (9 - G)) + 1) * 2 ^ (8 - G) := by
        clear he ih
        rcases (show G = 1 ∨ G = 2 ∨ G = 3 ∨ G = 4 ∨ G = 5 ∨ G = 6 ∨ G = 7 ∨ G = 8 by omega) with rfl | rfl | rfl | rfl | rfl | rfl | rfl | rfl <;> simp only [Nat.reduceSub, Nat.reducePow] at hc ⊢ <;> omega
      rw [hdiv.1, cps]
      have hs : sgm G (2 * ((v + 2 ^ (8 - G)) / 2 ^ (9 - G)) + 1) = rev8 (v + 1) := by
        unfold sgm
        rw [← hdiv.2]
      rw [hs]
      by_cases hf : (fl L R i (rev8 (v + 1)) G).2 = true
      · rw [if_pos ⟨he.mpr hc, hf⟩, if_pos hf]
      · rw [if_neg (fun z => hf z.2), if_neg hf]
    · have hdiv : (v + 1 + 2 ^ (8 - G)) / 2 ^ (9 - G) = (v + 2 ^ (8 - G)) / 2 ^ (9 - G) := by
        clear he ih
        rcases (show G = 1 ∨ G = 2 ∨ G = 3 ∨ G = 4 ∨ G = 5 ∨ G = 6 ∨ G = 7 ∨ G = 8 by omega) with rfl | rfl | rfl | rfl | rfl | rfl | rfl | rfl <;> simp only [Nat.reduceSub, Nat.reducePow] at hc ⊢ <;> omega
      rw [hdiv, if_neg (fun z => hc (he.mp z.1))]
      rfl
theorem ps_cps255 {G : Nat} {L R : Nat → Nat} {i : Nat} (h0 : 0 < G) (hG : G ≤ 8) : psets G L R i 255 = cps G L R i (2 ^ (G - 1)) := by
  rw [ps_cps h0 hG 255 (by decide)]
  rcases (show G = 1 ∨ G = 2 ∨ G = 3 ∨ G = 4 ∨ G = 5 ∨ G = 6 ∨ G = 7 ∨ G = 8 by omega) with rfl | rfl | rfl | rfl | rfl | rfl | rfl | rfl <;> rfl
-- the reference's parts
def rvO (v : Nat) : Nat → Nat
  | 0 => 0
  | q + 1 => rvO v q ||| (if v.testBit q then 128 / 2 ^ q else 0)
theorem rvO_tab : ∀ v, v < 256 → rvO v 8 = rev8 v := by decide +kernel
theorem turned_eq {N : Nat} (hN : 1000 ≤ N) {v : Nat} (hv : v < 256) : f_X10_turned N (nI v) = some (nI (rev8 v)) := by
  rw [f_X10_turned]
  simp only [bnd]
  have e := forL (fun nf q s => f_X10_turned_L4 N (nI v) (fun x => some x) nf s (nI q)) 8 (fun q => nI (rvO v q)) (some (nI (rvO v 8))) (fun nf => by
    rw [f_X10_turned_L4, if_pos (show (8 : Int32) ≤ nI 8 from le_t (a := 8) (Nat.le_refl _) (by decide))]) (fun q nf hq => by
    rw [f_X10_turned_L4, if_neg (show ¬ (8 : Int32) ≤ nI q from le_f (a := 8) (by omega) (by decide)), has_eq N (by omega) (by omega), show (128 : Int32) >>> (nI q &&& 31) = nI (128 / 2 ^ q) from shrB (v := 128) (by decide) (by omega)]
    simp only [obd1, bnd, nI_1, zI_0]
    rw [rvO, ← nI_or]
    cases v.testBit q with
    | true => rfl
    | false => rfl) 8 0 N (by omega) (by omega)
  rw [rvO_tab v hv] at e
  exact e
section NP
variable {n G : Nat} {L R nx κ : Nat → Nat} {nt : Nat → Bool}
theorem feeds_eq (N : Nat) (hC : Circ n G L R nt) {one other : Nat → Int32} (hoo : ∀ g, g < G → one g = nI (L g) ∧ other g = if nt g then -9 else nI (R g)) {a g : Nat} (ha : a < 100) (hg : g < G) : f_X10_feeds N (nI a) (nI g) one other = some (zI (decide (L g = a) || decide (R g = a))) := by
  obtain ⟨hn, hG, -, -, hgg⟩ := hC
  obtain ⟨g1, g2, g3, g4⟩ := hgg g hg
  have l1 := Sg_lt g1 hn
  have l2 := Sg_lt g2 hn
  obtain ⟨o1, o2⟩ := hoo g hg
  rw [f_X10_feeds, grd_nI (show g < 8 by omega) (by decide), nI_clamp (show g < 2 ^ 31 by omega), o1, o2]
  simp only [bnd, grd_nI (show g < 8 by omega) (show 8 ≤ 2 ^ 31 by decide)]
  by_cases h1 : L g = a
  · rw [if_pos (by rw [h1]), decide_eq_true h1, Bool.true_or]
    rfl
  · rw [if_neg (fun z => h1 ((nI_eq (by omega) (by omega)).mp z)), decide_eq_false h1, Bool.false_or]
    cases hnt : nt g with
    | true =>
      rw [if_pos rfl, if_neg (fun z => neq_9 (show a < 1000 by omega) z.symm), decide_eq_false (by rw [g3 hnt]; exact h1)]
      rfl
    | false =>
      rw [if_neg (show ¬ false = true by decide)]
      by_cases h2 : R g = a
      · rw [if_pos (by rw [h2]), decide_eq_true h2]
        rfl
      · rw [if_neg (fun z => h2 ((nI_eq (by omega) (by omega)).mp z)), decide_eq_false h2]
        rfl
theorem follows_eq {N : Nat} (hN : 1000 ≤ N) (hC : Circ n G L R nt) {one other : Nat → Int32} (hoo : ∀ g, g < G → one g = nI (L g) ∧ other g = if nt g then -9 else nI (R g)) {i set : Nat} (hi : i < n) (hs : set < 256) : f_X10_follows N (nI i) (nI set) (nI G) one other = some (zI (fl L R i set G).2) := by
  have hn := hC.1
  have hG := hC.2.1
  have hisz : ∀ b : Bool, isZ (zI b) = true := by decide
  rw [f_X10_follows]
  simp only [bnd]
  exact forL (fun nf q s => f_X10_follows_L8 N (nI set) (nI G) one other (fun x => grd (isZ x) (some x)) nf (nI s.1) (zI s.2) (nI q)) G (fun q => fl L R i set q) (some (zI (fl L R i set G).2)) (fun nf => by
    try dsimp only
    rw [f_X10_follows_L8, if_pos (le_t (Nat.le_refl _) (by omega)), grd_t (hisz _)]) (fun q nf hq => by
    have hat := Sg_lt (fl_at hC hi (set := set) q (by omega)) hn
    try dsimp only
    rw [f_X10_follows_L8, if_neg (le_f hq (by omega)), has_eq N (by omega) (by omega), feeds_eq N hC hoo (by omega) hq, l4]
    simp only [obd1, bnd, nI_1, zI_0]
    rw [fl]
    cases set.testBit q with
    | false => rfl
    | true =>
      rw [if_neg (by decide), if_pos rfl]
      cases (fl L R i set q).2 with
      | false => rfl
      | true =>
        rw [if_neg (by decide), Bool.true_and]
        cases (decide (L q = (fl L R i set q).1) || decide (R q = (fl L R i set q).1)) with
        | true => rfl
        | false => rfl) G 0 N (by omega) (by omega)
theorem getApp {P : List (Nat × Nat)} {x : Nat × Nat} {p : Nat} {y : Nat × Nat} (h : (P ++ [x])[p]? = some y) : (p < P.length ∧ P[p]? = some y) ∨ (p = P.length ∧ x = y) := by
  rcases Nat.lt_or_ge p P.length with w | w
  · rw [List.getElem?_append_left w] at h
    exact Or.inl ⟨w, h⟩
  · rw [List.getElem?_append_right w] at h
    have hp : p - P.length = 0 := by
      rcases Nat.eq_zero_or_pos (p - P.length) with z | z
      · exact z
      · rw [List.getElem?_eq_none (by show 1 ≤ p - P.length; omega)] at h
        cases h
    rw [hp] at h
    exact Or.inr ⟨by omega, Option.some.inj h⟩
theorem pm_add {P : List (Nat × Nat)} {pin pga : Nat → Int32} {i set : Nat} (h55 : P.length < 55) (h : PathM P (nI P.length) pin pga) : PathM (P ++ [(i, set)]) (nI (P.length + 1)) (upd pin P.length (nI i)) (upd pga P.length (nI set)) := by
  refine ⟨by rw [List.length_append]; rfl, by rw [List.length_append]; show P.length + 1 ≤ 55; omega, fun p i' set' hel => ?_⟩
  rcases getApp hel with ⟨w1, w2⟩ | ⟨w1, w2⟩
  · rw [updNe (by omega), updNe (by omega)]
    exact h.2.2 p i' set' w2
  · subst w1
    cases w2
    rw [updEq, updEq]
    exact ⟨rfl, rfl⟩
theorem find_in {N : Nat} (hN : 1000 ≤ N) (hC : Circ n G L R nt) (h0 : 0 < G) {one other : Nat → Int32} (hoo : ∀ g, g < G → one g = nI (L g) ∧ other g = if nt g then -9 else nI (R g)) {i : Nat} (hi : i < n) (J : Int32 → (Nat → Int32) → (Nat → Int32) → Option (Int32 × (Nat → Int32) × (Nat → Int32))) : ∀ (v nf : Nat) (P : List (Nat × Nat)) (pin pga : Nat → Int32), v < 256 → v < nf → P.length + (psets G L R i v).length ≤ 55 → PathM P (nI P.length) pin pga → ∃ pin' pga', f_X10_findPaths_L19 N (nI G) one other (nI i) J nf (nI v) (nI P.length) pin pga = J (nI (P ++ (psets G L R i v).map (fun set => (i, set))).length) pin' pga' ∧ PathM (P ++ (psets G L R i v).map (fun set => (i, set))) (nI (P ++ (psets G L R i v).map (fun set => (i, set))).length) pin' pga' := by
  have hG := hC.2.1
  intro v
  induction v with
  | zero =>
    intro nf P pin pga hv hnf hle hP
    obtain ⟨nf, rfl⟩ : ∃ z, nf = z + 1 := ⟨nf - 1, by omega⟩
    refine ⟨pin, pga, ?_, ?_⟩
    · rw [f_X10_findPaths_L19, if_pos (show nI 0 ≤ 0 by decide)]
      show J _ _ _ = J (nI (P ++ []).length) _ _
      rw [List.append_nil]
    · show PathM (P ++ []) _ _ _
      rw [show (psets G L R i 0).map (fun set => (i, set)) = [] from rfl, List.append_nil]
      exact hP
  | succ v ih =>
    intro nf P pin pga hv hnf hle hP
    obtain ⟨nf, rfl⟩ : ∃ z, nf = z + 1 := ⟨nf - 1, by omega⟩
    have hrl := rev8_lt (v + 1)
    have hends : nI (rev8 (v + 1)) >>> ((nI G - 1) &&& 31) = nI (rev8 (v + 1) / 2 ^ (G - 1)) := by
      rw [show nI G - 1 = nI (G - 1) from pk_sub (b := 1) (by omega)]
      exact shrB (by omega) (by omega)
    have hdl : rev8 (v + 1) / 2 ^ (G - 1) < 256 := Nat.lt_of_le_of_lt (Nat.div_le_self _ _) hrl
    rw [f_X10_findPaths_L19, if_neg (show ¬ nI (v + 1) ≤ 0 from le_f (b := 0) (by omega) (by omega)), turned_eq hN hv, show nI (v + 1) + -1 = nI v from pk_m1 v]
    simp only [obd1, bnd]
    rw [hends]
    by_cases he : rev8 (v + 1) / 2 ^ (G - 1) = 1
    · rw [if_pos (show nI (rev8 (v + 1) / 2 ^ (G - 1)) = 1 by rw [he]; rfl), if_neg one_ne, follows_eq hN hC hoo hi hrl]
      simp only [zI_0]
      by_cases hf : (fl L R i (rev8 (v + 1)) G).2 = true
      · have hps : psets G L R i (v + 1) = [rev8 (v + 1)] ++ psets G L R i v := by
          rw [psets, if_pos ⟨he, hf⟩]
        rw [hps] at hle ⊢
        rw [hf, if_neg (show ¬ true = false by decide)]
        have hle : P.length + (rev8 (v + 1) :: psets G L R i v).length ≤ 55 := hle
        rw [List.length_cons] at hle
        rw [grd_nI (show P.length < 64 by omega) (by decide), nI_clamp (show P.length < 2 ^ 31 by omega)]
        simp only [bnd, grd_nI (show P.length < 64 by omega) (show 64 ≤ 2 ^ 31 by decide), nI_1]
        have hl1 : (P ++ [(i, rev8 (v + 1))]).length = P.length + 1 := by
          rw [List.length_append]
          rfl
        have hadd := pm_add (i := i) (set := rev8 (v + 1)) (show P.length < 55 by omega) hP
        obtain ⟨pin', pga', h1, h2⟩ := ih nf (P ++ [(i, rev8 (v + 1))]) (upd pin P.length (nI i)) (upd pga P.length (nI (rev8 (v + 1)))) (by omega) (by omega) (by rw [hl1]; omega) (by rw [hl1]; exact hadd)
        have hP2 : P ++ [(i, rev8 (v + 1))] ++ (psets G L R i v).map (fun set => (i, set)) = P ++ ([rev8 (v + 1)] ++ psets G L R i v).map (fun set => (i, set)) := by
          rw [List.append_assoc, List.map_append]
          rfl
        rw [hP2, hl1] at h1
        rw [hP2] at h2
        exact ⟨pin', pga', h1, h2⟩
      · have hf' : (fl L R i (rev8 (v + 1)) G).2 = false := by
          cases z : (fl L R i (rev8 (v + 1)) G).2 with
          | false => rfl
          | true => exact absurd z hf
        have hps : psets G L R i (v + 1) = psets G L R i v := by
          rw [psets, if_neg (fun z => hf z.2)]
          rfl
        rw [hps] at hle ⊢
        rw [hf', if_pos (show false = false from rfl)]
        exact ih nf P pin pga (by omega) (by omega) hle hP
    · have hps : psets G L R i (v + 1) = psets G L R i v := by
        rw [psets, if_neg (fun z => he z.1)]
        rfl
      rw [hps] at hle ⊢
      rw [if_neg (show ¬ nI (rev8 (v + 1) / 2 ^ (G - 1)) = 1 from fun z => he ((nI_eq (b := 1) (by omega) (by decide)).mp z))]
      simp only [↓reduceIte]
      exact ih nf P pin pga (by omega) (by omega) hle hP
theorem PLn_mono : ∀ (a b : Nat), (PLn G L R a).length ≤ (PLn G L R (a + b)).length
  | a, 0 => Nat.le_refl _
  | a, b + 1 => by
    have := PLn_mono a b
    rw [← Nat.add_assoc, PLn, List.length_append]
    omega
theorem find_eq {N : Nat} (hN : 1000 ≤ N) (hC : Circ n G L R nt) (h0 : 0 < G) {one other : Nat → Int32} (hoo : ∀ g, g < G → one g = nI (L g) ∧ other g = if nt g then -9 else nI (R g)) (mp : Int32) (pin pga : Nat → Int32) : ∃ pin' pga', f_X10_findPaths N (nI n) (nI G) mp one other pin pga = some (nI (PL n G L R).length, pin', pga') ∧ PathM (PL n G L R) (nI (PL n G L R).length) pin' pga' := by
  have hn := hC.1
  have h55 := PL_55 hC
  have key : ∀ (m i nf : Nat) (pin pga : Nat → Int32), i + m = n → m < nf → PathM (PLn G L R i) (nI (PLn G L R i).length) pin pga → ∃ pin' pga', f_X10_findPaths_L7 N (nI n) (nI G) one other (fun a b c => some (a, b, c)) nf (nI i) (nI (PLn G L R i).length) pin pga = some (nI (PL n G L R).length, pin', pga') ∧ PathM (PL n G L R) (nI (PL n G L R).length) pin' pga' := by
    intro m
    induction m with
    | zero =>
      intro i nf pin pga hi hnf hP
      obtain ⟨nf, rfl⟩ : ∃ z, nf = z + 1 := ⟨nf - 1, by omega⟩
      obtain rfl : i = n := by omega
      refine ⟨pin, pga, ?_, hP⟩
      rw [f_X10_findPaths_L7, if_pos (le_t (Nat.le_refl _) (by omega))]
      rfl
    | succ m ih =>
      intro i nf pin pga hi hnf hP
      obtain ⟨nf, rfl⟩ : ∃ z, nf = z + 1 := ⟨nf - 1, by omega⟩
      rw [f_X10_findPaths_L7, if_neg (le_f (by omega) (by omega))]
      simp only [bnd, nI_1]
      have hm := PLn_mono (G := G) (L := L) (R := R) (i + 1) (n - (i + 1))
      rw [show i + 1 + (n - (i + 1)) = n by omega] at hm
      have hm : (PLn G L R (i + 1)).length ≤ (PL n G L R).length := hm
      rw [PLn, List.length_append, List.length_map] at hm
      obtain ⟨p1, p2, h1, h2⟩ := find_in hN hC h0 hoo (show i < n by omega) (fun a b c => f_X10_findPaths_L7 N (nI n) (nI G) one other (fun a b c => some (a, b, c)) nf (nI (i + 1)) a b c) 255 N (PLn G L R i) pin pga (by decide) (by omega) (by omega) hP
      obtain ⟨p3, p4, h3, h4⟩ := ih (i + 1) nf p1 p2 (by omega) (by omega) h2
      exact ⟨p3, p4, Eq.trans h1 h3, h4⟩
  rw [f_X10_findPaths]
  simp only [bnd]
  exact key n 0 N pin pga (by omega) (by omega) ⟨rfl, Nat.zero_le _, fun p i set h => by cases h⟩
end NP
