-- pruned: both sums
theorem low_tab : ∀ q, q < 8 → ((2 : Int32) <<< (nI q &&& 31)) - 1 = nI (2 ^ (q + 1) - 1) := by decide
def mstN (X : Nat) (q : Nat) : Nat := if topB X q = 0 then 0 else 2 ^ (topB X q - 1)
theorem short_tab : ∀ X, X < 256 → 0 < X → nI X &&& (nI (mstN X 8) ^^^ -1) = nI (X % 2 ^ (topB X 8 - 1)) := by decide +kernel
section PB
variable {n G : Nat} {L R nx κ : Nat → Nat} {nt : Nat → Bool}
theorem short_eq {N : Nat} (hN : 1000 ≤ N) {X : Nat} (hX : X < 256) (h0 : 0 < X) : f_X10_shorter N (nI X) = some (nI (X % 2 ^ (topB X 8 - 1))) := by
  rw [f_X10_shorter]
  simp only [bnd]
  have e := forL (fun nf q s => f_X10_shorter_L4 N (nI X) (fun x => some (nI X &&& (x ^^^ -1))) nf s (nI q)) 8 (fun q => nI (mstN X q)) (some (nI X &&& (nI (mstN X 8) ^^^ -1))) (fun nf => by
    rw [f_X10_shorter_L4, if_pos (show (8 : Int32) ≤ nI 8 from le_t (a := 8) (Nat.le_refl _) (by decide))]) (fun q nf hq => by
    rw [f_X10_shorter_L4, if_neg (show ¬ (8 : Int32) ≤ nI q from le_f (a := 8) (by omega) (by decide)), has_eq N (by omega) (by omega), shl1 (by omega)]
    simp only [obd1, bnd, nI_1, zI_0]
    have hm : mstN X (q + 1) = if X.testBit q then 2 ^ q else mstN X q := by
      unfold mstN
      rw [topB]
      cases X.testBit q with
      | true => rfl
      | false => rfl
    rw [hm]
    cases X.testBit q with
    | true => rfl
    | false => rfl) 8 0 N (by omega) (by omega)
  rw [short_tab X hX h0] at e
  exact e
theorem begins_eq {N : Nat} (hN : 1000 ≤ N) (hn : n ≤ 4) (hG : G ≤ 8) {mp : Int32} {pin pga : Nat → Int32} (hPM : PathM (PL n G L R) mp pin pga) {i X : Nat} (hi : i < n) (hX : X < 2 ^ G) : f_X10_begins N (nI i) (nI X) (nI G) mp pin pga = some (zI (anyB (BB n G L R i X) (PL n G L R).length)) := by
  obtain ⟨e1, h55, hP⟩ := hPM
  subst e1
  have h28 := pow2_8 hG
  have htG : topB X 8 = topB X G := by
    have := topB_more hX (8 - G)
    rw [show G + (8 - G) = 8 by omega] at this
    exact this
  have htle := topB_le X 8
  have hpt : 2 ^ topB X 8 ≤ 256 := pow2_8 htle
  have hpt0 := Nat.two_pow_pos (topB X 8)
  have hisz : ∀ b : Bool, isZ (zI b) = true := by decide
  rw [f_X10_begins]
  simp only [bnd]
  have e := forL (fun nf q s => f_X10_begins_L5 N (nI X) (nI G) (fun x3 => f_X10_begins_L46 N (nI i) (nI X) (nI (PL n G L R).length) pin pga x3 (fun x4 => grd (isZ x4) (some x4)) N 0 0) nf s (nI q)) G (fun q => nI (2 ^ topB X q - 1)) (f_X10_begins_L46 N (nI i) (nI X) (nI (PL n G L R).length) pin pga (nI (2 ^ topB X G - 1)) (fun x4 => grd (isZ x4) (some x4)) N 0 0) (fun nf => by
    rw [f_X10_begins_L5, if_pos (le_t (Nat.le_refl _) (by omega))]) (fun q nf hq => by
    rw [f_X10_begins_L5, if_neg (le_f hq (by omega)), has_eq N (by omega) (by omega), low_tab q (by omega)]
    simp only [obd1, bnd, nI_1, zI_0]
    rw [topB]
    cases X.testBit q with
    | true => rfl
    | false => rfl) G 0 N (by omega) (by omega)
  refine Eq.trans e ?_
  rw [← htG]
  exact forL (fun nf q s => f_X10_begins_L46 N (nI i) (nI X) (nI (PL n G L R).length) pin pga (nI (2 ^ topB X 8 - 1)) (fun x4 => grd (isZ x4) (some x4)) nf s (nI q)) (PL n G L R).length (fun q => zI (anyB (BB n G L R i X) q)) (some (zI (anyB (BB n G L R i X) (PL n G L R).length))) (fun nf => by
    rw [f_X10_begins_L46, if_pos (le_t (Nat.le_refl _) (by omega)), grd_t (hisz _)]) (fun q nf hq => by
    obtain ⟨⟨i', s⟩, hel⟩ : ∃ x, (PL n G L R)[q]? = some x := ⟨_, List.getElem?_eq_getElem hq⟩
    obtain ⟨hi', hs, -, -⟩ := PL_in hel
    obtain ⟨m1, m2⟩ := hP q i' s hel
    have hsm : s % 2 ^ topB X 8 < 256 := Nat.lt_of_lt_of_le (Nat.mod_lt _ hpt0) hpt
    rw [f_X10_begins_L46, if_neg (le_f hq (by omega))]
    simp only [bnd, nI_1, zI_0, grd_nI (show q < 64 by omega) (show 64 ≤ 2 ^ 31 by decide), nI_clamp (show q < 2 ^ 31 by omega), m1, m2, pk_andN (show s < 2 ^ 32 by omega) (m := nI (2 ^ topB X 8 - 1)) (topB X 8) (pk_tn (by omega))]
    rw [anyB, BB_at hel]
    cases hA : anyB (BB n G L R i X) q with
    | true =>
      rw [if_neg (by decide), Bool.true_or]
      rfl
    | false =>
      rw [if_pos rfl, Bool.false_or]
      by_cases h1 : i' = i
      · rw [if_pos (by rw [h1]), decide_eq_true h1, Bool.true_and]
        by_cases h2 : s % 2 ^ topB X 8 = X
        · rw [if_pos (by rw [h2]), decide_eq_true h2]
          rfl
        · rw [if_neg (fun z => h2 ((nI_eq (by omega) (by omega)).mp z)), decide_eq_false h2]
          rfl
      · rw [if_neg (fun z => h1 ((nI_eq (by omega) (by omega)).mp z)), decide_eq_false h1]
        rfl) (PL n G L R).length 0 N (by omega) (by omega)
/-- the gates X, from i on, are alive -/
def alB (n G : Nat) (L R nx κ : Nat → Nat) (i X to : Nat) : Bool := decide (0 < (bsF (fitN n G L R nx κ i X to 0) 256).2)
def mdB (n G : Nat) (L R nx κ : Nat → Nat) (to i X : Nat) : Bool := decide (0 < X) && (!alB n G L R nx κ i X to && alB n G L R nx κ i (X % 2 ^ (topB X 8 - 1)) to)
def inD (n G : Nat) (L R nx κ : Nat → Nat) (to i X p : Nat) : Nat := if mdB n G L R nx κ to i X && (BB n G L R i X p && (decide (p = 0) || !BB n G L R i X (p - 1))) then 1 else 0
/-- each beginning that dies first is met first once -/
theorem inD_p (hG : G ≤ 8) {to i X : Nat} (hX : X < 2 ^ G) : slwB (fun p => inD n G L R nx κ to i X p) (PL n G L R).length = if anyB (BB n G L R i X) (PL n G L R).length && mdB n G L R nx κ to i X then 1 else 0 := by
  unfold inD
  cases hm : mdB n G L R nx κ to i X with
  | false =>
    rw [Bool.and_false, if_neg (by decide)]
    apply slwB_zero
    intro z _
    rw [Bool.false_and, if_neg (by decide)]
  | true =>
    rw [Bool.and_true, ← ct_first (b := BB n G L R i X), ← slwB_ct]
    · refine slwB_cong (fun z _ => ?_)
      rw [Bool.true_and]
    · intro p q r hpq hqr hr h1 h2
      obtain ⟨⟨i1, s1⟩, e1⟩ : ∃ x, (PL n G L R)[p]? = some x := ⟨_, List.getElem?_eq_getElem (show p < (PL n G L R).length by omega)⟩
      obtain ⟨⟨i2, s2⟩, e2⟩ : ∃ x, (PL n G L R)[q]? = some x := ⟨_, List.getElem?_eq_getElem (show q < (PL n G L R).length by omega)⟩
      obtain ⟨⟨i3, s3⟩, e3⟩ : ∃ x, (PL n G L R)[r]? = some x := ⟨_, List.getElem?_eq_getElem hr⟩
      rw [BB_at e1, Bool.and_eq_true, decide_eq_true_eq, decide_eq_true_eq] at h1
      rw [BB_at e3, Bool.and_eq_true, decide_eq_true_eq, decide_eq_true_eq] at h2
      have o1 := PL_ord hpq e1 e2
      have o2 := PL_ord hqr e2 e3
      have hi2 : i2 = i := by omega
      have c := cut_mid (topB_le X 8) (PL_in e1).2.1 (PL_in e2).2.1 (PL_in e3).2.1 (by omega) (by omega) (by rw [h1.2, h2.2])
      rw [BB_at e2, decide_eq_true hi2, decide_eq_true (by rw [c, h1.2])]
      rfl
theorem top_bit_of {X s : Nat} (h0 : 0 < X) (hX : X < 256) (h : s % 2 ^ topB X 8 = X) : 0 < topB X 8 ∧ s.testBit (topB X 8 - 1) = true := by
  obtain ⟨t1, t2⟩ := topB_bit h0 (G := 8) hX
  refine ⟨t1, ?_⟩
  rw [← h] at t2
  have h2 : topB (s % 2 ^ topB X 8) 8 = topB X 8 := by rw [h]
  rw [h2, mod_tb s _ _ (by omega)] at t2
  exact t2
/-- at a path: the beginnings that die first are those at which its gates cease to be alive -/
theorem md_path (hn : n ≤ 4) (hG : G ≤ 8) {p i set to al X : Nat} (hel : (PL n G L R)[p]? = some (i, set)) (hto : to < 2) (hal : ∀ t, t ≤ G → (ALv n G L R κ i (lm L R i set t) to ↔ ones set t ≤ al)) (hX0 : 0 < X) (hX : X < 2 ^ G) (hc : set % 2 ^ topB X 8 = X) : mdB n G L R nx κ to i X = true ↔ ones set (topB X 8) = al + 1 := by
  have h28 := pow2_8 hG
  obtain ⟨t0, tb⟩ := top_bit_of hX0 (by omega) hc
  have htG : topB X 8 ≤ G := by
    have := topB_more hX (8 - G)
    rw [show G + (8 - G) = 8 by omega] at this
    rw [this]
    exact topB_le X G
  have e1 : lm L R i X G = lm L R i set (topB X 8) := by
    have := lm_cut (L := L) (R := R) (i := i) (set := set) htG
    rw [hc] at this
    exact this
  have hc2 : X % 2 ^ (topB X 8 - 1) = set % 2 ^ (topB X 8 - 1) := by
    apply Nat.eq_of_testBit_eq
    intro j
    rw [Nat.testBit_mod_two_pow, Nat.testBit_mod_two_pow]
    by_cases w : j < topB X 8 - 1
    · rw [← mod_tb set (topB X 8) j (by omega), hc]
    · rw [decide_eq_false w, Bool.false_and, Bool.false_and]
  have e2 : lm L R i (X % 2 ^ (topB X 8 - 1)) G = lm L R i set (topB X 8 - 1) := by
    rw [hc2]
    exact lm_cut (by omega)
  have ho : ones set (topB X 8) = ones set (topB X 8 - 1) + 1 := by
    obtain ⟨t, ht⟩ : ∃ t, topB X 8 = t + 1 := ⟨topB X 8 - 1, by omega⟩
    rw [ht, Nat.add_sub_cancel] at tb ⊢
    rw [ones, if_pos tb]
  have f1 := fit_al (n := n) (G := G) (L := L) (R := R) (nx := nx) (κ := κ) (i := i) (X := X) hto
  have f2 := fit_al (n := n) (G := G) (L := L) (R := R) (nx := nx) (κ := κ) (i := i) (X := X % 2 ^ (topB X 8 - 1)) hto
  rw [e1, hal _ htG] at f1
  rw [e2, hal _ (by omega)] at f2
  unfold mdB alB
  rw [decide_eq_true hX0, Bool.true_and, Bool.and_eq_true, Bool.not_eq_true', decide_eq_false_iff_not, decide_eq_true_eq, f1, f2]
  omega
theorem inD_x (hn : n ≤ 4) (hG : G ≤ 8) {p i set to al : Nat} (hel : (PL n G L R)[p]? = some (i, set)) (hto : to < 2) (hle : al ≤ ones set G) (hal : ∀ t, t ≤ G → (ALv n G L R κ i (lm L R i set t) to ↔ ones set t ≤ al)) : slwB (fun j => slwB (fun X => inD n G L R nx κ to j X p) (2 ^ G)) n = if al < ones set G then (if (!decide (p = 0) && BB n G L R i (set % 2 ^ (nth set al G + 1)) (p - 1)) = true then 0 else 1) else 0 := by
  have h28 := pow2_8 hG
  obtain ⟨hi, hset, htop, hfl⟩ := PL_in hel
  have h0 : ∀ j X, X < 2 ^ G → inD n G L R nx κ to j X p = 0 ∨ (j = i ∧ 0 < X ∧ set % 2 ^ topB X 8 = X ∧ ones set (topB X 8) = al + 1) := by
    intro j X hX
    unfold inD
    by_cases hc : (mdB n G L R nx κ to j X && (BB n G L R j X p && (decide (p = 0) || !BB n G L R j X (p - 1)))) = true
    · rw [Bool.and_eq_true, Bool.and_eq_true, BB_at hel, Bool.and_eq_true, decide_eq_true_eq, decide_eq_true_eq] at hc
      obtain ⟨c1, ⟨rfl, c3⟩, -⟩ := hc
      have hX0 : 0 < X := by
        unfold mdB at c1
        rw [Bool.and_eq_true, decide_eq_true_eq] at c1
        exact c1.1
      exact Or.inr ⟨rfl, hX0, c3, (md_path hn hG hel hto hal hX0 hX c3).mp c1⟩
    · exact Or.inl (if_neg hc)
  by_cases hs : al < ones set G
  · rw [if_pos hs]
    obtain ⟨w1, w2, w3⟩ := nth_lt hs
    have ht := cut_top hG hs
    have hXlt : set % 2 ^ (nth set al G + 1) < 2 ^ G := Nat.lt_of_lt_of_le (Nat.mod_lt _ (Nat.two_pow_pos _)) (Nat.pow_le_pow_right (by decide) (by omega))
    have huniq : ∀ X, X < 2 ^ G → 0 < X → set % 2 ^ topB X 8 = X → ones set (topB X 8) = al + 1 → X = set % 2 ^ (nth set al G + 1) := by
      intro X hX hX0 hc hone
      obtain ⟨t0, tb⟩ := top_bit_of hX0 (by omega) hc
      have htG : topB X 8 ≤ G := by
        have := topB_more hX (8 - G)
        rw [show G + (8 - G) = 8 by omega] at this
        rw [this]
        exact topB_le X G
      have ho : ones set (topB X 8 - 1) = al := by
        obtain ⟨t, ht⟩ : ∃ t, topB X 8 = t + 1 := ⟨topB X 8 - 1, by omega⟩
        rw [ht, Nat.add_sub_cancel] at tb ⊢
        rw [ht, ones, if_pos tb] at hone
        omega
      have hnth := (nth_of (show topB X 8 - 1 < G by omega) tb).1
      rw [ho] at hnth
      rw [hnth, show topB X 8 - 1 + 1 = topB X 8 by omega, hc]
    have hpos : 0 < set % 2 ^ (nth set al G + 1) := by
      rcases Nat.eq_zero_or_pos (set % 2 ^ (nth set al G + 1)) with z | z
      · have := mod_tb set (nth set al G + 1) (nth set al G) (Nat.lt_succ_self _)
        rw [z, Nat.zero_testBit, w2] at this
        cases this
      · exact z
    rw [slwB_one (a := i) hi (fun j hj hne => slwB_zero (fun X hX => by
      rcases h0 j X hX with z | ⟨z, -⟩
      · exact z
      · exact absurd z hne)), slwB_one (a := set % 2 ^ (nth set al G + 1)) hXlt (fun X hX hne => by
      rcases h0 i X hX with z | ⟨-, z1, z2, z3⟩
      · exact z
      · exact absurd (huniq X hX z1 z2 z3) hne)]
    have hmd := (md_path (nx := nx) hn hG hel hto hal hpos hXlt (by rw [ht])).mpr (by rw [ht, ones_nth hs])
    unfold inD
    rw [hmd, Bool.true_and, BB_at hel, decide_eq_true rfl, decide_eq_true (by rw [ht]), Bool.true_and, Bool.true_and]
    cases decide (p = 0) <;> cases BB n G L R i (set % 2 ^ (nth set al G + 1)) (p - 1) <;> rfl
  · rw [if_neg hs]
    refine slwB_zero (fun j _ => slwB_zero (fun X hX => ?_))
    rcases h0 j X hX with z | ⟨-, z1, z2, z3⟩
    · exact z
    · obtain ⟨t0, tb⟩ := top_bit_of z1 (by omega) z2
      have htG : topB X 8 ≤ G := by
        have := topB_more hX (8 - G)
        rw [show G + (8 - G) = 8 by omega] at this
        rw [this]
        exact topB_le X G
      have := ones_mono set htG
      omega
def prC (n G : Nat) (L R nx κ : Nat → Nat) (p : Nat) : Nat := slwB (fun to => slwB (fun j => slwB (fun X => inD n G L R nx κ to j X p) (2 ^ G)) n) 2
def prM (n G : Nat) (L R nx κ : Nat → Nat) (i X : Nat) : Nat := slwB (fun to => slwB (fun p => inD n G L R nx κ to i X p) (PL n G L R).length) 2
theorem pr_same : slwB (fun i => slwB (prM n G L R nx κ i) (2 ^ G)) n = slwB (prC n G L R nx κ) (PL n G L R).length := by
  unfold prM prC
  have s1 : (fun i => slwB (fun X => slwB (fun to => slwB (fun p => inD n G L R nx κ to i X p) (PL n G L R).length) 2) (2 ^ G)) = fun i => slwB (fun p => slwB (fun to => slwB (fun X => inD n G L R nx κ to i X p) (2 ^ G)) 2) (PL n G L R).length := by
    funext i
    have a1 : (fun X => slwB (fun to => slwB (fun p => inD n G L R nx κ to i X p) (PL n G L R).length) 2) = fun X => slwB (fun p => slwB (fun to => inD n G L R nx κ to i X p) 2) (PL n G L R).length := by
      funext X
      exact slwB_swap _ _ _
    rw [a1, slwB_swap]
    refine congrArg (fun f => slwB f (PL n G L R).length) ?_
    funext p
    exact slwB_swap _ _ _
  rw [s1, slwB_swap]
  refine congrArg (fun f => slwB f (PL n G L R).length) ?_
  funext p
  exact slwB_swap _ _ _
theorem dead_eq {N : Nat} (hN : 1000 ≤ N) (hn : n ≤ 4) (hG : G ≤ 8) {paths : Int32} {starts sizes steps links : Nat → Int32} (hP : PathC G L R (PL n G L R) paths starts sizes steps links) {sure : Nat → Int32} {ris fal : Nat → Int64} {cap : Nat → Int32} (hT : TabOf n G L R nx κ sure ris fal cap) : f_X3_deadBeginnings N paths sizes starts steps links sure = some (nI (slwB (prC n G L R nx κ) (PL n G L R).length)) := by
  have h55 := hP.2.1
  have e1 := hP.1
  subst e1
  rw [f_X3_deadBeginnings]
  simp only [bnd]
  exact forL (fun nf q s => f_X3_deadBeginnings_L4 N (nI (PL n G L R).length) sizes starts steps links sure (fun x => some x) nf s (nI q)) (PL n G L R).length (fun q => nI (slwB (prC n G L R nx κ) q)) (some (nI (slwB (prC n G L R nx κ) (PL n G L R).length))) (fun nf => by
    rw [f_X3_deadBeginnings_L4, if_pos (le_t (Nat.le_refl _) (by omega))]) (fun q nf hq => by
    obtain ⟨⟨i, set⟩, hel⟩ : ∃ x, (PL n G L R)[q]? = some x := ⟨_, List.getElem?_eq_getElem hq⟩
    obtain ⟨hi, hset, -, -⟩ := PL_in hel
    obtain ⟨h1, h2, h3, h4⟩ := hP.2.2 q i set hel
    have ho := ones_le set G
    rw [f_X3_deadBeginnings_L4, if_neg (le_f hq (by omega))]
    simp only [bnd, nI_1]
    exact forL (fun nf2 to s => f_X3_deadBeginnings_L15 N sizes starts steps links sure (nI q) (fun x2 => f_X3_deadBeginnings_L4 N (nI (PL n G L R).length) sizes starts steps links sure (fun x => some x) nf x2 (nI (q + 1))) nf2 s (nI to)) 2 (fun to => nI (slwB (prC n G L R nx κ) q + slwB (fun to => slwB (fun j => slwB (fun X => inD n G L R nx κ to j X q) (2 ^ G)) n) to)) (f_X3_deadBeginnings_L4 N (nI (PL n G L R).length) sizes starts steps links sure (fun x => some x) nf (nI (slwB (prC n G L R nx κ) (q + 1))) (nI (q + 1))) (fun nf2 => by
      rw [f_X3_deadBeginnings_L15, if_pos (show (1 : Int32) < nI 2 by decide)]
      rfl) (fun to nf2 hto => by
      obtain ⟨al, a1, a2, a3⟩ := alive_eq hN hn hG hP hT hel hi hto
      have hx := inD_x (nx := nx) hn hG hel hto a2 a3
      rw [f_X3_deadBeginnings_L15, if_neg (by rw [fa_lt, nI_toInt (by omega)]; show ¬ (1 : Int) < _; omega), a1]
      simp only [obd1, bnd, grd_nI (show q < 55 by omega) (show 55 ≤ 2 ^ 31 by decide), nI_clamp (show q < 2 ^ 31 by omega), h2, nI_1]
      rw [slwB]
      by_cases hs : al < ones set G
      · rw [if_neg (le_f hs (by omega)), shared_eq hn hG hP hel hs]
        rw [if_pos hs] at hx
        rw [hx]
        simp only [zI_0]
        cases hb : (!decide (q = 0) && BB n G L R i (set % 2 ^ (nth set al G + 1)) (q - 1)) with
        | true =>
          rw [if_neg (by decide), if_pos rfl]
          rfl
        | false =>
          rw [if_pos rfl, if_neg (by decide)]
          rfl
      · rw [if_pos (le_t (by omega) (by omega))]
        rw [if_neg hs] at hx
        rw [hx]
        rfl) 2 0 N (by omega) (by omega)) (PL n G L R).length 0 N (by omega) (by omega)
end PB
