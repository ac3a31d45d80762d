-- pruned: the class
theorem Sub_pos0 {M : Nat} (h : 0 < M) : ¬ Sub M 0 := by
  intro z
  have : M = 0 := by
    apply Nat.eq_of_testBit_eq
    intro j
    rw [Nat.zero_testBit]
    cases hj : M.testBit j with
    | false => rfl
    | true =>
      have := z j hj
      rw [Nat.zero_testBit] at this
      cases this
  omega
theorem msk_tab : ∀ g, g < 8 → ((1 : Int32) <<< ((((2 : Int32) * nI g) + 2) &&& 31)) - 1 = nI (2 ^ (2 * (g + 1)) - 1) := by decide
theorem go_eq_tab : ∀ pair, pair < 256 → ∀ i, i < 4 → ∀ to, to < 2 → f_X3_goesOver 0 (nI pair) (nI i) (nI to) = some (zI (!decide (bitN (pair / 16) i = to) && decide (bitN (pair % 16) i = to))) := by decide +kernel
theorem go_eq (N : Nat) {pair i to : Nat} (h1 : pair < 256) (h2 : i < 4) (h3 : to < 2) : f_X3_goesOver N (nI pair) (nI i) (nI to) = some (zI (!decide (bitN (pair / 16) i = to) && decide (bitN (pair % 16) i = to))) := go_eq_tab pair h1 i h2 to h3
section PC
variable {n G : Nat} {L R nx κ : Nat → Nat} {nt : Nat → Bool}
theorem lm_mod {i set t : Nat} : ∀ k, lm L R i set (t + k) % 2 ^ (2 * t) = lm L R i set t
  | 0 => by
    have hl := lm_lt (L := L) (R := R) i set t
    rw [p4] at hl
    exact Nat.mod_eq_of_lt hl
  | k + 1 => by
    obtain ⟨c, e, -, -⟩ := lm_step (L := L) (R := R) (i := i) (set := set) (g := t + k)
    rw [← Nat.add_assoc, e, show 2 * (t + k) = 2 * t + 2 * k by omega, Nat.pow_add, show c * (2 ^ (2 * t) * 2 ^ (2 * k)) = 2 ^ (2 * t) * (c * 2 ^ (2 * k)) by rw [Nat.mul_left_comm], Nat.add_mul_mod_self_left]
    exact lm_mod k
/-- links of a path's first k + 1 gates -/
abbrev bgN (L R : Nat → Nat) (G i set k : Nat) : Nat := lm L R i set (nth set k G + 1)
theorem begin_eq {N : Nat} (hG : G ≤ 8) {P : List (Nat × Nat)} {paths : Int32} {starts sizes steps links : Nat → Int32} (hP : PathC G L R P paths starts sizes steps links) {p i set k : Nat} (hel : P[p]? = some (i, set)) (hk : k < ones set G) : f_X2_beginning N (nI p) (nI (k + 1)) steps links = some (nI (bgN L R G i set k)) := by
  have hpl : p < P.length := (List.getElem?_eq_some_iff.mp hel).1
  have hp55 := hP.2.1
  obtain ⟨h1, h2, h3, h4⟩ := hP.2.2 p i set hel
  obtain ⟨w1, w2, w3⟩ := nth_lt hk
  have ho := ones_le set G
  have hl := lm_lt (L := L) (R := R) i set G
  have h48 := pow4_8 hG
  have hi : nI p * (8 : Int32) + nI (k + 1) - 1 = nI (p * 8 + k) := by
    rw [l8p]
    exact pk_sub (a := p * 8 + (k + 1)) (b := 1) (by omega)
  have hpw : 2 ^ (2 * (nth set k G + 1)) ≤ 2 ^ 16 := Nat.pow_le_pow_right (by decide) (by omega)
  rw [f_X2_beginning, hi, grd_nI (show p * 8 + k < 440 by omega) (by decide), nI_clamp (show p * 8 + k < 2 ^ 31 by omega), h4 k hk]
  simp only [bnd]
  rw [grd_nI (show p < 55 by omega) (by decide), nI_clamp (show p < 2 ^ 31 by omega), h3, msk_tab _ (by omega), pk_andN (by omega) (2 * (nth set k G + 1)) (pk_tn (by omega))]
  have := lm_mod (L := L) (R := R) (i := i) (set := set) (t := nth set k G + 1) (G - (nth set k G + 1))
  rw [show nth set k G + 1 + (G - (nth set k G + 1)) = G by omega] at this
  rw [this]
/-- the class's row of sure links -/
def srN (n G : Nat) (L R κ : Nat → Nat) (pair : Nat) : Nat := if okB n pair then lnkM L R κ pair G 2 G else 0
theorem tab_sr {sure : Nat → Int32} {ris fal : Nat → Int64} {cap : Nat → Int32} (hT : TabOf n G L R nx κ sure ris fal cap) {pair : Nat} (hp : pair < 256) : sure pair = nI (srN n G L R κ pair) := by
  unfold srN
  cases hok : okB n pair with
  | true =>
    rw [if_pos rfl]
    exact (hT.1 pair ((okB_iff hp).mp hok)).1
  | false =>
    rw [if_neg (by decide)]
    exact (hT.2.1 pair hp (fun z => by
      have := (okB_iff hp).mpr z
      rw [hok] at this
      cases this)).1
theorem srN_lt (hG : G ≤ 8) (pair : Nat) : srN n G L R κ pair < 2 ^ 31 := by
  have h := lnkM_lt L R κ pair G 2 G
  have h48 := pow4_8 hG
  unfold srN
  split <;> omega
theorem sr_iff {M pair : Nat} (hM : 0 < M) : Sub M (srN n G L R κ pair) ↔ okB n pair = true ∧ Sub M (lnkM L R κ pair G 2 G) := by
  unfold srN
  cases okB n pair with
  | true =>
    rw [if_pos rfl]
    exact ⟨fun h => ⟨rfl, h⟩, fun h => h.2⟩
  | false =>
    rw [if_neg (by decide)]
    exact ⟨fun h => absurd h (Sub_pos0 hM), fun h => by cases h.1⟩
theorem bg_lt (hG : G ≤ 8) {i set k : Nat} (hk : k < ones set G) : bgN L R G i set k < 2 ^ 31 := by
  obtain ⟨w1, -, -⟩ := nth_lt hk
  have h := lm_lt (L := L) (R := R) i set (nth set k G + 1)
  have := pow4_8 (show nth set k G + 1 ≤ 8 by omega)
  show lm L R i set (nth set k G + 1) < 2 ^ 31
  omega
theorem al_in {N : Nat} (hG : G ≤ 8) {P : List (Nat × Nat)} {paths : Int32} {starts sizes steps links : Nat → Int32} (hP : PathC G L R P paths starts sizes steps links) {sure : Nat → Int32} {ris fal : Nat → Int64} {cap : Nat → Int32} (hT : TabOf n G L R nx κ sure ris fal cap) {p i set : Nat} (hel : P[p]? = some (i, set)) {pair : Nat} (hp : pair < 256) (J : Int32 → Option Int32) : ∀ (m a nf : Nat), a + m = ones set G → m < nf → ∃ a', f_X3_gatesAlive_L44 N (nI p) steps links sure (nI (ones set G)) (nI pair) J nf (nI a) = J (nI a') ∧ a ≤ a' ∧ a' ≤ ones set G ∧ (a < a' → Sub (bgN L R G i set (a' - 1)) (srN n G L R κ pair)) ∧ (a' < ones set G → ¬ Sub (bgN L R G i set a') (srN n G L R κ pair)) := by
  have ho := ones_le set G
  intro m
  induction m with
  | zero =>
    intro a nf ha hnf
    obtain ⟨nf, rfl⟩ : ∃ z, nf = z + 1 := ⟨nf - 1, by omega⟩
    refine ⟨a, ?_, by omega, by omega, fun z => by omega, fun z => by omega⟩
    rw [f_X3_gatesAlive_L44, if_pos (le_t (by omega) (by omega))]
  | succ m ih =>
    intro a nf ha hnf
    obtain ⟨nf, rfl⟩ : ∃ z, nf = z + 1 := ⟨nf - 1, by omega⟩
    have hk : a < ones set G := by omega
    rw [f_X3_gatesAlive_L44, if_neg (le_f hk (by omega)), nI_1, begin_eq hG hP hel hk]
    simp only [obd1]
    by_cases hS : Sub (bgN L R G i set a) (srN n G L R κ pair)
    · rw [holds_t N hp (tab_sr hT hp) (bg_lt hG hk) (srN_lt hG pair) hS]
      simp only [if_neg one_ne, bnd]
      obtain ⟨a', e1, e2, e3, e4, e5⟩ := ih (a + 1) nf (by omega) (by omega)
      refine ⟨a', e1, by omega, e3, fun _ => ?_, e5⟩
      rcases Nat.lt_or_ge (a + 1) a' with w | w
      · exact e4 w
      · rw [show a' - 1 = a by omega]
        exact hS
    · rw [holds_f N hp (tab_sr hT hp) (bg_lt hG hk) (srN_lt hG pair) hS]
      simp only [↓reduceIte]
      exact ⟨a, rfl, Nat.le_refl _, by omega, fun z => by omega, fun _ => hS⟩
/-- a pair holds at the first k + 1 gates, and goes over to 'to' -/
def hoP (n G : Nat) (L R κ : Nat → Nat) (i set to k pair : Nat) : Prop := (¬ bitN (pair / 16) i = to ∧ bitN (pair % 16) i = to) ∧ Sub (bgN L R G i set k) (srN n G L R κ pair)
def alI (n G : Nat) (L R κ : Nat → Nat) (i set to q a : Nat) : Prop := a ≤ ones set G ∧ (a = 0 ∨ ∃ pair, pair < q ∧ hoP n G L R κ i set to (a - 1) pair) ∧ (a < ones set G → ∀ pair, pair < q → ¬ hoP n G L R κ i set to a pair)
theorem bg_sub {i set k k' : Nat} (hk : k ≤ k') (hk' : k' < ones set G) : Sub (bgN L R G i set k) (bgN L R G i set k') := by
  obtain ⟨w1, w2, w3⟩ := nth_lt hk'
  obtain ⟨v1, v2, v3⟩ := nth_lt (show k < ones set G by omega)
  have hle : nth set k G ≤ nth set k' G := by
    rcases Nat.lt_or_ge (nth set k' G) (nth set k G) with w | w
    · have := ones_mono set (show nth set k' G + 1 ≤ nth set k G by omega)
      rw [ones, w3, v3, if_pos w2] at this
      omega
    · exact w
  have := lm_sub (L := L) (R := R) (i := i) (set := set) (g := nth set k G + 1) (nth set k' G - nth set k G)
  rw [show nth set k G + 1 + (nth set k' G - nth set k G) = nth set k' G + 1 by omega] at this
  exact this
theorem al_L {N : Nat} (hN : 1000 ≤ N) (hn : n ≤ 4) (hG : G ≤ 8) {P : List (Nat × Nat)} {paths : Int32} {starts sizes steps links : Nat → Int32} (hP : PathC G L R P paths starts sizes steps links) {sure : Nat → Int32} {ris fal : Nat → Int64} {cap : Nat → Int32} (hT : TabOf n G L R nx κ sure ris fal cap) {p i set to : Nat} (hel : P[p]? = some (i, set)) (hi : i < n) (hto : to < 2) (J : Int32 → Option Int32) : ∀ (m q nf a : Nat), q + m = 256 → m < nf → alI n G L R κ i set to q a → ∃ a', f_X3_gatesAlive_L14 N (nI p) (nI to) starts steps links sure (nI (ones set G)) J nf (nI a) (nI q) = J (nI a') ∧ alI n G L R κ i set to 256 a' := by
  have ho := ones_le set G
  have hpl : p < P.length := (List.getElem?_eq_some_iff.mp hel).1
  have hp55 := hP.2.1
  obtain ⟨h1, h2, h3, h4⟩ := hP.2.2 p i set hel
  intro m
  induction m with
  | zero =>
    intro q nf a hq hnf hI
    obtain ⟨nf, rfl⟩ : ∃ z, nf = z + 1 := ⟨nf - 1, by omega⟩
    obtain rfl : q = 256 := by omega
    refine ⟨a, ?_, hI⟩
    rw [f_X3_gatesAlive_L14, if_pos (show (256 : Int32) ≤ nI 256 from le_t (a := 256) (Nat.le_refl _) (by decide))]
  | succ m ih =>
    intro q nf a hq hnf hI
    obtain ⟨nf, rfl⟩ : ∃ z, nf = z + 1 := ⟨nf - 1, by omega⟩
    obtain ⟨i1, i2, i3⟩ := hI
    have hq256 : q < 256 := by omega
    rw [f_X3_gatesAlive_L14, if_neg (show ¬ (256 : Int32) ≤ nI q from le_f (a := 256) (by omega) (by decide))]
    by_cases hs : ones set G ≤ a
    · rw [if_pos (le_t hs (by omega))]
      refine ⟨a, rfl, i1, ?_, fun z => by omega⟩
      rcases i2 with w | ⟨pair, w1, w2⟩
      · exact Or.inl w
      · exact Or.inr ⟨pair, by omega, w2⟩
    · rw [if_neg (le_f (by omega) (by omega)), grd_nI (show p < 55 by omega) (by decide), nI_clamp (show p < 2 ^ 31 by omega), h1, go_eq N hq256 (by omega) hto]
      simp only [obd1, bnd, nI_1, zI_0]
      by_cases hgo : ¬ bitN (q / 16) i = to ∧ bitN (q % 16) i = to
      · have hb : (!decide (bitN (q / 16) i = to) && decide (bitN (q % 16) i = to)) = true := by
          rw [decide_eq_false hgo.1, decide_eq_true hgo.2]
          rfl
        rw [if_neg (by rw [hb]; decide)]
        obtain ⟨a', e1, e2, e3, e4, e5⟩ := al_in (N := N) hG hP hT hel hq256 (fun x4 => f_X3_gatesAlive_L14 N (nI p) (nI to) starts steps links sure (nI (ones set G)) J nf x4 (nI (q + 1))) (ones set G - a) a N (by omega) (by omega)
        rw [e1]
        refine ih (q + 1) nf a' (by omega) (by omega) ⟨e3, ?_, fun hz pair hpr => ?_⟩
        · rcases Nat.lt_or_ge a a' with w | w
          · exact Or.inr ⟨q, by omega, hgo, e4 w⟩
          · have : a' = a := by omega
            subst this
            rcases i2 with v | ⟨pair, v1, v2⟩
            · exact Or.inl v
            · exact Or.inr ⟨pair, by omega, v2⟩
        · intro hh
          rcases Nat.lt_or_ge pair q with w | w
          · refine i3 (by omega) pair w ⟨hh.1, fun k hk => hh.2 k ?_⟩
            exact bg_sub (by omega) hz k hk
          · have : pair = q := by omega
            subst this
            exact e5 hz hh.2
      · have hb : (!decide (bitN (q / 16) i = to) && decide (bitN (q % 16) i = to)) = false := by
          cases hz : (!decide (bitN (q / 16) i = to) && decide (bitN (q % 16) i = to)) with
          | false => rfl
          | true =>
            rw [Bool.and_eq_true, Bool.not_eq_true', decide_eq_false_iff_not, decide_eq_true_eq] at hz
            exact absurd hz hgo
        rw [if_pos hb]
        refine ih (q + 1) nf a (by omega) (by omega) ⟨i1, ?_, fun hz pair hpr => ?_⟩
        · rcases i2 with v | ⟨pair, v1, v2⟩
          · exact Or.inl v
          · exact Or.inr ⟨pair, by omega, v2⟩
        · rcases Nat.lt_or_ge pair q with w | w
          · exact i3 hz pair w
          · have : pair = q := by omega
            subst this
            exact fun hh => hgo hh.1
theorem lm_same {i set g : Nat} : ∀ k, ones set (g + k) ≤ ones set g → lm L R i set (g + k) = lm L R i set g
  | 0, _ => rfl
  | k + 1, h => by
    have hm := ones_mono set (show g ≤ g + k by omega)
    rw [← Nat.add_assoc, ones] at h
    have hb : ¬ set.testBit (g + k) = true := fun z => by
      rw [if_pos z] at h
      omega
    rw [← Nat.add_assoc, lm, if_neg hb]
    exact lm_same k (by omega)
theorem lm_ones {i set t t' : Nat} (h : ones set t ≤ ones set t') : Sub (lm L R i set t) (lm L R i set t') := by
  rcases Nat.le_total t t' with w | w
  · have := lm_sub (L := L) (R := R) (i := i) (set := set) (g := t) (t' - t)
    rw [show t + (t' - t) = t' by omega] at this
    exact this
  · have := lm_same (L := L) (R := R) (i := i) (set := set) (g := t') (t - t') (by rw [show t' + (t - t') = t by omega]; exact h)
    rw [show t' + (t - t') = t by omega] at this
    rw [this]
    exact fun _ z => z
theorem ones_nth {set k : Nat} (hk : k < ones set G) : ones set (nth set k G + 1) = k + 1 := by
  obtain ⟨w1, w2, w3⟩ := nth_lt hk
  rw [ones, w3, if_pos w2]
/-- gatesAlive: so many gates of a path are alive -/
theorem alive_eq {N : Nat} (hN : 1000 ≤ N) (hn : n ≤ 4) (hG : G ≤ 8) {P : List (Nat × Nat)} {paths : Int32} {starts sizes steps links : Nat → Int32} (hP : PathC G L R P paths starts sizes steps links) {sure : Nat → Int32} {ris fal : Nat → Int64} {cap : Nat → Int32} (hT : TabOf n G L R nx κ sure ris fal cap) {p i set to : Nat} (hel : P[p]? = some (i, set)) (hi : i < n) (hto : to < 2) : ∃ al, f_X3_gatesAlive N (nI p) (nI to) sizes starts steps links sure = some (nI al) ∧ al ≤ ones set G ∧ ∀ t, t ≤ G → (ALv n G L R κ i (lm L R i set t) to ↔ ones set t ≤ al) := by
  have ho := ones_le set G
  have hpl : p < P.length := (List.getElem?_eq_some_iff.mp hel).1
  have hp55 := hP.2.1
  obtain ⟨h1, h2, h3, h4⟩ := hP.2.2 p i set hel
  obtain ⟨al, e, i1, i2, i3⟩ := al_L hN hn hG hP hT hel hi hto (fun x => some x) 256 0 N 0 (by omega) (by omega) ⟨Nat.zero_le _, Or.inl rfl, fun _ _ h => absurd h (Nat.not_lt_zero _)⟩
  refine ⟨al, ?_, i1, fun t ht => ⟨fun hA => ?_, fun hle => ?_⟩⟩
  · rw [f_X3_gatesAlive, grd_nI (show p < 55 by omega) (by decide), nI_clamp (show p < 2 ^ 31 by omega), h2]
    simp only [bnd]
    exact e
  · rcases Nat.lt_or_ge al (ones set t) with w | w
    · have hm := ones_mono set ht
      have hal : al < ones set G := by omega
      obtain ⟨pair, p1, p2, p3, p4, p5⟩ := hA
      obtain ⟨w1, w2, w3⟩ := nth_lt hal
      refine absurd ⟨⟨p3, p4⟩, ?_⟩ (i3 hal pair p1)
      rw [sr_iff (lm_pos w2)]
      refine ⟨p2, fun k hk => p5 k ?_⟩
      exact lm_ones (t := nth set al G + 1) (by rw [ones_nth hal]; omega) k hk
    · exact w
  · rcases i2 with w | ⟨pair, p1, p2, p3⟩
    · subst w
      have : lm L R i set t = 0 := by
        have z := lm_same (L := L) (R := R) (i := i) (set := set) (g := 0) t (by rw [Nat.zero_add]; exact hle)
        rw [Nat.zero_add] at z
        exact z
      rw [this]
      exact alv_0 hn hi hto
    · rcases Nat.eq_zero_or_pos al with w | w
      · subst w
        have : lm L R i set t = 0 := by
          have z := lm_same (L := L) (R := R) (i := i) (set := set) (g := 0) t (by rw [Nat.zero_add]; exact hle)
          rw [Nat.zero_add] at z
          exact z
        rw [this]
        exact alv_0 hn hi hto
      · have hal : al - 1 < ones set G := by omega
        obtain ⟨w1, w2, w3⟩ := nth_lt hal
        obtain ⟨q1, q2⟩ := (sr_iff (lm_pos w2)).mp p3
        refine ⟨pair, p1, q1, p2.1, p2.2, fun k hk => q2 k ?_⟩
        exact lm_ones (t' := nth set (al - 1) G + 1) (by rw [ones_nth hal]; omega) k hk
/-- path p begins with the gates X from the input i on -/
def BB (n G : Nat) (L R : Nat → Nat) (i X p : Nat) : Bool := match (PL n G L R)[p]? with
  | some (i', s) => decide (i' = i) && decide (s % 2 ^ topB X 8 = X)
  | none => false
theorem BB_at {p i' s i X : Nat} (hel : (PL n G L R)[p]? = some (i', s)) : BB n G L R i X p = (decide (i' = i) && decide (s % 2 ^ topB X 8 = X)) := by
  unfold BB
  rw [hel]
theorem cut_top {set k : Nat} (hG : G ≤ 8) (hk : k < ones set G) : topB (set % 2 ^ (nth set k G + 1)) 8 = nth set k G + 1 := by
  obtain ⟨w1, w2, w3⟩ := nth_lt hk
  apply topB_of (Nat.mod_lt _ (Nat.two_pow_pos _))
  · rw [Nat.add_sub_cancel, mod_tb set _ _ (Nat.lt_succ_self _)]
    exact w2
  · omega
  · omega
theorem shared_eq {N : Nat} (hn : n ≤ 4) (hG : G ≤ 8) {paths : Int32} {starts sizes steps links : Nat → Int32} (hP : PathC G L R (PL n G L R) paths starts sizes steps links) {p i set k : Nat} (hel : (PL n G L R)[p]? = some (i, set)) (hk : k < ones set G) : f_X2_isSharedBefore N (nI p) (nI (k + 1)) starts sizes steps links = some (zI (!decide (p = 0) && BB n G L R i (set % 2 ^ (nth set k G + 1)) (p - 1))) := by
  have ho := ones_le set G
  have hpl : p < (PL n G L R).length := (List.getElem?_eq_some_iff.mp hel).1
  have hp55 := hP.2.1
  obtain ⟨h1, h2, h3, h4⟩ := hP.2.2 p i set hel
  obtain ⟨w1, w2, w3⟩ := nth_lt hk
  rw [f_X2_isSharedBefore]
  simp only [bnd]
  rcases Nat.eq_zero_or_pos p with h0 | h0
  · subst h0
    rw [if_pos (show nI 0 - 1 < 0 by decide)]
    rfl
  · obtain ⟨⟨i', s⟩, hel'⟩ : ∃ x, (PL n G L R)[p - 1]? = some x := ⟨_, List.getElem?_eq_getElem (show p - 1 < (PL n G L R).length by omega)⟩
    obtain ⟨g1, g2, g3, g4⟩ := hP.2.2 (p - 1) i' s hel'
    obtain ⟨hi', hs', -, -⟩ := PL_in hel'
    obtain ⟨hi, hs, -, -⟩ := PL_in hel
    have ho' := ones_le s G
    rw [show nI p - 1 = nI (p - 1) from pk_sub (b := 1) (by omega), if_neg (by rw [fa_lt, nI_toInt (by omega)]; show ¬ _ < (0 : Int); omega), grd_nI (show p < 55 by omega) (by decide), grd_nI (show p - 1 < 55 by omega) (by decide), nI_clamp (show p < 2 ^ 31 by omega), nI_clamp (show p - 1 < 2 ^ 31 by omega), h1, g1, g2, decide_eq_false (show ¬ p = 0 by omega), BB_at hel', cut_top hG hk]
    by_cases hii : i = i'
    · subst hii
      rw [if_pos rfl, grd_nI (show p - 1 < 55 by omega) (by decide), decide_eq_true rfl]
      by_cases hsz : ones s G < k + 1
      · rw [if_pos (nI_lt hsz (by omega))]
        have : ¬ s % 2 ^ (nth set k G + 1) = set % 2 ^ (nth set k G + 1) := by
          intro z
          have hc : ones s (nth set k G + 1) = ones set (nth set k G + 1) := ones_cong _ (fun j hj => by rw [← mod_tb s _ j hj, ← mod_tb set _ j hj, z])
          have hm := ones_mono s (show nth set k G + 1 ≤ G by omega)
          rw [hc, ones_nth hk] at hm
          omega
        rw [decide_eq_false this]
        rfl
      · rw [if_neg (fun z => hsz ((nI_ltI (by omega) (by omega)).mp z)), begin_eq hG hP hel hk, begin_eq hG hP hel' (show k < ones s G by omega)]
        simp only [obd1]
        have hk' : k < ones s G := by omega
        obtain ⟨v1, v2, v3⟩ := nth_lt hk'
        by_cases hc : s % 2 ^ (nth set k G + 1) = set % 2 ^ (nth set k G + 1)
        · have hbit : ∀ j, j < nth set k G + 1 → s.testBit j = set.testBit j := fun j hj => by rw [← mod_tb s _ j hj, ← mod_tb set _ j hj, hc]
          have hb2 : s.testBit (nth set k G) = true := by
            rw [hbit _ (Nat.lt_succ_self _)]
            exact w2
          have hn2 := (nth_of w1 hb2).1
          rw [ones_cong (set' := set) (nth set k G) (fun j hj => hbit j (by omega)), w3] at hn2
          rw [decide_eq_true hc]
          show (if nI (lm L R i set (nth set k G + 1)) = nI (lm L R i s (nth s k G + 1)) then some 1 else some 0) = _
          rw [hn2, lm_cong _ hbit, if_pos rfl]
          rfl
        · rw [decide_eq_false hc, if_neg]
          · rfl
          · intro z
            have z := (nI_eq (bg_lt hG hk) (bg_lt hG hk')).mp z
            have e1 := lm_cut (L := L) (R := R) (i := i) (set := set) (t := nth set k G + 1) (show nth set k G + 1 ≤ G by omega)
            have e2 := lm_cut (L := L) (R := R) (i := i) (set := s) (t := nth s k G + 1) (show nth s k G + 1 ≤ G by omega)
            have z2 : lm L R i (set % 2 ^ (nth set k G + 1)) G = lm L R i (s % 2 ^ (nth s k G + 1)) G := by
              rw [e1, e2]
              exact z
            have hX : set % 2 ^ (nth set k G + 1) = s % 2 ^ (nth s k G + 1) := by
              apply Nat.eq_of_testBit_eq
              intro j
              rcases Nat.lt_or_ge j G with w | w
              · exact lm_inj G z2 j w
              · rw [Nat.testBit_mod_two_pow, Nat.testBit_mod_two_pow, decide_eq_false (show ¬ j < nth set k G + 1 by omega), decide_eq_false (show ¬ j < nth s k G + 1 by omega)]
                rfl
            have t1 := cut_top hG hk
            have t2 := cut_top hG hk'
            rw [hX, t2] at t1
            rw [t1] at hX
            exact hc hX.symm
    · rw [if_neg (fun z => hii ((nI_eq (by omega) (by omega)).mp z)), decide_eq_false (fun z => hii z.symm)]
      rfl
end PC
