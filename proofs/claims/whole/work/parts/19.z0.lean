-- pruned: beginnings
theorem slwB_swap (f : Nat → Nat → Nat) (k : Nat) : ∀ m, slwB (fun a => slwB (fun b => f a b) m) k = slwB (fun b => slwB (fun a => f a b) k) m := by
  intro m
  induction m with
  | zero =>
    show slwB (fun _ => 0) k = 0
    induction k with
    | zero => rfl
    | succ k ih => rw [slwB, ih]
  | succ m ih =>
    have e : slwB (fun a => slwB (fun b => f a b) (m + 1)) k = slwB (fun a => slwB (fun b => f a b) m) k + slwB (fun a => f a m) k := by
      clear ih
      induction k with
      | zero => rfl
      | succ k ih =>
        show slwB (fun a => slwB (fun b => f a b) (m + 1)) k + (slwB (fun b => f k b) m + f k m) = (slwB (fun a => slwB (fun b => f a b) m) k + slwB (fun b => f k b) m) + (slwB (fun a => f a m) k + f k m)
        rw [ih]
        omega
    rw [e, ih]
    rfl
theorem slwB_zero {f : Nat → Nat} : ∀ {k : Nat}, (∀ z, z < k → f z = 0) → slwB f k = 0
  | 0, _ => rfl
  | k + 1, h => by
    rw [slwB, slwB_zero (fun z hz => h z (by omega)), h k (by omega)]
theorem slwB_one {f : Nat → Nat} {a : Nat} : ∀ {k : Nat}, a < k → (∀ z, z < k → z ≠ a → f z = 0) → slwB f k = f a
  | 0, h, _ => by omega
  | k + 1, h, H => by
    rw [slwB]
    rcases Nat.lt_or_ge a k with w | w
    · rw [slwB_one w (fun z hz hne => H z (by omega) hne), H k (by omega) (by omega), Nat.add_zero]
    · have : a = k := by omega
      subst this
      rw [slwB_zero (fun z hz => H z (by omega) (by omega)), Nat.zero_add]
theorem slwB_ct (f : Nat → Bool) : ∀ m, slwB (fun p => if f p then 1 else 0) m = ctB f m
  | 0 => rfl
  | m + 1 => by
    rw [slwB, ctB, slwB_ct f m]
/-- what holds in one run of numbers has one first place, if any -/
theorem ct_first {b : Nat → Bool} : ∀ {m : Nat}, (∀ p q r, p < q → q < r → r < m → b p = true → b r = true → b q = true) → ctB (fun p => b p && (decide (p = 0) || !b (p - 1))) m = if anyB b m then 1 else 0
  | 0, _ => rfl
  | m + 1, H => by
    rw [ctB, ct_first (m := m) (fun p q r h1 h2 h3 => H p q r h1 h2 (by omega)), anyB]
    cases hb : b m with
    | false => simp
    | true =>
      rcases Nat.eq_zero_or_pos m with h0 | h0
      · subst h0
        simp [anyB]
      · cases hb1 : b (m - 1) with
        | true =>
          have ha : anyB b m = true := anyB_iff.mpr ⟨m - 1, by omega, hb1⟩
          rw [ha]
          simp [show ¬ m = 0 by omega]
        | false =>
          have ha : anyB b m = false := by
            cases ha : anyB b m with
            | false => rfl
            | true =>
              obtain ⟨z, z1, z2⟩ := anyB_iff.mp ha
              have hz : z < m - 1 := by
                rcases Nat.lt_or_ge z (m - 1) with w | w
                · exact w
                · have : z = m - 1 := by omega
                  subst this
                  rw [hb1] at z2
                  cases z2
              have := H z (m - 1) m hz (by omega) (by omega) z2 hb
              rw [hb1] at this
              cases this
          rw [ha]
          simp
-- the order of paths
theorem psets_ord {G : Nat} {L R : Nat → Nat} {i : Nat} : ∀ {v : Nat}, v ≤ 255 → (psets G L R i v).Pairwise (fun a b => rev8 b < rev8 a)
  | 0, _ => List.Pairwise.nil
  | v + 1, h => by
    have ih := psets_ord (G := G) (L := L) (R := R) (i := i) (v := v) (by omega)
    rw [psets]
    split
    · show List.Pairwise _ (rev8 (v + 1) :: psets G L R i v)
      rw [List.pairwise_cons]
      refine ⟨fun a ha => ?_, ih⟩
      obtain ⟨q, q1, q2, rfl, -⟩ := psets_mem ha
      rw [(rev8_tab q (by omega)).1, (rev8_tab (v + 1) (by omega)).1]
      omega
    · exact ih
def ltP (a b : Nat × Nat) : Prop := a.1 < b.1 ∨ (a.1 = b.1 ∧ rev8 b.2 < rev8 a.2)
theorem PLn_ord {G : Nat} {L R : Nat → Nat} : ∀ n, (PLn G L R n).Pairwise ltP
  | 0 => List.Pairwise.nil
  | n + 1 => by
    rw [PLn, List.pairwise_append]
    refine ⟨PLn_ord n, ?_, ?_⟩
    · rw [List.pairwise_map]
      exact List.Pairwise.imp (fun h => Or.inr ⟨rfl, h⟩) (psets_ord (Nat.le_refl _))
    · intro a ha b hb
      obtain ⟨x, -, rfl⟩ := List.mem_map.mp hb
      obtain ⟨i, set⟩ := a
      exact Or.inl (PLn_mem ha).1
theorem PL_ord {n G : Nat} {L R : Nat → Nat} {p q i set i' set' : Nat} (hpq : p < q) (h1 : (PL n G L R)[p]? = some (i, set)) (h2 : (PL n G L R)[q]? = some (i', set')) : i < i' ∨ (i = i' ∧ rev8 set' < rev8 set) := by
  obtain ⟨p1, p2⟩ := List.getElem?_eq_some_iff.mp h1
  obtain ⟨q1, q2⟩ := List.getElem?_eq_some_iff.mp h2
  have := (List.pairwise_iff_getElem.mp (PLn_ord (G := G) (L := L) (R := R) n)) p q p1 q1 hpq
  have e1 : (PLn G L R n)[p]'p1 = (i, set) := p2
  have e2 : (PLn G L R n)[q]'q1 = (i', set') := q2
  rw [e1, e2] at this
  exact this
theorem rev_cut : ∀ t, t < 9 → ∀ s, s < 256 → rev8 (rev8 s / 2 ^ (8 - t) * 2 ^ (8 - t)) = s % 2 ^ t := by decide +kernel
theorem rev_cut2 : ∀ t, t < 9 → ∀ s, s < 256 → rev8 (s % 2 ^ t) / 2 ^ (8 - t) = rev8 s / 2 ^ (8 - t) := by decide +kernel
theorem cut_mid {t a b c : Nat} (ht : t ≤ 8) (ha : a < 256) (hb : b < 256) (hc : c < 256) (h1 : rev8 b < rev8 a) (h2 : rev8 c < rev8 b) (h : a % 2 ^ t = c % 2 ^ t) : b % 2 ^ t = a % 2 ^ t := by
  have e1 := rev_cut2 t (by omega) a ha
  have e2 := rev_cut2 t (by omega) c hc
  rw [h, e2] at e1
  have hm1 : rev8 c / 2 ^ (8 - t) ≤ rev8 b / 2 ^ (8 - t) := Nat.div_le_div_right (by omega)
  have hm2 : rev8 b / 2 ^ (8 - t) ≤ rev8 a / 2 ^ (8 - t) := Nat.div_le_div_right (by omega)
  have hm : rev8 b / 2 ^ (8 - t) = rev8 a / 2 ^ (8 - t) := by
    rw [← e1] at hm2 ⊢
    exact Nat.le_antisymm hm2 hm1
  rw [← rev_cut t (by omega) b hb, ← rev_cut t (by omega) a ha, hm]
-- tops
def topB (X : Nat) : Nat → Nat
  | 0 => 0
  | g + 1 => if X.testBit g then g + 1 else topB X g
theorem topB_le (X : Nat) : ∀ g, topB X g ≤ g
  | 0 => Nat.le_refl _
  | g + 1 => by
    have := topB_le X g
    rw [topB]
    split <;> omega
theorem topB_more {X G : Nat} (h : X < 2 ^ G) : ∀ k, topB X (G + k) = topB X G
  | 0 => rfl
  | k + 1 => by
    rw [← Nat.add_assoc, topB, Nat.testBit_lt_two_pow (Nat.lt_of_lt_of_le h (Nat.pow_le_pow_right (by decide) (by omega))), if_neg (by decide)]
    exact topB_more h k
/-- a number's top bit, and what is left of it -/
theorem topB_of {X t : Nat} (h1 : X < 2 ^ t) (h2 : X.testBit (t - 1) = true) (h0 : 0 < t) {G : Nat} (hG : t ≤ G) : topB X G = t := by
  have e : topB X t = t := by
    obtain ⟨s, rfl⟩ : ∃ s, t = s + 1 := ⟨t - 1, by omega⟩
    rw [topB, if_pos (by rw [show s + 1 - 1 = s by omega] at h2; exact h2)]
  have := topB_more h1 (G - t)
  rw [show t + (G - t) = G by omega, e] at this
  exact this
theorem topB_lt {X : Nat} : ∀ {G : Nat}, X < 2 ^ G → X < 2 ^ topB X G
  | 0, h => h
  | G + 1, h => by
    rw [topB]
    by_cases hb : X.testBit G = true
    · rw [if_pos hb]
      exact h
    · rw [if_neg hb]
      apply topB_lt
      have hb : X.testBit G = false := by
        cases z : X.testBit G with
        | false => rfl
        | true => exact absurd z hb
      have := (tb_iff0 X G).mp hb
      have h2 : X / 2 ^ G < 2 := by
        apply Nat.div_lt_of_lt_mul
        rw [← Nat.pow_succ]
        exact h
      have h3 : X / 2 ^ G = 0 := by
        generalize X / 2 ^ G = y at this h2 ⊢
        omega
      exact (Nat.div_eq_zero_iff_lt (Nat.two_pow_pos G)).mp h3
theorem topB_bit {X : Nat} (h0 : 0 < X) : ∀ {G : Nat}, X < 2 ^ G → 0 < topB X G ∧ X.testBit (topB X G - 1) = true
  | 0, h => by
    rw [Nat.pow_zero] at h
    omega
  | G + 1, h => by
    rw [topB]
    by_cases hb : X.testBit G = true
    · rw [if_pos hb]
      exact ⟨by omega, by rw [show G + 1 - 1 = G by omega]; exact hb⟩
    · rw [if_neg hb]
      apply topB_bit h0
      have hl := topB_lt h
      rw [topB, if_neg hb] at hl
      exact Nat.lt_of_lt_of_le hl (Nat.pow_le_pow_right (by decide) (topB_le X G))
theorem ones_cong {set set' : Nat} : ∀ g, (∀ k, k < g → set.testBit k = set'.testBit k) → ones set g = ones set' g
  | 0, _ => rfl
  | g + 1, h => by
    rw [ones, ones, h g (by omega), ones_cong g (fun k hk => h k (by omega))]
theorem ones_mono (set : Nat) : ∀ {g h : Nat}, g ≤ h → ones set g ≤ ones set h := by
  intro g h hg
  obtain ⟨k, rfl⟩ : ∃ k, h = g + k := ⟨h - g, by omega⟩
  clear hg
  induction k with
  | zero => exact Nat.le_refl _
  | succ k ih =>
    rw [← Nat.add_assoc, ones]
    omega
section PR
variable {n G : Nat} {L R nx κ : Nat → Nat} {nt : Nat → Bool}
theorem lm_cong {i set set' : Nat} : ∀ g, (∀ k, k < g → set.testBit k = set'.testBit k) → lm L R i set g = lm L R i set' g
  | 0, _ => rfl
  | g + 1, h => by
    rw [lm, lm, h g (by omega), lm_cong g (fun k hk => h k (by omega)), fl_cong g (fun k hk => h k (by omega))]
theorem lm_more {i set g : Nat} (hs : set < 2 ^ g) : ∀ k, lm L R i set (g + k) = lm L R i set g
  | 0 => rfl
  | k + 1 => by
    rw [← Nat.add_assoc, lm, Nat.testBit_lt_two_pow (Nat.lt_of_lt_of_le hs (Nat.pow_le_pow_right (by decide) (by omega))), if_neg (by decide)]
    exact lm_more hs k
theorem mod_tb (set t : Nat) : ∀ k, k < t → (set % 2 ^ t).testBit k = set.testBit k := by
  intro k hk
  rw [Nat.testBit_mod_two_pow, decide_eq_true hk, Bool.true_and]
/-- the links of a set cut at t -/
theorem lm_cut {i set t : Nat} (ht : t ≤ G) : lm L R i (set % 2 ^ t) G = lm L R i set t := by
  have := lm_more (L := L) (R := R) (i := i) (Nat.mod_lt set (Nat.two_pow_pos t)) (G - t)
  rw [show t + (G - t) = G by omega] at this
  rw [this]
  exact lm_cong t (mod_tb set t)
theorem fl_cut {i set t : Nat} (ht : t ≤ G) : fl L R i (set % 2 ^ t) G = fl L R i set t := by
  have := fl_more (L := L) (R := R) (i := i) (Nat.mod_lt set (Nat.two_pow_pos t)) (G - t)
  rw [show t + (G - t) = G by omega] at this
  rw [this]
  exact fl_cong t (mod_tb set t)
theorem lm_step {i set g : Nat} : ∃ c, lm L R i set (g + 1) = lm L R i set g + c * 2 ^ (2 * g) ∧ c < 4 ∧ (0 < c ↔ set.testBit g = true) := by
  rw [lm, ← p4]
  by_cases hb : set.testBit g = true
  · rw [if_pos hb]
    by_cases hL : L g = (fl L R i set g).1
    · rw [if_pos hL]
      exact ⟨1, rfl, by decide, ⟨fun _ => hb, fun _ => by decide⟩⟩
    · rw [if_neg hL]
      exact ⟨2, rfl, by decide, ⟨fun _ => hb, fun _ => by decide⟩⟩
  · rw [if_neg hb]
    exact ⟨0, by omega, by decide, ⟨fun z => by omega, fun z => absurd z hb⟩⟩
theorem lm_sub {i set g : Nat} : ∀ k, Sub (lm L R i set g) (lm L R i set (g + k))
  | 0 => fun _ h => h
  | k + 1 => by
    intro j hj
    have := lm_sub (i := i) (set := set) (g := g) k j hj
    obtain ⟨c, e, -, -⟩ := lm_step (L := L) (R := R) (i := i) (set := set) (g := g + k)
    have hl := lm_lt (L := L) (R := R) i set (g + k)
    rw [p4] at hl
    rw [← Nat.add_assoc, e, tb_add hl]
    by_cases w : j < 2 * (g + k)
    · rw [if_pos w]
      exact this
    · rw [Nat.testBit_lt_two_pow (Nat.lt_of_lt_of_le hl (Nat.pow_le_pow_right (by decide) (by omega)))] at this
      cases this
theorem lm_inj {i set set' : Nat} : ∀ g, lm L R i set g = lm L R i set' g → ∀ k, k < g → set.testBit k = set'.testBit k
  | 0, _, k, hk => by omega
  | g + 1, h, k, hk => by
    obtain ⟨c, e, c4, c0⟩ := lm_step (L := L) (R := R) (i := i) (set := set) (g := g)
    obtain ⟨c', e', c4', c0'⟩ := lm_step (L := L) (R := R) (i := i) (set := set') (g := g)
    have hl := lm_lt (L := L) (R := R) i set g
    have hl' := lm_lt (L := L) (R := R) i set' g
    rw [p4] at hl hl'
    rw [e, e'] at h
    obtain ⟨d1, d2⟩ := digit h hl hl'
    subst d2
    rcases Nat.lt_or_ge k g with w | w
    · exact lm_inj g d1 k w
    · have : k = g := by omega
      subst this
      rcases Nat.eq_zero_or_pos c with z | z
      · have n1 : ¬ set.testBit k = true := fun y => by have := c0.mpr y; omega
        have n2 : ¬ set'.testBit k = true := fun y => by have := c0'.mpr y; omega
        cases h1 : set.testBit k with
        | true => exact absurd h1 n1
        | false =>
          cases h2 : set'.testBit k with
          | true => exact absurd h2 n2
          | false => rfl
      · rw [c0.mp z, c0'.mp z]
theorem lm_pos {i set g : Nat} (hb : set.testBit g = true) : 0 < lm L R i set (g + 1) := by
  obtain ⟨c, e, -, c0⟩ := lm_step (L := L) (R := R) (i := i) (set := set) (g := g)
  have h1 := c0.mpr hb
  have h2 : 1 * 2 ^ (2 * g) ≤ c * 2 ^ (2 * g) := Nat.mul_le_mul_right _ h1
  have h3 := Nat.two_pow_pos (2 * g)
  omega
/-- links M are tested surely by some pair that goes over at the input i to 'to' -/
def alP (n G : Nat) (L R κ : Nat → Nat) (i M to pair : Nat) : Prop := okB n pair = true ∧ ¬ bitN (pair / 16) i = to ∧ bitN (pair % 16) i = to ∧ Sub M (lnkM L R κ pair G 2 G)
def ALv (n G : Nat) (L R κ : Nat → Nat) (i M to : Nat) : Prop := ∃ pair, pair < 256 ∧ alP n G L R κ i M to pair
theorem alv_mono {i M M' to : Nat} (h : Sub M M') (a : ALv n G L R κ i M' to) : ALv n G L R κ i M to := by
  obtain ⟨pair, h1, h2, h3, h4, h5⟩ := a
  exact ⟨pair, h1, h2, h3, h4, fun k hk => h5 k (h k hk)⟩
theorem go_tab : ∀ n, n < 5 → ∀ i, i < n → ∀ to, to < 2 → okB n (if to = 1 then 2 ^ i else 16 * 2 ^ i) = true ∧ ¬ bitN ((if to = 1 then 2 ^ i else 16 * 2 ^ i) / 16) i = to ∧ bitN ((if to = 1 then 2 ^ i else 16 * 2 ^ i) % 16) i = to ∧ (if to = 1 then 2 ^ i else 16 * 2 ^ i) < 256 := by decide
theorem alv_0 (hn : n ≤ 4) {i to : Nat} (hi : i < n) (hto : to < 2) : ALv n G L R κ i 0 to := by
  obtain ⟨h1, h2, h3, h4⟩ := go_tab n (by omega) i hi to hto
  exact ⟨_, h4, h1, h2, h3, Sub_0 _⟩
theorem fit_iff {i X to pair : Nat} (hto : to < 2) : fitN n G L R nx κ i X to 0 pair = true ↔ alP n G L R κ i (lm L R i X G) to pair := by
  have hb1 := bitN_lt (pair / 16) i
  have hb2 := bitN_lt (pair % 16) i
  unfold fitN alP
  rw [lau_0, Bool.true_and, Bool.and_eq_true, Bool.and_eq_true, decide_eq_true_eq, decide_eq_true_eq, tst2_iff]
  constructor
  · intro ⟨⟨a, b⟩, c, d⟩
    exact ⟨a, by omega, b, d⟩
  · intro ⟨a, b, c, d⟩
    exact ⟨⟨a, c⟩, by omega, d⟩
/-- the reference's count of tests is above 0: some are alive -/
theorem fit_al {i X to : Nat} (hto : to < 2) : 0 < (bsF (fitN n G L R nx κ i X to 0) 256).2 ↔ ALv n G L R κ i (lm L R i X G) to := by
  rw [bsF_ct]
  constructor
  · intro h
    obtain ⟨p, p1, p2⟩ := ctB_pos h
    exact ⟨p, p1, (fit_iff hto).mp p2⟩
  · intro ⟨p, p1, p2⟩
    have := anyB_ct (fitN n G L R nx κ i X to 0) 256
    rw [anyB_iff.mpr ⟨p, p1, (fit_iff hto).mpr p2⟩] at this
    exact decide_eq_true_eq.mp this.symm
end PR
