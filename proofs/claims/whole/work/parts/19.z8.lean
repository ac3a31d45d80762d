-- the class's paths
theorem cs_inj {a b : Nat} (h : cs a = cs b) : a = b := by
  unfold cs at h
  split at h <;> split at h <;> omega
theorem cs_bd {a : Nat} (h : a < 12) : cs a < 18 := by
  unfold cs
  split <;> omega
section NC
variable {n G : Nat} {L R nx κ : Nat → Nat} {nt : Nat → Bool}
theorem pc_keep {P : List (Nat × Nat)} {starts sizes steps links steps' : Nat → Int32} (h : PathC G L R P (nI P.length) starts sizes steps links) (hG : G ≤ 8) (hs : ∀ j, j < P.length * 8 → steps' j = steps j) : PathC G L R P (nI P.length) starts sizes steps' links := by
  refine ⟨rfl, h.2.1, fun p i set hel => ?_⟩
  obtain ⟨h1, h2, h3, h4⟩ := h.2.2 p i set hel
  have hpl : p < P.length := (List.getElem?_eq_some_iff.mp hel).1
  refine ⟨h1, h2, h3, fun k hk => ?_⟩
  have := ones_le set G
  rw [hs _ (by omega)]
  exact h4 k hk
theorem pc_add {P : List (Nat × Nat)} {starts sizes steps links steps' : Nat → Int32} {i set : Nat} (h55 : P.length < 55) (hG : G ≤ 8) (h : PathC G L R P (nI P.length) starts sizes steps links) (hs : ∀ j, j < P.length * 8 → steps' j = steps j) (hn : ∀ k, k < ones set G → steps' (P.length * 8 + k) = nI (nth set k G)) : PathC G L R (P ++ [(i, set)]) (nI (P.length + 1)) (upd starts P.length (nI i)) (upd sizes P.length (nI (ones set G))) steps' (upd links P.length (nI (lm L R i set G))) := by
  refine ⟨by rw [List.length_append]; rfl, by rw [List.length_append]; show P.length + 1 ≤ 55; omega, fun p i' set' hel => ?_⟩
  rcases getApp hel with ⟨w1, w2⟩ | ⟨w1, w2⟩
  · obtain ⟨h1, h2, h3, h4⟩ := (pc_keep h hG hs).2.2 p i' set' w2
    rw [updNe (by omega), updNe (by omega), updNe (by omega)]
    exact ⟨h1, h2, h3, h4⟩
  · subst w1
    cases w2
    rw [updEq, updEq, updEq]
    exact ⟨rfl, rfl, rfl, hn⟩
theorem add_eq2 {N : Nat} (hN : 1000 ≤ N) (hC : Circ n G L R nt) {lefts rights : Nat → Int32} (hlr : ∀ g, g < G → lefts g = nI (cs (L g)) ∧ rights g = if nt g then -9 else nI (cs (R g))) {i c : Nat} (hi : i < n) (hc : c < 2 ^ G) {P : List (Nat × Nat)} (h55 : P.length < 55) {starts sizes steps links : Nat → Int32} (hP : PathC G L R P (nI P.length) starts sizes steps links) : ∃ starts' sizes' links' steps', f_X2_addIfLinked N (nI i) (nI c) (nI G) (nI P.length) starts sizes links lefts steps rights = some (nI (P ++ (if (fl L R i (sgm G c) G).2 = true then [(i, sgm G c)] else [])).length, starts', sizes', links', steps') ∧ PathC G L R (P ++ (if (fl L R i (sgm G c) G).2 = true then [(i, sgm G c)] else [])) (nI (P ++ (if (fl L R i (sgm G c) G).2 = true then [(i, sgm G c)] else [])).length) starts' sizes' steps' links' := by
  obtain ⟨hn, hG, -, -, hgg⟩ := id hC
  obtain ⟨s1, s2⟩ := sgm_tab G (by omega) c hc
  have h28 := pow2_8 hG
  have key : ∀ (m g nf : Nat) (st : Nat → Int32), g + m = G → m < nf → (fl L R i (sgm G c) g).2 = true → (∀ j, j < P.length * 8 → st j = steps j) → (∀ k, k < ones (sgm G c) g → st (P.length * 8 + k) = nI (nth (sgm G c) k g)) → ∃ st', (∀ j, j < P.length * 8 → st' j = steps j) ∧ ((fl L R i (sgm G c) G).2 = true → ∀ k, k < ones (sgm G c) G → st' (P.length * 8 + k) = nI (nth (sgm G c) k G)) ∧ ∀ J : Int32 → Int32 → (Nat → Int32) → Option (Int32 × (Nat → Int32) × (Nat → Int32) × (Nat → Int32) × (Nat → Int32)), f_X2_addIfLinked_L21 N (nI c) (nI G) (nI P.length) starts sizes links lefts rights J nf (nI (cs (fl L R i (sgm G c) g).1)) (nI (ones (sgm G c) g)) (nI (lm L R i (sgm G c) g)) (nI g) st = if (fl L R i (sgm G c) G).2 = true then J (nI (ones (sgm G c) G)) (nI (lm L R i (sgm G c) G)) st' else some (nI P.length, starts, sizes, links, st') := by
    intro m
    induction m with
    | zero =>
      intro g nf st hg hnf hf hst hk
      obtain ⟨nf, rfl⟩ : ∃ z, nf = z + 1 := ⟨nf - 1, by omega⟩
      obtain rfl : g = G := by omega
      refine ⟨st, hst, fun _ => hk, fun J => ?_⟩
      rw [f_X2_addIfLinked_L21, if_pos (le_t (Nat.le_refl _) (by omega)), if_pos hf]
    | succ m ih =>
      intro g nf st hg hnf hf hst hk
      obtain ⟨nf, rfl⟩ : ∃ z, nf = z + 1 := ⟨nf - 1, by omega⟩
      have hgG : g < G := by omega
      obtain ⟨g1, g2, g3, g4⟩ := hgg g hgG
      obtain ⟨q1, q2⟩ := hlr g hgG
      have l1 := Sg_lt g1 hn
      have l2 := Sg_lt g2 hn
      have hat := Sg_lt (fl_at hC hi (set := sgm G c) g (by omega)) hn
      have c1 := cs_bd (show L g < 12 by omega)
      have c2 := cs_bd (show R g < 12 by omega)
      have c3 := cs_bd (show (fl L R i (sgm G c) g).1 < 12 by omega)
      have ho := ones_le (sgm G c) g
      have hbit := s2 g hgG
      have hsh : nI G - 1 - nI g = nI (G - 1 - g) := by
        rw [show nI G - 1 = nI (G - 1) from pk_sub (b := 1) (by omega), pk_sub (by omega)]
      have hbt : (nI c >>> ((nI G - 1 - nI g) &&& 31)) &&& 1 = nI (c / 2 ^ (G - 1 - g) % 2) := by
        rw [hsh]
        exact bit_nI (by omega) (by omega)
      cases hb : (sgm G c).testBit g with
      | false =>
        rw [hb] at hbit
        have e1 : fl L R i (sgm G c) (g + 1) = fl L R i (sgm G c) g := by
          rw [fl, hb, if_neg (by decide)]
        have e2 : ones (sgm G c) (g + 1) = ones (sgm G c) g := by
          rw [ones, hb, if_neg (by decide), Nat.add_zero]
        have e3 : lm L R i (sgm G c) (g + 1) = lm L R i (sgm G c) g := by
          rw [lm, hb, if_neg (by decide)]
        obtain ⟨st', r1, r2, r3⟩ := ih (g + 1) nf st (by omega) (by omega) (by rw [e1]; exact hf) hst (fun k hkk => by
          rw [e2] at hkk
          rw [nth_up hkk]
          exact hk k hkk)
        refine ⟨st', r1, r2, fun J => ?_⟩
        rw [← r3 J, f_X2_addIfLinked_L21, if_neg (le_f hgG (by omega)), hbt, (tb_iff0 c _).mp hbit.symm]
        simp only [bnd, nI_1]
        rw [if_neg (show ¬ nI 0 = 1 by decide), e1, e2, e3]
      | true =>
        rw [hb] at hbit
        by_cases hlk : L g = (fl L R i (sgm G c) g).1 ∨ R g = (fl L R i (sgm G c) g).1
        · have e1 : fl L R i (sgm G c) (g + 1) = (4 + g, true) := by
            rw [fl, hb, if_pos rfl, hf]
            have : (decide (L g = (fl L R i (sgm G c) g).1) || decide (R g = (fl L R i (sgm G c) g).1)) = true := by
              rw [Bool.or_eq_true, decide_eq_true_eq, decide_eq_true_eq]
              exact hlk
            rw [this]
            rfl
          have e2 : ones (sgm G c) (g + 1) = ones (sgm G c) g + 1 := by
            rw [ones, hb, if_pos rfl]
          have e3 : lm L R i (sgm G c) (g + 1) = lm L R i (sgm G c) g + (if L g = (fl L R i (sgm G c) g).1 then 1 else 2) * 2 ^ (2 * g) := by
            rw [lm, hb, if_pos rfl, p4]
          have hll := lm_lt (L := L) (R := R) i (sgm G c) g
          rw [p4] at hll
          obtain ⟨st', r1, r2, r3⟩ := ih (g + 1) nf (upd st (P.length * 8 + ones (sgm G c) g) (nI g)) (by omega) (by omega) (by rw [e1]) (fun j hj => by
            rw [updNe (by omega)]
            exact hst j hj) (fun k hkk => by
            rw [e2] at hkk
            rcases Nat.lt_or_ge k (ones (sgm G c) g) with w | w
            · rw [updNe (by omega), nth_up w]
              exact hk k w
            · have : k = ones (sgm G c) g := by omega
              subst this
              rw [updEq, nth, if_pos ⟨rfl, hb⟩])
          refine ⟨st', r1, r2, fun J => ?_⟩
          have hcs4 : cs (4 + g) = 10 + g := by
            unfold cs
            rw [if_neg (by omega)]
            omega
          rw [← r3 J, f_X2_addIfLinked_L21, if_neg (le_f hgG (by omega)), hbt, (tb_iff c _).mp hbit.symm, l8p, show (10 : Int32) + nI g = nI (10 + g) from nI_add 10 g, nI_clamp (show g < 2 ^ 31 by omega), q1, q2, e1, e2, e3]
          simp only [bnd, nI_1, (sh2_tab g (by omega)).1, (sh2_tab g (by omega)).2, grd_nI (show g < 8 by omega) (show 8 ≤ 2 ^ 31 by decide), grd_nI (show P.length * 8 + ones (sgm G c) g < 440 by omega) (show 440 ≤ 2 ^ 31 by decide), nI_clamp (show P.length * 8 + ones (sgm G c) g < 2 ^ 31 by omega), hcs4]
          rw [if_pos (show nI 1 = 1 from rfl)]
          by_cases hL : L g = (fl L R i (sgm G c) g).1
          · rw [if_pos (show nI (cs (L g)) = nI (cs (fl L R i (sgm G c) g).1) by rw [hL]), if_pos hL, if_pos (show nI (cs (L g)) = nI (cs (fl L R i (sgm G c) g).1) by rw [hL])]
            have := or_mul (c := 1) hll
            rw [Nat.one_mul] at this
            rw [this, Nat.one_mul]
          · have hR : R g = (fl L R i (sgm G c) g).1 := by
              rcases hlk with w | w
              · exact absurd w hL
              · exact w
            have hnt : nt g = false := by
              cases z : nt g with
              | false => rfl
              | true => exact absurd (by rw [← g3 z]; exact hR) hL
            have hLn : ¬ nI (cs (L g)) = nI (cs (fl L R i (sgm G c) g).1) := fun z => hL (cs_inj ((nI_eq (by omega) (by omega)).mp z))
            rw [if_neg hLn, if_neg hLn, if_neg hL, hnt, if_neg (show ¬ false = true by decide), if_pos (show nI (cs (R g)) = nI (cs (fl L R i (sgm G c) g).1) by rw [hR])]
            have := or_mul (c := 2) hll
            rw [show 2 * 2 ^ (2 * g) = 2 ^ (2 * g + 1) by rw [Nat.pow_succ, Nat.mul_comm]] at this ⊢
            rw [this]
        · have hL : ¬ L g = (fl L R i (sgm G c) g).1 := fun z => hlk (Or.inl z)
          have hR : ¬ R g = (fl L R i (sgm G c) g).1 := fun z => hlk (Or.inr z)
          have e1 : (fl L R i (sgm G c) (g + 1)).2 = false := by
            rw [fl, hb, if_pos rfl, decide_eq_false hL, decide_eq_false hR]
            show ((fl L R i (sgm G c) g).2 && false) = false
            rw [Bool.and_false]
          have eG : ¬ (fl L R i (sgm G c) G).2 = true := by
            intro z
            have := fl_ok (L := L) (R := R) (i := i) (set := sgm G c) (g := g + 1) (k := G - (g + 1)) (by rw [show g + 1 + (G - (g + 1)) = G by omega]; exact z)
            rw [e1] at this
            cases this
          refine ⟨st, hst, fun z => absurd z eG, fun J => ?_⟩
          have hLn : ¬ nI (cs (L g)) = nI (cs (fl L R i (sgm G c) g).1) := fun z => hL (cs_inj ((nI_eq (by omega) (by omega)).mp z))
          rw [if_neg eG, f_X2_addIfLinked_L21, if_neg (le_f hgG (by omega)), hbt, (tb_iff c _).mp hbit.symm, nI_clamp (show g < 2 ^ 31 by omega), q1, q2]
          simp only [bnd, grd_nI (show g < 8 by omega) (show 8 ≤ 2 ^ 31 by decide)]
          rw [if_pos (show nI 1 = 1 from rfl), if_neg hLn]
          cases hnt : nt g with
          | true => rw [if_pos rfl, if_neg (fun z => neq_9 (show cs (fl L R i (sgm G c) g).1 < 1000 by omega) z.symm)]
          | false => rw [if_neg (show ¬ false = true by decide), if_neg (fun z => hR (cs_inj ((nI_eq (by omega) (by omega)).mp z)))]
  obtain ⟨st', r1, r2, r3⟩ := key G 0 N steps (by omega) (by omega) rfl (fun _ _ => rfl) (fun k hk => absurd hk (Nat.not_lt_zero _))
  have hci : nI i = nI (cs i) := by
    unfold cs
    rw [if_pos (by omega)]
  rw [f_X2_addIfLinked, if_pos (show nI P.length < (55 : Int32) from nI_lt (b := 55) h55 (by decide))]
  simp only [bnd]
  have r3' := r3 (fun x4 x5 k_steps_3 => grd (inb (nI P.length) 55) (grd (inb (nI P.length) 55) (grd (inb (nI P.length) 55) (some (nI P.length + 1, upd starts (nI P.length).toNatClampNeg (nI i), upd sizes (nI P.length).toNatClampNeg x4, upd links (nI P.length).toNatClampNeg x5, k_steps_3)))))
  by_cases hf : (fl L R i (sgm G c) G).2 = true
  · rw [if_pos hf] at r3' ⊢
    simp only [grd_nI (show P.length < 55 by omega) (show 55 ≤ 2 ^ 31 by decide), nI_clamp (show P.length < 2 ^ 31 by omega), nI_1] at r3'
    have hl1 : (P ++ [(i, sgm G c)]).length = P.length + 1 := by
      rw [List.length_append]
      rfl
    rw [hl1]
    refine ⟨_, _, _, _, ?_, pc_add h55 hG hP r1 (r2 hf)⟩
    simp only [grd_nI (show P.length < 55 by omega) (show 55 ≤ 2 ^ 31 by decide), nI_clamp (show P.length < 2 ^ 31 by omega), nI_1]
    have r4 : f_X2_addIfLinked_L21 N (nI c) (nI G) (nI P.length) starts sizes links lefts rights (fun x4 x5 k_steps_3 => some (nI (P.length + 1), upd starts P.length (nI i), upd sizes P.length x4, upd links P.length x5, k_steps_3)) N (nI (cs i)) 0 0 0 steps = some (nI (P.length + 1), upd starts P.length (nI i), upd sizes P.length (nI (ones (sgm G c) G)), upd links P.length (nI (lm L R i (sgm G c) G)), st') := r3'
    rw [← hci] at r4
    exact r4
  · rw [if_neg hf] at r3' ⊢
    rw [List.append_nil]
    refine ⟨starts, sizes, links, st', ?_, pc_keep hP hG r1⟩
    have r4 : f_X2_addIfLinked_L21 N (nI c) (nI G) (nI P.length) starts sizes links lefts rights (fun x4 x5 k_steps_3 => grd (inb (nI P.length) 55) (grd (inb (nI P.length) 55) (grd (inb (nI P.length) 55) (some (nI P.length + 1, upd starts (nI P.length).toNatClampNeg (nI i), upd sizes (nI P.length).toNatClampNeg x4, upd links (nI P.length).toNatClampNeg x5, k_steps_3))))) N (nI (cs i)) 0 0 0 steps = some (nI P.length, starts, sizes, links, st') := r3'
    rw [← hci] at r4
    exact r4
theorem num_in {N : Nat} (hN : 1000 ≤ N) (hC : Circ n G L R nt) (h0 : 0 < G) {lefts rights : Nat → Int32} (hlr : ∀ g, g < G → lefts g = nI (cs (L g)) ∧ rights g = if nt g then -9 else nI (cs (R g))) {i : Nat} (hi : i < n) (J : Int32 → (Nat → Int32) → (Nat → Int32) → (Nat → Int32) → (Nat → Int32) → Option (Int32 × (Nat → Int32) × (Nat → Int32) × (Nat → Int32) × (Nat → Int32))) : ∀ (m nf : Nat) (P : List (Nat × Nat)) (starts sizes links steps : Nat → Int32), m ≤ 2 ^ (G - 1) → m < nf → P.length + (cps G L R i m).length ≤ 55 → PathC G L R P (nI P.length) starts sizes steps links → ∃ starts' sizes' links' steps', f_X2_numberPaths_L24 N (nI G) lefts rights (nI i) J nf (nI (2 * m) - 1) (nI P.length) starts sizes links steps = J (nI (P ++ (cps G L R i m).map (fun set => (i, set))).length) starts' sizes' links' steps' ∧ PathC G L R (P ++ (cps G L R i m).map (fun set => (i, set))) (nI (P ++ (cps G L R i m).map (fun set => (i, set))).length) starts' sizes' steps' links' := by
  have hG := hC.2.1
  have h28 := pow2_8 hG
  have hpw : 2 ^ G = 2 ^ (G - 1) * 2 := by
    rw [← Nat.pow_succ]
    exact congrArg (2 ^ ·) (by omega)
  intro m
  induction m with
  | zero =>
    intro nf P starts sizes links steps hm hnf hle hP
    obtain ⟨nf, rfl⟩ : ∃ z, nf = z + 1 := ⟨nf - 1, by omega⟩
    refine ⟨starts, sizes, links, steps, ?_, ?_⟩
    · rw [f_X2_numberPaths_L24, if_pos (show nI (2 * 0) - 1 ≤ 0 by decide)]
      show J _ _ _ _ _ = J (nI (P ++ []).length) _ _ _ _
      rw [List.append_nil]
    · rw [show (cps G L R i 0).map (fun set => (i, set)) = [] from rfl, List.append_nil]
      exact hP
  | succ m ih =>
    intro nf P starts sizes links steps hm hnf hle hP
    obtain ⟨nf, rfl⟩ : ∃ z, nf = z + 1 := ⟨nf - 1, by omega⟩
    have hx : nI (2 * (m + 1)) - 1 = nI (2 * m + 1) := pk_sub (a := 2 * (m + 1)) (b := 1) (by omega)
    have hx2 : nI (2 * m + 1) + -2 = nI (2 * m) - 1 := by
      rw [← hx, show 2 * (m + 1) = 2 * m + 2 by omega, ← nI_add]
      show nI (2 * m) + 2 - 1 + -2 = nI (2 * m) - 1
      rw [Int32.sub_eq_add_neg, Int32.sub_eq_add_neg, Int32.add_assoc, Int32.add_assoc]
      rfl
    rw [hx, f_X2_numberPaths_L24, if_neg (show ¬ nI (2 * m + 1) ≤ 0 from le_f (b := 0) (by omega) (by omega))]
    by_cases hf : (fl L R i (sgm G (2 * m + 1)) G).2 = true
    · have hps : cps G L R i (m + 1) = [sgm G (2 * m + 1)] ++ cps G L R i m := by
        rw [cps, if_pos hf]
      rw [hps] at hle ⊢
      have hle : P.length + (sgm G (2 * m + 1) :: cps G L R i m).length ≤ 55 := hle
      rw [List.length_cons] at hle
      obtain ⟨t1, t2, t3, t4, u1, u2⟩ := add_eq2 hN hC hlr hi (show 2 * m + 1 < 2 ^ G by omega) (show P.length < 55 by omega) hP
      rw [if_pos hf] at u1 u2
      have hl1 : (P ++ [(i, sgm G (2 * m + 1))]).length = P.length + 1 := by
        rw [List.length_append]
        rfl
      rw [u1]
      simp only [obd5, bnd, hx2]
      obtain ⟨v1, v2, v3, v4, w1, w2⟩ := ih nf (P ++ [(i, sgm G (2 * m + 1))]) t1 t2 t3 t4 (by omega) (by omega) (by rw [hl1]; omega) u2
      have hP2 : P ++ [(i, sgm G (2 * m + 1))] ++ (cps G L R i m).map (fun set => (i, set)) = P ++ ([sgm G (2 * m + 1)] ++ cps G L R i m).map (fun set => (i, set)) := by
        rw [List.append_assoc, List.map_append]
        rfl
      rw [hP2] at w1 w2
      exact ⟨v1, v2, v3, v4, w1, w2⟩
    · have hps : cps G L R i (m + 1) = cps G L R i m := by
        rw [cps, if_neg hf]
        rfl
      rw [hps] at hle ⊢
      by_cases h55 : P.length < 55
      · obtain ⟨t1, t2, t3, t4, u1, u2⟩ := add_eq2 hN hC hlr hi (show 2 * m + 1 < 2 ^ G by omega) h55 hP
        rw [if_neg hf, List.append_nil] at u1 u2
        rw [u1]
        simp only [obd5, bnd, hx2]
        exact ih nf P t1 t2 t3 t4 (by omega) (by omega) hle u2
      · rw [f_X2_addIfLinked, if_neg (show ¬ nI P.length < (55 : Int32) from fun z => h55 ((nI_ltI (b := 55) (by omega) (by decide)).mp z))]
        simp only [obd5, bnd, hx2]
        exact ih nf P starts sizes links steps (by omega) (by omega) hle hP
theorem num_eq {N : Nat} (hN : 1000 ≤ N) (hC : Circ n G L R nt) (h0 : 0 < G) {lefts rights : Nat → Int32} (hlr : ∀ g, g < G → lefts g = nI (cs (L g)) ∧ rights g = if nt g then -9 else nI (cs (R g))) (mp : Int32) (starts sizes links steps : Nat → Int32) : ∃ starts' sizes' links' steps', f_X2_numberPaths N (nI n) (nI G) mp starts sizes links lefts steps rights = some (nI (PL n G L R).length, starts', sizes', links', steps') ∧ PathC G L R (PL n G L R) (nI (PL n G L R).length) starts' sizes' steps' links' := by
  have hn := hC.1
  have hG := hC.2.1
  have h55 := PL_55 hC
  have h28 := pow2_8 hG
  have hpw : 2 ^ G = 2 * 2 ^ (G - 1) := by
    rw [Nat.mul_comm, ← Nat.pow_succ]
    exact congrArg (2 ^ ·) (by omega)
  have key : ∀ (m i nf : Nat) (starts sizes links steps : Nat → Int32), i + m = n → m < nf → PathC G L R (PLn G L R i) (nI (PLn G L R i).length) starts sizes steps links → ∃ starts' sizes' links' steps', f_X2_numberPaths_L7 N (nI n) (nI G) lefts rights (fun a b c d e => some (a, b, c, d, e)) nf (nI i) (nI (PLn G L R i).length) starts sizes links steps = some (nI (PL n G L R).length, starts', sizes', links', steps') ∧ PathC G L R (PL n G L R) (nI (PL n G L R).length) starts' sizes' steps' links' := by
    intro m
    induction m with
    | zero =>
      intro i nf starts sizes links steps hi hnf hP
      obtain ⟨nf, rfl⟩ : ∃ z, nf = z + 1 := ⟨nf - 1, by omega⟩
      obtain rfl : i = n := by omega
      refine ⟨starts, sizes, links, steps, ?_, hP⟩
      rw [f_X2_numberPaths_L7, if_pos (le_t (Nat.le_refl _) (by omega))]
      rfl
    | succ m ih =>
      intro i nf starts sizes links steps hi hnf hP
      obtain ⟨nf, rfl⟩ : ∃ z, nf = z + 1 := ⟨nf - 1, by omega⟩
      rw [f_X2_numberPaths_L7, if_neg (le_f (by omega) (by omega)), shl1 hG, hpw]
      simp only [bnd, nI_1]
      have hm := PLn_mono (G := G) (L := L) (R := R) (i + 1) (n - (i + 1))
      rw [show i + 1 + (n - (i + 1)) = n by omega] at hm
      have hm : (PLn G L R (i + 1)).length ≤ (PL n G L R).length := hm
      rw [PLn, List.length_append, List.length_map, ps_cps255 h0 hG] at hm
      obtain ⟨t1, t2, t3, t4, h1, h2⟩ := num_in hN hC h0 hlr (show i < n by omega) (fun a b c d e => f_X2_numberPaths_L7 N (nI n) (nI G) lefts rights (fun a b c d e => some (a, b, c, d, e)) nf (nI (i + 1)) a b c d e) (2 ^ (G - 1)) N (PLn G L R i) starts sizes links steps (Nat.le_refl _) (by omega) (by omega) hP
      rw [← ps_cps255 h0 hG] at h1 h2
      obtain ⟨v1, v2, v3, v4, h3, h4⟩ := ih (i + 1) nf t1 t2 t3 t4 (by omega) (by omega) h2
      exact ⟨v1, v2, v3, v4, Eq.trans h1 h3, h4⟩
  rw [f_X2_numberPaths]
  simp only [bnd]
  exact key n 0 N starts sizes links steps (by omega) (by omega) ⟨rfl, Nat.zero_le _, fun p i set h => by cases h⟩
end NC
