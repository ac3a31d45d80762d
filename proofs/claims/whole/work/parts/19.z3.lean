-- pruned: the reference, and both
section PQ
variable {n G : Nat} {L R nx κ : Nat → Nat} {nt : Nat → Bool}
theorem BB_fl (hG : G ≤ 8) {i X p : Nat} (hX : X < 2 ^ G) (hB : BB n G L R i X p = true) : (fl L R i X G).2 = true ∧ (fl L R i (X % 2 ^ (topB X 8 - 1)) G).2 = true := by
  unfold BB at hB
  split at hB
  · rename_i i' s hel
    rw [Bool.and_eq_true, decide_eq_true_eq, decide_eq_true_eq] at hB
    obtain ⟨rfl, hc⟩ := hB
    obtain ⟨-, -, -, hfl⟩ := PL_in hel
    have htG : topB X 8 ≤ G := by
      have := topB_more hX (8 - G)
      rw [show G + (8 - G) = 8 by omega] at this
      rw [this]
      exact topB_le X G
    have hany : ∀ t, t ≤ G → (fl L R i' (s % 2 ^ t) G).2 = true := by
      intro t ht
      rw [fl_cut ht]
      apply fl_ok (k := G - t)
      rw [show t + (G - t) = G by omega]
      exact hfl
    have hc2 : X % 2 ^ (topB X 8 - 1) = s % 2 ^ (topB X 8 - 1) := by
      apply Nat.eq_of_testBit_eq
      intro j
      rw [Nat.testBit_mod_two_pow, Nat.testBit_mod_two_pow]
      by_cases w : j < topB X 8 - 1
      · rw [← mod_tb s (topB X 8) j (by omega), hc]
      · rw [decide_eq_false w, Bool.false_and, Bool.false_and]
    refine ⟨?_, ?_⟩
    · have := hany _ htG
      rw [hc] at this
      exact this
    · rw [hc2]
      exact hany _ (by omega)
  · cases hB
theorem pruned_eq {N : Nat} (hN : 1000 ≤ N) (hC : Circ n G L R nt) (hκ : KOk G nt κ) (hnx : ∀ i, i < n → Sg n G (nx i)) {inputs gates mp : Int32} {one other next now pin pga : Nat → Int32} (hNM : NetM n G L R nx nt inputs gates one other next) {lv : Nat} (hlv : lv ≤ 1) (hK : ∀ g, g < G → now (16 * lv + g) = nI (κ g)) (hPM : PathM (PL n G L R) mp pin pga) (bf af va : Nat → Int32) : ∃ bf' af' va', f_X10_prunedOn N (nI lv) inputs gates mp pin pga now other one bf af va next = some (nI (slwB (fun i => slwB (prM n G L R nx κ i) (2 ^ G)) n), bf', af', va') := by
  have hn := hC.1
  have hG := hC.2.1
  have h28 := pow2_8 hG
  obtain ⟨e1, e2, e3, e4⟩ := id hNM
  subst e2
  -- the two edges of a beginning
  have edge : ∀ (J : Int32 → (Nat → Int32) → (Nat → Int32) → (Nat → Int32) → Option (Int32 × (Nat → Int32) × (Nat → Int32) × (Nat → Int32))) (i X : Nat), i < n → 0 < X → X < 2 ^ G → ∀ (cc m r nf : Nat) (bf af va : Nat → Int32), r + m = 2 → m < nf → ∃ bf' af' va', f_X10_prunedOn_L29 N (nI lv) inputs (nI G) mp pin pga now other one next (nI i) (nI X) J nf (nI (cc + slwB (fun to => slwB (fun p => inD n G L R nx κ to i X p) (PL n G L R).length) r)) (nI r) bf af va = J (nI (cc + prM n G L R nx κ i X)) bf' af' va' := by
    intro J i X hi hX0 hX cc m
    induction m with
    | zero =>
      intro r nf bf af va hr hnf
      obtain ⟨nf, rfl⟩ : ∃ z, nf = z + 1 := ⟨nf - 1, by omega⟩
      obtain rfl : r = 2 := by omega
      refine ⟨bf, af, va, ?_⟩
      rw [f_X10_prunedOn_L29, if_pos (show (2 : Int32) ≤ nI 2 from le_t (a := 2) (Nat.le_refl _) (by decide))]
      rfl
    | succ m ih =>
      intro r nf bf af va hr hnf
      obtain ⟨nf, rfl⟩ : ∃ z, nf = z + 1 := ⟨nf - 1, by omega⟩
      have hr2 : r < 2 := by omega
      rw [f_X10_prunedOn_L29, if_neg (show ¬ (2 : Int32) ≤ nI r from le_f (a := 2) (by omega) (by decide)), begins_eq hN hn hG hPM hi hX]
      simp only [obd1, zI_0]
      cases hB : anyB (BB n G L R i X) (PL n G L R).length with
      | false =>
        rw [if_pos rfl]
        refine ⟨bf, af, va, ?_⟩
        have hz : ∀ to, slwB (fun p => inD n G L R nx κ to i X p) (PL n G L R).length = 0 := by
          intro to
          rw [inD_p hG hX, hB, Bool.false_and, if_neg (by decide)]
        unfold prM
        rw [slwB_zero (fun z _ => hz z), slwB_zero (fun z _ => hz z)]
      | true =>
        rw [if_neg (by decide)]
        obtain ⟨p0, hp0, hBB⟩ := anyB_iff.mp hB
        obtain ⟨fl1, fl2⟩ := BB_fl hG hX hBB
        have hterm := inD_p (n := n) (L := L) (R := R) (nx := nx) (κ := κ) hG (to := r) (i := i) hX
        rw [hB, Bool.true_and] at hterm
        obtain ⟨b1, a1, v1, u1⟩ := bestOn_eq hN hC hκ hnx hNM hlv hK (rises := r) (how := 0) hi (show X < 256 by omega) fl1 hr2 (by decide) 1 bf af va
        rw [if_neg one_ne] at u1
        have u1' : f_X10_bestOn N (nI lv) (nI i) (nI X) (nI r) 0 1 inputs (nI G) now other one bf af va next = _ := u1
        have hle1 := bsF_le (fitN n G L R nx κ i X r 0) 256
        rw [u1']
        simp only [obd4, bnd, nI_1]
        by_cases hz : (bsF (fitN n G L R nx κ i X r 0) 256).2 = 0
        · rw [if_pos ((c0 (by omega)).mpr hz)]
          simp only [if_neg one_ne]
          rw [short_eq hN (by omega) hX0]
          simp only [obd1]
          have hXs : X % 2 ^ (topB X 8 - 1) < 256 := Nat.lt_of_le_of_lt (Nat.mod_le _ _) (by omega)
          obtain ⟨b2, a2, v2, u2⟩ := bestOn_eq hN hC hκ hnx hNM hlv hK (rises := r) (how := 0) hi hXs fl2 hr2 (by decide) 1 b1 a1 v1
          rw [if_neg one_ne] at u2
          have u2' : f_X10_bestOn N (nI lv) (nI i) (nI (X % 2 ^ (topB X 8 - 1))) (nI r) 0 1 inputs (nI G) now other one b1 a1 v1 next = _ := u2
          have hle2 := bsF_le (fitN n G L R nx κ i (X % 2 ^ (topB X 8 - 1)) r 0) 256
          rw [u2']
          simp only [obd4]
          obtain ⟨b3, a3, v3, he⟩ := ih (r + 1) nf b2 a2 v2 (by omega) (by omega)
          refine ⟨b3, a3, v3, ?_⟩
          rw [← he, slwB, hterm]
          unfold mdB alB
          rw [decide_eq_true hX0, decide_eq_false (show ¬ 0 < (bsF (fitN n G L R nx κ i X r 0) 256).2 by omega)]
          by_cases hs : 0 < (bsF (fitN n G L R nx κ i (X % 2 ^ (topB X 8 - 1)) r 0) 256).2
          · rw [if_neg (show ¬ nI _ ≤ (0 : Int32) from le_f (b := 0) hs (by omega)), decide_eq_true hs]
            rfl
          · rw [if_pos (show nI _ ≤ (0 : Int32) from le_t (b := 0) (by omega) (by decide)), decide_eq_false hs, Int32.add_zero]
            rfl
        · rw [if_neg (fun z => hz ((c0 (by omega)).mp z))]
          simp only [↓reduceIte]
          obtain ⟨b3, a3, v3, he⟩ := ih (r + 1) nf b1 a1 v1 (by omega) (by omega)
          refine ⟨b3, a3, v3, ?_⟩
          rw [← he, slwB, hterm]
          unfold mdB alB
          rw [decide_eq_true (show 0 < (bsF (fitN n G L R nx κ i X r 0) 256).2 by omega), Int32.add_zero, Bool.not_true, Bool.false_and, Bool.and_false]
          rfl
  have sets : ∀ (J : Int32 → (Nat → Int32) → (Nat → Int32) → (Nat → Int32) → Option (Int32 × (Nat → Int32) × (Nat → Int32) × (Nat → Int32))) (i : Nat), i < n → ∀ (cc m X nf : Nat) (bf af va : Nat → Int32), 0 < X → X + m = 2 ^ G → m < nf → ∃ bf' af' va', f_X10_prunedOn_L15 N (nI lv) inputs (nI G) mp pin pga now other one next (nI i) J nf (nI (cc + slwB (prM n G L R nx κ i) X)) (nI X) bf af va = J (nI (cc + slwB (prM n G L R nx κ i) (2 ^ G))) bf' af' va' := by
    intro J i hi cc m
    induction m with
    | zero =>
      intro X nf bf af va hX0 hX hnf
      obtain ⟨nf, rfl⟩ : ∃ z, nf = z + 1 := ⟨nf - 1, by omega⟩
      obtain rfl : X = 2 ^ G := by omega
      refine ⟨bf, af, va, ?_⟩
      rw [f_X10_prunedOn_L15, shl1 hG, if_pos (le_t (Nat.le_refl _) (by omega))]
    | succ m ih =>
      intro X nf bf af va hX0 hX hnf
      obtain ⟨nf, rfl⟩ : ∃ z, nf = z + 1 := ⟨nf - 1, by omega⟩
      rw [f_X10_prunedOn_L15, shl1 hG, if_neg (le_f (by omega) (by omega))]
      simp only [bnd, nI_1]
      obtain ⟨b1, a1, v1, u1⟩ := edge (fun x b a v => f_X10_prunedOn_L15 N (nI lv) inputs (nI G) mp pin pga now other one next (nI i) J nf x (nI (X + 1)) b a v) i X hi hX0 (by omega) (cc + slwB (prM n G L R nx κ i) X) 2 0 N bf af va (by omega) (by omega)
      obtain ⟨b2, a2, v2, u2⟩ := ih (X + 1) nf b1 a1 v1 (by omega) (by omega) (by omega)
      refine ⟨b2, a2, v2, ?_⟩
      rw [← u2, slwB, ← Nat.add_assoc]
      exact u1
  have ins : ∀ (J : Int32 → (Nat → Int32) → (Nat → Int32) → (Nat → Int32) → Option (Int32 × (Nat → Int32) × (Nat → Int32) × (Nat → Int32))) (m i nf : Nat) (bf af va : Nat → Int32), i + m = n → m < nf → ∃ bf' af' va', f_X10_prunedOn_L4 N (nI lv) (nI n) (nI G) mp pin pga now other one next J nf (nI (slwB (fun i => slwB (prM n G L R nx κ i) (2 ^ G)) i)) (nI i) bf af va = J (nI (slwB (fun i => slwB (prM n G L R nx κ i) (2 ^ G)) n)) bf' af' va' := by
    intro J m
    induction m with
    | zero =>
      intro i nf bf af va hi hnf
      obtain ⟨nf, rfl⟩ : ∃ z, nf = z + 1 := ⟨nf - 1, by omega⟩
      obtain rfl : i = n := by omega
      refine ⟨bf, af, va, ?_⟩
      rw [f_X10_prunedOn_L4, if_pos (le_t (Nat.le_refl _) (by omega))]
    | succ m ih =>
      intro i nf bf af va hi hnf
      obtain ⟨nf, rfl⟩ : ∃ z, nf = z + 1 := ⟨nf - 1, by omega⟩
      have hpos := Nat.two_pow_pos G
      rw [f_X10_prunedOn_L4, if_neg (le_f (by omega) (by omega))]
      simp only [bnd, nI_1]
      obtain ⟨b1, a1, v1, u1⟩ := sets (fun x b a v => f_X10_prunedOn_L4 N (nI lv) (nI n) (nI G) mp pin pga now other one next J nf x (nI (i + 1)) b a v) i (by omega) (slwB (fun i => slwB (prM n G L R nx κ i) (2 ^ G)) i) (2 ^ G - 1) 1 N bf af va (by omega) (by omega) (by omega)
      obtain ⟨b2, a2, v2, u2⟩ := ih (i + 1) nf b1 a1 v1 (by omega) (by omega)
      refine ⟨b2, a2, v2, ?_⟩
      have hz : slwB (prM n G L R nx κ i) 1 = 0 := by
        show 0 + prM n G L R nx κ i 0 = 0
        rw [Nat.zero_add]
        unfold prM
        refine slwB_zero (fun to _ => slwB_zero (fun p _ => ?_))
        unfold inD mdB
        rw [decide_eq_false (Nat.lt_irrefl 0), Bool.false_and, Bool.false_and, if_neg (by decide)]
      rw [hz, Nat.add_zero, e1] at u1
      rw [← u2]
      exact u1
  obtain ⟨b', a', v', he⟩ := ins (fun x b a v => some (x, b, a, v)) n 0 N bf af va (by omega) (by omega)
  rw [f_X10_prunedOn, e1]
  simp only [bnd]
  exact ⟨b', a', v', he⟩
end PQ
theorem sm_pruned {N : Nat} (hN : 1000 ≤ N) {n G : Nat} {L R nx : Nat → Nat} {nt : Nat → Bool} {κ d : Nat → Nat} {i1 i2 i3 : Int32} {a1 a2 a3 a4 a5 a6 a7 : Nat → Int32} {j1 j2 j3 : Int32} {b1 b2 b3 b4 b5 : Nat → Int32} {kinds delays now : Nat → Int32} {mf : Int32} {sure : Nat → Int32} {ris fal : Nat → Int64} {cap : Nat → Int32} (l0 s0 : Int32) (of0 bf af va : Nat → Int32) (hNet : RNet n G L R nx nt i1 i2 i3 a1 a2 a3 a4 a5 a6 a7 j1 j2 j3 b1 b2 b3 b4 b5) (hNow : RNow G nt κ d kinds delays now) (hTab : RTab n G L R nx nt mf sure ris fal cap) :
    ∃ r mf' l' s' sure' ris' fal' cap' of' bf' af' va', f_X9_pruned N mf i1 i2 i3 l0 s0 kinds sure ris fal a1 a2 a3 cap a7 a4 a5 a6 of0 = some (r, mf', l', s', sure', ris', fal', cap', of') ∧ f_X10_pruned N j1 j2 j3 b4 b5 now b2 b1 bf af va b3 = some (r, bf', af', va') ∧ RTab n G L R nx nt mf' sure' ris' fal' cap' := by
  obtain ⟨hC, hnx, hNC, hNM, hPC, hPM⟩ := hNet
  obtain ⟨mf', l', s', sure', ris', fal', cap', of', hf1, hf2, hf3⟩ := fitTo_eq hN hC hNow.1.1 hnx hNC (fun g h => (hNow.2.1 g h).1) hPC l0 s0 of0 hTab
  obtain ⟨bf', af', va', hp⟩ := pruned_eq hN hC hNow.1.1 hnx hNM (lv := 0) (by decide) (M0 hNow.2.2) hPM bf af va
  have hp' : f_X10_prunedOn N 0 j1 j2 j3 b4 b5 now b2 b1 bf af va b3 = _ := hp
  rw [f_X9_pruned, f_X10_pruned, hf1, hp', pr_same]
  simp only [obd8, obd4]
  rw [dead_eq hN hC.1 hC.2.1 hPC hf2]
  exact ⟨_, _, _, _, _, _, _, _, _, _, _, _, rfl, rfl, hf3⟩
