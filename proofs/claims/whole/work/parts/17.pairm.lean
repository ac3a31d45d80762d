-- the reference: what a pair makes, and how far it tests gates
section PM
variable {n G : Nat} {L R nx κ : Nat → Nat} {nt : Nat → Bool}
theorem l16_0 (lv q : Nat) : ((16 : Int32) * nI lv + 0) + nI q = nI (16 * lv + q) := by
  rw [show (16 : Int32) = nI 16 from rfl, show (0 : Int32) = nI 0 from rfl, pk_mul, nI_add, nI_add, Nat.add_zero]
theorem l4 (q : Nat) : (4 : Int32) + nI q = nI (4 + q) := nI_add 4 q
theorem findPair_eq {N : Nat} (hN : 1000 ≤ N) (hC : Circ n G L R nt) (hκ : KOk G nt κ) {inputs gates : Int32} {one other next now : Nat → Int32} (hNM : NetM n G L R nx nt inputs gates one other next) {lv : Nat} (hlv : lv ≤ 1) (hK : ∀ g, g < G → now (16 * lv + g) = nI (κ g)) {pair : Nat} (hp : pair < 256) (bf af va : Nat → Int32) :
    f_X10_findPair N (nI lv) (nI pair) inputs gates now other one bf af va = some (bfM L R κ (pair / 16) n bf G, bfM L R κ (pair % 16) n af G, vaM L R κ pair n va G) := by
  obtain ⟨hn, hG, -, -, hg⟩ := hC
  obtain ⟨rfl, rfl, hoo, -⟩ := hNM
  have hκ4 : ∀ g, g < G → κ g ≤ 4 := fun g h => (hκ g h).1
  rw [f_X10_findPair]
  simp only [bnd]
  have e := forL (fun nf q s => f_X10_findPair_L2 N (nI pair) (nI n) (fun b a v => f_X10_findPair_L84 N (nI lv) (nI G) now other one (fun b a v => some (b, a, v)) N 0 b a v) nf (nI q) s.1 s.2.1 s.2.2) n (fun q => (stA 0 (fun k => nI (bitN (pair / 16) k)) bf q, stA 0 (fun k => nI (bitN (pair % 16) k)) af q, stA 0 (fun k => nI (V0 pair k)) va q)) (f_X10_findPair_L84 N (nI lv) (nI G) now other one (fun b a v => some (b, a, v)) N 0 (stA 0 (fun k => nI (bitN (pair / 16) k)) bf n) (stA 0 (fun k => nI (bitN (pair % 16) k)) af n) (stA 0 (fun k => nI (V0 pair k)) va n)) (fun nf => by
      rw [f_X10_findPair_L2, if_pos (le_t (Nat.le_refl _) (by omega))]) (fun q nf hq => by
      dsimp only
      rw [f_X10_findPair_L2, if_neg (le_f hq (by omega)), r16 (by omega), d16 (by omega), sh1 (by omega) (by omega), sh1 (by omega) (by omega)]
      have hb1 := bitN_lt (pair / 16) q
      have hb2 := bitN_lt (pair % 16) q
      have hv : V0 pair q = if bitN (pair / 16) q = bitN (pair % 16) q then bitN (pair % 16) q else 2 + bitN (pair % 16) q := rfl
      simp only [bnd, grd_nI (show q < 12 by omega) (show 12 ≤ 2 ^ 31 by decide), nI_clamp (show q < 2 ^ 31 by omega), nI_1, stA_s0 (fun k => nI (bitN (pair / 16) k)) bf q, stA_s0 (fun k => nI (bitN (pair % 16) k)) af q]
      have r1 : stA 0 (fun k => nI (bitN (pair / 16) k)) bf (q + 1) q = nI (bitN (pair / 16) q) := by
        have z := stA_in (lo := 0) (val := fun k => nI (bitN (pair / 16) k)) (base := bf) (i := q + 1) (k := q) (by omega)
        rw [Nat.zero_add] at z
        exact z
      have r2 : stA 0 (fun k => nI (bitN (pair % 16) k)) af (q + 1) q = nI (bitN (pair % 16) q) := by
        have z := stA_in (lo := 0) (val := fun k => nI (bitN (pair % 16) k)) (base := af) (i := q + 1) (k := q) (by omega)
        rw [Nat.zero_add] at z
        exact z
      rw [r1, r2]
      by_cases hc : bitN (pair / 16) q = bitN (pair % 16) q
      · rw [if_pos (by rw [hc])]
        rw [if_pos hc] at hv
        rw [← hv, stA_s0 (fun k => nI (V0 pair k)) va q]
      · rw [if_neg (fun z => hc ((nI_eq (by omega) (by omega)).mp z))]
        rw [if_neg hc] at hv
        rw [show (2 : Int32) + nI (bitN (pair % 16) q) = nI (2 + bitN (pair % 16) q) from nI_add 2 _, ← hv, stA_s0 (fun k => nI (V0 pair k)) va q]) n 0 N (by omega) (by omega)
  simp only [stA_0] at e
  refine e.trans ?_
  have e2 := forL (fun nf q s => f_X10_findPair_L84 N (nI lv) (nI G) now other one (fun b a v => some (b, a, v)) nf (nI q) s.1 s.2.1 s.2.2) G (fun q => (bfM L R κ (pair / 16) n bf q, bfM L R κ (pair % 16) n af q, vaM L R κ pair n va q)) (some (bfM L R κ (pair / 16) n bf G, bfM L R κ (pair % 16) n af G, vaM L R κ pair n va G)) (fun nf => by
      rw [f_X10_findPair_L84, if_pos (le_t (Nat.le_refl _) (by omega))]) (fun q nf hq => by
      obtain ⟨g1, g2, g3, g4⟩ := hg q hq
      obtain ⟨q1, q2⟩ := hoo q hq
      obtain ⟨k1, k2⟩ := hκ q hq
      have hl1 := Sg_lt g1 hn
      have hl2 := Sg_lt g2 hn
      have hv1 := Vs_lt (L := L) (R := R) (G := G) hκ4 pair q (by omega) (L q)
      have hv2 := Vs_lt (L := L) (R := R) (G := G) hκ4 pair q (by omega) (R q)
      have hx1 := Bs_lt (L := L) (R := R) (G := G) hκ4 (pair / 16) q (by omega) (L q)
      have hx2 := Bs_lt (L := L) (R := R) (G := G) hκ4 (pair / 16) q (by omega) (R q)
      have hy1 := Bs_lt (L := L) (R := R) (G := G) hκ4 (pair % 16) q (by omega) (L q)
      have hy2 := Bs_lt (L := L) (R := R) (G := G) hκ4 (pair % 16) q (by omega) (R q)
      have eb : ∀ (pat : Nat) (base : Nat → Int32), upd (bfM L R κ pat n base q) (4 + q) (nI (mk1 (κ q) (Bs L R κ pat q (L q)) (Bs L R κ pat q (R q)))) = bfM L R κ pat n base (q + 1) := by
        intro pat base
        rw [← Bs_top]
        exact stA_s 4 _ _ q
      have ev : upd (vaM L R κ pair n va q) (4 + q) (nI (mk4 (κ q) (Vs L R κ pair q (L q)) (Vs L R κ pair q (R q)))) = vaM L R κ pair n va (q + 1) := by
        rw [← Vs_top]
        exact stA_s 4 _ _ q
      dsimp only
      rw [f_X10_findPair_L84, if_neg (le_f hq (by omega)), l16_0, l4]
      simp only [grd_nI (show 16 * lv + q < 32 by omega) (show 32 ≤ 2 ^ 31 by decide), grd_nI (show q < 8 by omega) (show 8 ≤ 2 ^ 31 by decide), bnd, nI_clamp (show 16 * lv + q < 2 ^ 31 by omega), hK q hq, nI_clamp (show q < 2 ^ 31 by omega), q1, grd_nI (show L q < 12 by omega) (show 12 ≤ 2 ^ 31 by decide), nI_clamp (show L q < 2 ^ 31 by omega), grd_nI (show 4 + q < 12 by omega) (show 12 ≤ 2 ^ 31 by decide), nI_clamp (show 4 + q < 2 ^ 31 by omega), bfM_at g1 hn, vaM_at g1 hn, nI_1]
      have hgo : ∀ t : Int32, t = nI (R q) → (grd (inb t 12) <| obd1 (f_X10_makes N (nI (κ q)) (nI (Bs L R κ (pair / 16) q (L q))) (bfM L R κ (pair / 16) n bf q t.toNatClampNeg)) fun r_13 => grd (inb t 12) <| obd1 (f_X10_makes N (nI (κ q)) (nI (Bs L R κ (pair % 16) q (L q))) (bfM L R κ (pair % 16) n af q t.toNatClampNeg)) fun r_15 => grd (inb t 12) <| obd1 (f_X10_valueOf N (nI (κ q)) (nI (Vs L R κ pair q (L q))) (vaM L R κ pair n va q t.toNatClampNeg)) fun r_17 => f_X10_findPair_L84 N (nI lv) (nI G) now other one (fun b a v => some (b, a, v)) nf (nI (q + 1)) (upd (bfM L R κ (pair / 16) n bf q) (4 + q) r_13) (upd (bfM L R κ (pair % 16) n af q) (4 + q) r_15) (upd (vaM L R κ pair n va q) (4 + q) r_17)) = f_X10_findPair_L84 N (nI lv) (nI G) now other one (fun b a v => some (b, a, v)) nf (nI (q + 1)) (bfM L R κ (pair / 16) n bf (q + 1)) (bfM L R κ (pair % 16) n af (q + 1)) (vaM L R κ pair n va (q + 1)) := by
        intro t ht
        subst ht
        rw [nI_clamp (show R q < 2 ^ 31 by omega), bfM_at g2 hn, bfM_at g2 hn, vaM_at g2 hn, makes_eq N k1 hx1 hx2, makes_eq N k1 hy1 hy2, valueOf_eq N k1 hv1 hv2]
        simp only [grd_nI (show R q < 12 by omega) (show 12 ≤ 2 ^ 31 by decide), obd1, eb, ev]
      rw [q2]
      cases hb : nt q with
      | false =>
        have z : ¬ (if false = true then (-9 : Int32) else nI (R q)) = (-9 : Int32) := by
          rw [if_neg (by decide)]
          exact neq_9 (by omega)
        rw [if_neg z]
        exact hgo _ (if_neg (by decide))
      | true =>
        rw [if_pos (show (if true = true then (-9 : Int32) else nI (R q)) = (-9 : Int32) from if_pos rfl)]
        have z := hgo (nI (L q)) (by rw [g3 hb])
        simp only [grd_nI (show L q < 12 by omega) (show 12 ≤ 2 ^ 31 by decide), nI_clamp (show L q < 2 ^ 31 by omega), bfM_at g1 hn, vaM_at g1 hn] at z
        exact z) G 0 N (by omega) (by omega)
  simp only [stA_0] at e2
  exact e2
theorem fl_at (hC : Circ n G L R nt) {i set : Nat} (hi : i < n) : ∀ g, g ≤ G → Sg n g (fl L R i set g).1
  | 0, _ => Or.inl hi
  | g + 1, h => by
    rw [fl]
    by_cases hb : set.testBit g = true
    · rw [if_pos hb]
      exact Or.inr ⟨by omega, by omega⟩
    · rw [if_neg hb]
      rcases fl_at hC hi g (by omega) with w | w
      · exact Or.inl w
      · exact Or.inr ⟨w.1, by omega⟩
theorem fl_ok {i set : Nat} : ∀ {g k : Nat}, (fl L R i set (g + k)).2 = true → (fl L R i set g).2 = true
  | g, 0, h => h
  | g, k + 1, h => by
    rw [← Nat.add_assoc, fl] at h
    by_cases hb : set.testBit (g + k) = true
    · rw [if_pos hb] at h
      have h : ((fl L R i set (g + k)).2 && _) = true := h
      rw [Bool.and_eq_true] at h
      exact fl_ok h.1
    · rw [if_neg hb] at h
      exact fl_ok h
theorem far1_le (k a b : Nat) : far1 k a b ≤ 2 := by
  unfold far1
  split
  · omega
  · split
    · split <;> omega
    · omega
theorem tst_le (pair i set : Nat) : ∀ g, tst L R κ pair G i set g ≤ 2
  | 0 => by
    unfold tst
    split <;> omega
  | g + 1 => by
    have h := tst_le pair i set g
    unfold tst
    split
    · exact Nat.le_trans (Nat.min_le_left _ _) h
    · exact h
/-- one gate of the reference's test -/
theorem far_step : ∀ k, k < 5 → ¬ k = 4 → ∀ a, a < 4 → ∀ b, b < 4 → ∀ f, f < 3 → (if b % 2 = letsN k then (if a % 2 = letsN k then f else if b = letsN k then f else if 1 ≤ f then 1 else f) else 0) = min f (far1 k a b) := by decide
theorem tstep {k a b f : Nat} (hk : k ≤ 4) (hk4 : ¬ k = 4) (ha : a < 4) (hb : b < 4) (hf : f ≤ 2) (F : Int32 → Option Int32) :
    (if nI k = (0 : Int32) then (if nI (b % 2) = (1 : Int32) then (if nI (a % 2) = (1 : Int32) then F (nI f) else if nI b = (1 : Int32) then F (nI f) else if (1 : Int32) ≤ nI f then F 1 else F (nI f)) else F 0) else if nI k = (2 : Int32) then (if nI (b % 2) = (1 : Int32) then (if nI (a % 2) = (1 : Int32) then F (nI f) else if nI b = (1 : Int32) then F (nI f) else if (1 : Int32) ≤ nI f then F 1 else F (nI f)) else F 0) else (if nI (b % 2) = (0 : Int32) then (if nI (a % 2) = (0 : Int32) then F (nI f) else if nI b = (0 : Int32) then F (nI f) else if (1 : Int32) ≤ nI f then F 1 else F (nI f)) else F 0)) = F (nI (min f (far1 k a b))) := by
  rcases (show k = 0 ∨ k = 1 ∨ k = 2 ∨ k = 3 by omega) with rfl | rfl | rfl | rfl <;> rcases (show a = 0 ∨ a = 1 ∨ a = 2 ∨ a = 3 by omega) with rfl | rfl | rfl | rfl <;> rcases (show b = 0 ∨ b = 1 ∨ b = 2 ∨ b = 3 by omega) with rfl | rfl | rfl | rfl <;> rcases (show f = 0 ∨ f = 1 ∨ f = 2 by omega) with rfl | rfl | rfl <;> rfl
theorem testsOf_eq {N : Nat} (hN : 1000 ≤ N) (hC : Circ n G L R nt) (hκ : KOk G nt κ) {inputs gates : Int32} {one other next now : Nat → Int32} (hNM : NetM n G L R nx nt inputs gates one other next) {lv : Nat} (hlv : lv ≤ 1) (hK : ∀ g, g < G → now (16 * lv + g) = nI (κ g)) {pair : Nat} (hp : pair < 256) (bf af va : Nat → Int32) {i set : Nat} (hi : i < n) (hset : set < 256) (hfl : (fl L R i set G).2 = true) :
    f_X10_testsOf N (nI lv) (nI i) (nI set) gates (bfM L R κ (pair / 16) n bf G) (bfM L R κ (pair % 16) n af G) now one (vaM L R κ pair n va G) other = some (nI (tst L R κ pair G i set G)) := by
  have hC' := hC
  obtain ⟨hn, hG, -, -, hg⟩ := hC
  obtain ⟨rfl, rfl, hoo, -⟩ := hNM
  have hκ4 : ∀ g, g < G → κ g ≤ 4 := fun g h => (hκ g h).1
  have hSi : Sg n G i := Or.inl hi
  have hSi0 : Bs L R κ (pair / 16) G i = bitN (pair / 16) i := by
    have e := Bs_stay (L := L) (R := R) (κ := κ) (pair / 16) (g := 0) G i (by omega)
    rw [Nat.zero_add] at e
    exact e
  have hSi1 : Bs L R κ (pair % 16) G i = bitN (pair % 16) i := by
    have e := Bs_stay (L := L) (R := R) (κ := κ) (pair % 16) (g := 0) G i (by omega)
    rw [Nat.zero_add] at e
    exact e
  have hb1 := bitN_lt (pair / 16) i
  have hb2 := bitN_lt (pair % 16) i
  rw [f_X10_testsOf, grd_nI (show i < 12 by omega) (by decide), grd_nI (show i < 12 by omega) (by decide), nI_clamp (show i < 2 ^ 31 by omega), bfM_at hSi hn, bfM_at hSi hn, hSi0, hSi1]
  have hz : ∀ g, g ≤ G → V0 pair i < 2 → tst L R κ pair G i set g = 0 := by
    intro g
    induction g with
    | zero =>
      intro _ h
      rw [tst, if_pos h]
    | succ g ih =>
      intro hle h
      rw [tst, ih (by omega) h]
      split
      · exact Nat.zero_min _
      · rfl
  by_cases hc : bitN (pair / 16) i = bitN (pair % 16) i
  · rw [if_pos (by rw [hc]), hz G (Nat.le_refl _) ((V0_ge pair i).mpr hc)]
    rfl
  · rw [if_neg (fun z => hc ((nI_eq (by omega) (by omega)).mp z))]
    simp only [bnd]
    have hV : ¬ V0 pair i < 2 := fun z => hc ((V0_ge pair i).mp z)
    have e := forL (fun nf q s => f_X10_testsOf_L26 N (nI lv) (nI set) (nI G) (bfM L R κ (pair % 16) n af G) now one (vaM L R κ pair n va G) other (fun x => some x) nf (nI s.1) (nI s.2) (nI q)) G (fun q => ((fl L R i set q).1, tst L R κ pair G i set q)) (some (nI (tst L R κ pair G i set G))) (fun nf => by
        rw [f_X10_testsOf_L26, if_pos (le_t (Nat.le_refl _) (by omega))]) (fun q nf hq => by
        obtain ⟨g1, g2, g3, g4⟩ := hg q hq
        obtain ⟨q1, q2⟩ := hoo q hq
        obtain ⟨k1, k2⟩ := hκ q hq
        have hl1 := Sg_lt g1 hn
        have hl2 := Sg_lt g2 hn
        have hat := fl_at hC' hi (set := set) q (by omega)
        have hatl := Sg_lt hat hn
        have ht2 := tst_le (L := L) (R := R) (κ := κ) (G := G) pair i set q
        have up : ∀ s, Sg n q s → Sg n G s := by
          intro s h
          rcases h with w | w
          · exact Or.inl w
          · exact Or.inr ⟨w.1, by omega⟩
        dsimp only
        rw [f_X10_testsOf_L26, if_neg (le_f hq (by omega)), l16_0, grd_nI (show 16 * lv + q < 32 by omega) (by decide), nI_clamp (show 16 * lv + q < 2 ^ 31 by omega), hK q hq, has_eq N (by omega) (by omega), l4]
        simp only [bnd, obd1, zI_0, nI_1]
        rw [fl, tst]
        cases hb : set.testBit q with
        | false =>
          simp only [reduceCtorEq, ↓reduceIte]
        | true =>
          simp only [reduceCtorEq, ↓reduceIte]
          by_cases h4 : κ q = 4
          · rw [if_pos ((nI4 k1).mpr h4)]
            have hf : far1 (κ q) (Vs L R κ pair G (L q)) (Vs L R κ pair G (R q)) = 2 ∧ far1 (κ q) (Vs L R κ pair G (R q)) (Vs L R κ pair G (L q)) = 2 := by
              unfold far1
              rw [if_pos h4, if_pos h4]
              exact ⟨rfl, rfl⟩
            rw [hf.1, hf.2]
            split
            · rw [Nat.min_eq_left ht2]
            · rw [Nat.min_eq_left ht2]
          · rw [if_neg (fun z => h4 ((nI4 k1).mp z))]
            have hnt : nt q = false := by
              cases z : nt q with
              | false => rfl
              | true => exact absurd (k2.mpr z) h4
            have q2' : other q = nI (R q) := by rw [q2, hnt]; rfl
            have vL := Vs_lt (L := L) (R := R) (G := G) hκ4 pair G (Nat.le_refl _) (L q)
            have vR := Vs_lt (L := L) (R := R) (G := G) hκ4 pair G (Nat.le_refl _) (R q)
            have hfo := fl_ok (L := L) (R := R) (i := i) (set := set) (g := q + 1) (k := G - (q + 1)) (by rw [show q + 1 + (G - (q + 1)) = G by omega]; exact hfl)
            rw [fl, if_pos hb] at hfo
            have hfo : ((fl L R i set q).2 && (decide (L q = (fl L R i set q).1) || decide (R q = (fl L R i set q).1))) = true := hfo
            rw [Bool.and_eq_true, Bool.or_eq_true, decide_eq_true_eq, decide_eq_true_eq] at hfo
            simp only [grd_nI (show q < 8 by omega) (show 8 ≤ 2 ^ 31 by decide), nI_clamp (show q < 2 ^ 31 by omega), q1, q2', nI_clamp (show R q < 2 ^ 31 by omega), nI_clamp (show L q < 2 ^ 31 by omega), nI_clamp (show (fl L R i set q).1 < 2 ^ 31 by omega), grd_nI (show R q < 12 by omega) (show 12 ≤ 2 ^ 31 by decide), grd_nI (show L q < 12 by omega) (show 12 ≤ 2 ^ 31 by decide), grd_nI (show (fl L R i set q).1 < 12 by omega) (show 12 ≤ 2 ^ 31 by decide), bfM_at (up _ g1) hn, bfM_at (up _ g2) hn, bfM_at (up _ hat) hn, vaM_at (up _ g1) hn, vaM_at (up _ g2) hn, ← Vs_mod hκ4 pair G (Nat.le_refl _)]
            by_cases hL : L q = (fl L R i set q).1
            · rw [if_pos (congrArg nI hL), if_pos hL, ← hL]
              exact tstep k1 h4 vL vR ht2 (fun z => f_X10_testsOf_L26 N (nI lv) (nI set) (nI G) (bfM L R κ (pair % 16) n af G) now one (vaM L R κ pair n va G) other (fun x => some x) nf (nI (4 + q)) z (nI (q + 1)))
            · have hR : R q = (fl L R i set q).1 := by
                rcases hfo.2 with w | w
                · exact absurd w hL
                · exact w
              rw [if_neg (fun z => hL ((nI_eq (by omega) (by omega)).mp z)), if_neg hL, ← hR]
              exact tstep k1 h4 vR vL ht2 (fun z => f_X10_testsOf_L26 N (nI lv) (nI set) (nI G) (bfM L R κ (pair % 16) n af G) now one (vaM L R κ pair n va G) other (fun x => some x) nf (nI (4 + q)) z (nI (q + 1)))) G 0 N (by omega) (by omega)
    have h0 : tst L R κ pair G i set 0 = 2 := by rw [tst, if_neg hV]
    have h1 : (fl L R i set 0).1 = i := rfl
    simp only [h0, h1] at e
    exact e
end PM
