-- launched; best
def lauN (G : Nat) (L R nx κ : Nat → Nat) (how pair : Nat) : Nat → Bool
  | 0 => true
  | i + 1 => lauN G L R nx κ how pair i && ((!decide (how = 1) || decide (i = 0) || decide (bitN (pair % 16) i = bitN (pair / 16) (i - 1))) && (!decide (how = 2) || decide (bitN (pair % 16) i = Bs L R κ (pair / 16) G (nx i))))
def lau1 (pair : Nat) : Nat → Bool
  | 0 => true
  | i + 1 => lau1 pair i && (decide (i = 0) || decide (bitN (pair % 16) i = bitN (pair / 16) (i - 1)))
theorem lau1_tab : ∀ n, n < 5 → ∀ p, p < 256 → okB n p = true → (((nI (p % 16) &&& -2) = ((nI (p / 16) <<< ((1 : Int32) &&& 31)) &&& (((1 : Int32) <<< (nI n &&& 31)) - 1))) ↔ lau1 p n = true) := by decide +kernel
section LA
variable {n G : Nat} {L R nx κ : Nat → Nat} {nt : Nat → Bool}
theorem lau_0 (pair : Nat) : ∀ i, lauN G L R nx κ 0 pair i = true
  | 0 => rfl
  | i + 1 => by
    rw [lauN, lau_0 pair i]
    rfl
theorem lau_1 (pair : Nat) : ∀ i, lauN G L R nx κ 1 pair i = lau1 pair i
  | 0 => rfl
  | i + 1 => by
    rw [lauN, lau1, lau_1 pair i]
    simp
theorem lau_2 (hκ : ∀ g, g < G → κ g ≤ 4) {pair : Nat} (hp : pair < 256) : ∀ i, lauN G L R nx κ 2 pair i = decide (capN n G L R nx κ (pair / 16) i = pair % 16 % 2 ^ i)
  | 0 => by
    rw [lauN, capN, Nat.pow_zero, Nat.mod_one]
    rfl
  | i + 1 => by
    have hc := capN_lt (n := n) (L := L) (R := R) (nx := nx) hκ (show pair / 16 < 16 by omega) i
    have hb := Bs_lt (L := L) (R := R) hκ (pair / 16) G (Nat.le_refl _) (nx i)
    have hm : pair % 16 % 2 ^ (i + 1) = pair % 16 % 2 ^ i + bitN (pair % 16) i * 2 ^ i := by
      unfold bitN
      rw [Nat.pow_succ, Nat.mod_mul, Nat.mul_comm (2 ^ i)]
    rw [lauN, lau_2 hκ hp i, capN, Vs_17 hκ (show pair / 16 < 16 by omega) G (Nat.le_refl _), hm]
    have hml : pair % 16 % 2 ^ i < 2 ^ i := Nat.mod_lt _ (Nat.two_pow_pos i)
    by_cases h1 : capN n G L R nx κ (pair / 16) i = pair % 16 % 2 ^ i
    · by_cases h2 : bitN (pair % 16) i = Bs L R κ (pair / 16) G (nx i)
      · simp [h1, h2]
      · have : ¬ capN n G L R nx κ (pair / 16) i + Bs L R κ (pair / 16) G (nx i) * 2 ^ i = pair % 16 % 2 ^ i + bitN (pair % 16) i * 2 ^ i := fun z => h2 (digit z hc hml).2.symm
        simp [h2, this]
    · have : ¬ capN n G L R nx κ (pair / 16) i + Bs L R κ (pair / 16) G (nx i) * 2 ^ i = pair % 16 % 2 ^ i + bitN (pair % 16) i * 2 ^ i := fun z => h1 (digit z hc hml).1
      simp [h1, this]
theorem lauC {N : Nat} (hC : Circ n G L R nt) (hκ : KOk G nt κ) {sure : Nat → Int32} {ris fal : Nat → Int64} {cap : Nat → Int32} (hT : TabOf n G L R nx κ sure ris fal cap) {how pair : Nat} (hh : how ≤ 2) (hok : okPair n pair) : f_X3_isLaunched N (nI how) (nI pair) (nI n) cap = some (zI (lauN G L R nx κ how pair n)) := by
  have hn := hC.1
  obtain ⟨hp, ho1, ho2⟩ := id hok
  have h24 : 2 ^ n ≤ 16 := Nat.le_trans (Nat.pow_le_pow_right (by decide) hn) (by decide)
  have hκ4 : ∀ g, g < G → κ g ≤ 4 := fun g h => (hκ g h).1
  rw [f_X3_isLaunched, f4 hp, a15 hp]
  simp only [bnd, f_X2_allBits, obd1]
  rcases (show how = 0 ∨ how = 1 ∨ how = 2 by omega) with rfl | rfl | rfl
  · rw [if_pos (show nI 0 = 0 from rfl), lau_0]
    rfl
  · rw [if_neg (show ¬ nI 1 = 0 by decide), if_pos (show nI 1 = 1 from rfl), lau_1]
    have t := lau1_tab n (by omega) pair hp ((okB_iff hp).mpr hok)
    cases hb : lau1 pair n with
    | true =>
      rw [hb] at t
      rw [if_pos (t.mpr rfl)]
      rfl
    | false =>
      rw [hb] at t
      rw [if_neg (fun z => by have := t.mp z; cases this)]
      rfl
  · have hcl := capN_lt (n := n) (L := L) (R := R) (nx := nx) hκ4 (show pair / 16 < 16 by omega) n
    rw [if_neg (show ¬ nI 2 = 0 by decide), if_neg (show ¬ nI 2 = 1 by decide), grd_nI (show pair / 16 < 16 by omega) (by decide), nI_clamp (by omega), hT.2.2 (pair / 16) ho1, lau_2 (n := n) hκ4 hp, Nat.mod_eq_of_lt ho2]
    by_cases h : capN n G L R nx κ (pair / 16) n = pair % 16
    · rw [if_pos (by rw [h]), decide_eq_true h]
      rfl
    · rw [if_neg (fun z => h ((nI_eq (by omega) (by omega)).mp z)), decide_eq_false h]
      rfl
theorem Bs_in {pat i : Nat} (h : i < 4) : Bs L R κ pat G i = bitN pat i := by
  have e := Bs_stay (L := L) (R := R) (κ := κ) pat (g := 0) G i (by omega)
  rw [Nat.zero_add] at e
  exact e
theorem lauM {N : Nat} (hN : 1000 ≤ N) (hC : Circ n G L R nt) (hκ : KOk G nt κ) (hnx : ∀ i, i < n → Sg n G (nx i)) {next : Nat → Int32} (hnext : ∀ i, i < n → next i = nI (nx i)) {how pair : Nat} (hh : how ≤ 2) (hp : pair < 256) (bf af : Nat → Int32) : f_X10_isLaunched N (nI how) (nI n) (bfM L R κ (pair % 16) n af G) next (bfM L R κ (pair / 16) n bf G) = some (zI (lauN G L R nx κ how pair n)) := by
  have hn := hC.1
  have hG := hC.2.1
  have hκ4 : ∀ g, g < G → κ g ≤ 4 := fun g h => (hκ g h).1
  have hisz : ∀ b : Bool, isZ (zI b) = true := by decide
  rw [f_X10_isLaunched]
  simp only [bnd]
  exact forL (fun nf q s => f_X10_isLaunched_L4 N (nI how) (nI n) (bfM L R κ (pair % 16) n af G) next (bfM L R κ (pair / 16) n bf G) (fun x => grd (isZ x) (some x)) nf s (nI q)) n (fun q => zI (lauN G L R nx κ how pair q)) (some (zI (lauN G L R nx κ how pair n))) (fun nf => by
    rw [f_X10_isLaunched_L4, if_pos (le_t (Nat.le_refl _) (by omega)), grd_t (hisz _)]) (fun q nf hq => by
    have hsq : Sg n G q := Or.inl hq
    have hsn := hnx q hq
    have hlt := Sg_lt hsn hn
    have ba := bitN_lt (pair % 16) q
    have bb := Bs_lt (L := L) (R := R) hκ4 (pair / 16) G (Nat.le_refl _) (nx q)
    have bc := bitN_lt (pair / 16) (q - 1)
    rw [f_X10_isLaunched_L4, if_neg (le_f hq (by omega)), lauN]
    simp only [bnd, nI_1, zI_0]
    cases hl : lauN G L R nx κ how pair q with
    | false => rw [if_pos rfl, Bool.false_and]; rfl
    | true =>
      rw [if_neg (by decide), Bool.true_and]
      rcases (show how = 0 ∨ how = 1 ∨ how = 2 by omega) with rfl | rfl | rfl
      · rw [if_neg (show ¬ nI 0 = 1 by decide), if_neg (show ¬ nI 0 = 2 by decide)]
        rfl
      · rw [if_pos (show nI 1 = 1 from rfl), if_neg (show ¬ nI 1 = 2 by decide)]
        by_cases h0 : q = 0
        · subst h0
          rw [if_pos (show nI 0 = 0 from rfl)]
          rfl
        · rw [if_neg (fun z => h0 ((c0 (by omega)).mp z)), show nI q - 1 = nI (q - 1) from pk_sub (b := 1) (by omega), grd_nI (show q < 12 by omega) (by decide), grd_nI (show q - 1 < 12 by omega) (by decide), nI_clamp (show q < 2 ^ 31 by omega), nI_clamp (show q - 1 < 2 ^ 31 by omega), bfM_at hsq hn, bfM_at (show Sg n G (q - 1) from Or.inl (by omega)) hn, Bs_in (by omega), Bs_in (by omega)]
          by_cases hb : bitN (pair % 16) q = bitN (pair / 16) (q - 1)
          · rw [if_pos (by rw [hb])]
            simp [hb, zI]
          · rw [if_neg (fun z => hb ((nI_eq (by omega) (by omega)).mp z))]
            simp [hb, h0, zI]
      · rw [if_neg (show ¬ nI 2 = 1 by decide), if_pos (show nI 2 = 2 from rfl), grd_nI (show q < 12 by omega) (by decide), grd_nI (show q < 4 by omega) (by decide), nI_clamp (show q < 2 ^ 31 by omega), hnext q hq, grd_nI (show nx q < 12 by omega) (by decide), nI_clamp (show nx q < 2 ^ 31 by omega), bfM_at hsq hn, bfM_at hsn hn, Bs_in (by omega)]
        by_cases hb : bitN (pair % 16) q = Bs L R κ (pair / 16) G (nx q)
        · rw [if_pos (by rw [hb])]
          simp [hb, zI]
        · rw [if_neg (fun z => hb ((nI_eq (by omega) (by omega)).mp z))]
          simp [hb, zI]) n 0 N (by omega) (by omega)
/-- the first pair that fits, and how many do -/
def bsS (f : Bool) (q : Nat) (s : Int32 × Nat) : Int32 × Nat := if f = true then (if s.2 = 0 then nI q else s.1, s.2 + 1) else s
def bsF (fit : Nat → Bool) : Nat → Int32 × Nat
  | 0 => (-9, 0)
  | q + 1 => bsS (fit q) q (bsF fit q)
theorem bsF_le (fit : Nat → Bool) : ∀ q, (bsF fit q).2 ≤ q
  | 0 => Nat.le_refl _
  | q + 1 => by
    have := bsF_le fit q
    rw [bsF]
    unfold bsS
    split
    · show _ + 1 ≤ q + 1
      omega
    · omega
theorem bsF_ct (fit : Nat → Bool) : ∀ q, (bsF fit q).2 = ctB fit q
  | 0 => rfl
  | q + 1 => by
    rw [bsF, ctB, ← bsF_ct fit q]
    unfold bsS
    split
    · rfl
    · rfl
theorem bsF_cong {f g : Nat → Bool} : ∀ {q : Nat}, (∀ z, z < q → f z = g z) → bsF f q = bsF g q
  | 0, _ => rfl
  | q + 1, h => by
    rw [bsF, bsF, bsF_cong (fun z hz => h z (by omega)), h q (by omega)]
/-- a pair fits: it is one, goes so at the input, may be launched so, and tests the gates surely -/
def fitN (n G : Nat) (L R nx κ : Nat → Nat) (i set rises how pair : Nat) : Bool := okB n pair && decide (bitN (pair % 16) i = rises) && (lauN G L R nx κ how pair n && decide (tst L R κ pair G i set G = 2))
theorem bestOn_eq {N : Nat} (hN : 1000 ≤ N) (hC : Circ n G L R nt) (hκ : KOk G nt κ) (hnx : ∀ i, i < n → Sg n G (nx i)) {inputs gates : Int32} {one other next now : Nat → Int32} (hNM : NetM n G L R nx nt inputs gates one other next) {lv : Nat} (hlv : lv ≤ 1) (hK : ∀ g, g < G → now (16 * lv + g) = nI (κ g)) {i set rises how : Nat} (hi : i < n) (hset : set < 256) (hfl : (fl L R i set G).2 = true) (hr : rises < 2) (hh : how ≤ 2) (y6 : Int32) (bf af va : Nat → Int32) :
    ∃ bf' af' va', f_X10_bestOn N (nI lv) (nI i) (nI set) (nI rises) (nI how) y6 inputs gates now other one bf af va next = some (if y6 = 0 then (bsF (fitN n G L R nx κ i set rises how) 256).1 else nI (bsF (fitN n G L R nx κ i set rises how) 256).2, bf', af', va') := by
  have hn := hC.1
  have key : ∀ (J : Int32 → Int32 → (Nat → Int32) → (Nat → Int32) → (Nat → Int32) → Option (Int32 × (Nat → Int32) × (Nat → Int32) × (Nat → Int32))) (m q nf : Nat) (bf af va : Nat → Int32), q + m = 256 → m < nf → ∃ bf' af' va', f_X10_bestOn_L10 N (nI lv) (nI i) (nI set) (nI rises) (nI how) inputs gates now other one next J nf (nI (bsF (fitN n G L R nx κ i set rises how) q).2) (bsF (fitN n G L R nx κ i set rises how) q).1 (nI q) bf af va = J (nI (bsF (fitN n G L R nx κ i set rises how) 256).2) (bsF (fitN n G L R nx κ i set rises how) 256).1 bf' af' va' := by
    intro J m
    induction m with
    | zero =>
      intro q nf bf af va hq hnf
      obtain ⟨nf, rfl⟩ : ∃ z, nf = z + 1 := ⟨nf - 1, by omega⟩
      obtain rfl : q = 256 := by omega
      refine ⟨bf, af, va, ?_⟩
      rw [f_X10_bestOn_L10, if_pos (show (256 : Int32) ≤ nI 256 from le_t (a := 256) (Nat.le_refl _) (by decide))]
    | succ m ih =>
      intro q nf bf af va hq hnf
      obtain ⟨nf, rfl⟩ : ∃ z, nf = z + 1 := ⟨nf - 1, by omega⟩
      have hq256 : q < 256 := by omega
      have hle := bsF_le (fitN n G L R nx κ i set rises how) q
      obtain ⟨e1, e2, e3, e4⟩ := id hNM
      have hbit : q.testBit i = decide (bitN (q % 16) i = 1) := by
        have b := (bitN_pair q i (by omega)).2
        have t := tb_iff q i
        rw [← b]
        unfold bitN
        cases hb : q.testBit i with
        | true => rw [decide_eq_true (t.mp hb)]
        | false => rw [decide_eq_false (fun z => by have := t.mpr z; rw [hb] at this; cases this)]
      have nofit : fitN n G L R nx κ i set rises how q = false → bsF (fitN n G L R nx κ i set rises how) (q + 1) = bsF (fitN n G L R nx κ i set rises how) q := by
        intro h
        rw [bsF, h]
        rfl
      rw [f_X10_bestOn_L10, if_neg (show ¬ (256 : Int32) ≤ nI q from le_f (a := 256) (by omega) (by decide)), e1, isPair_eq N _ hn, pz_nI hq256, has_eq N (by omega) (by omega), hbit]
      simp only [obd1, bnd, nI_1, zI_0]
      cases hok : okB n q with
      | false =>
        have hf : fitN n G L R nx κ i set rises how q = false := by
          unfold fitN
          rw [hok]
          rfl
        obtain ⟨b', a', v', he⟩ := ih (q + 1) nf bf af va (by omega) (by omega)
        rw [nofit hf, e1] at he
        rw [if_pos rfl]
        exact ⟨b', a', v', he⟩
      | true =>
        rw [if_neg (by decide)]
        have hb2 := bitN_lt (q % 16) i
        have hcond : ∀ {ρ : Type} (X Y : ρ), (if nI rises = 1 then (if zI (decide (bitN (q % 16) i = 1)) = 1 then X else Y) else (if decide (bitN (q % 16) i = 1) = false then X else Y)) = if bitN (q % 16) i = rises then X else Y := by
          intro ρ X Y
          rcases (show rises = 0 ∨ rises = 1 by omega) with rfl | rfl <;> rcases (show bitN (q % 16) i = 0 ∨ bitN (q % 16) i = 1 by omega) with w | w <;> rw [w] <;> rfl
        rw [hcond]
        by_cases hbr : bitN (q % 16) i = rises
        · rw [if_pos hbr]
          have hfp := findPair_eq hN hC hκ hNM hlv hK hq256 bf af va
          rw [e1] at hfp
          rw [hfp]
          simp only [obd3]
          rw [lauM hN hC hκ hnx e4 hh hq256]
          have hto := testsOf_eq hN hC hκ hNM hlv hK hq256 bf af va hi hset hfl
          rw [hto]
          simp only [obd1, zI_0]
          have ht2 := tst_le (L := L) (R := R) (κ := κ) (G := G) q i set G
          obtain ⟨b', a', v', he⟩ := ih (q + 1) nf (bfM L R κ (q / 16) n bf G) (bfM L R κ (q % 16) n af G) (vaM L R κ q n va G) (by omega) (by omega)
          rw [e1] at he
          refine ⟨b', a', v', ?_⟩
          rw [← he]
          have hfit : fitN n G L R nx κ i set rises how q = (lauN G L R nx κ how q n && decide (tst L R κ q G i set G = 2)) := by
            unfold fitN
            rw [hok, decide_eq_true hbr]
            rfl
          cases hla : lauN G L R nx κ how q n with
          | false =>
            rw [hla] at hfit
            rw [nofit hfit]
            rw [if_pos rfl]
            simp only [↓reduceIte, Int32.add_zero]
          | true =>
            rw [hla] at hfit
            rw [if_neg (by decide)]
            by_cases ht : tst L R κ q G i set G = 2
            · rw [decide_eq_true ht] at hfit
              rw [if_pos (show nI (tst L R κ q G i set G) = 2 by rw [ht]; rfl), if_neg one_ne]
              have hs : bsF (fitN n G L R nx κ i set rises how) (q + 1) = (if (bsF (fitN n G L R nx κ i set rises how) q).2 = 0 then nI q else (bsF (fitN n G L R nx κ i set rises how) q).1, (bsF (fitN n G L R nx κ i set rises how) q).2 + 1) := by
                rw [bsF, hfit]
                rfl
              rw [hs]
              try dsimp only
              by_cases hz : (bsF (fitN n G L R nx κ i set rises how) q).2 = 0
              · rw [if_pos ((c0 (by omega)).mpr hz), if_pos hz]
                simp only [if_neg one_ne, nI_1]
              · rw [if_neg (fun z => hz ((c0 (by omega)).mp z)), if_neg hz]
                simp only [if_neg one_ne, nI_1]
            · rw [decide_eq_false ht] at hfit
              rw [if_neg (show ¬ nI (tst L R κ q G i set G) = 2 from fun z => ht ((nI_eq (b := 2) (by omega) (by decide)).mp z)), nofit hfit]
              simp only [↓reduceIte, Int32.add_zero]
        · rw [if_neg hbr]
          have hf : fitN n G L R nx κ i set rises how q = false := by
            unfold fitN
            rw [decide_eq_false hbr, Bool.and_false]
            rfl
          obtain ⟨b', a', v', he⟩ := ih (q + 1) nf bf af va (by omega) (by omega)
          rw [nofit hf, e1] at he
          exact ⟨b', a', v', he⟩
  obtain ⟨b', a', v', he⟩ := key (fun x7 x8 b a v => if y6 = 0 then some (x8, b, a, v) else some (x7, b, a, v)) 256 0 N bf af va (by omega) (by omega)
  rw [f_X10_bestOn]
  simp only [bnd]
  refine ⟨b', a', v', Eq.trans he ?_⟩
  try dsimp only
  by_cases hy : y6 = 0
  · rw [if_pos hy, if_pos hy]
  · rw [if_neg hy, if_neg hy]
end LA
