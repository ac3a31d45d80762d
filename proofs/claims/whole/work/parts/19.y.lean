-- packed
theorem ctB_or {f g h : Nat → Bool} : ∀ {m : Nat}, (∀ p, p < m → ¬ (f p = true ∧ g p = true) ∧ h p = (f p || g p)) → ctB f m + ctB g m = ctB h m
  | 0, _ => rfl
  | m + 1, H => by
    have ih := ctB_or (f := f) (g := g) (h := h) (m := m) (fun p hp => H p (by omega))
    obtain ⟨h1, h2⟩ := H m (by omega)
    rw [ctB, ctB, ctB, h2, ← ih]
    cases hf : f m <;> cases hg : g m
    · rfl
    · simp; omega
    · simp; omega
    · exact absurd ⟨hf, hg⟩ h1
theorem ctB_pos {f : Nat → Bool} {m : Nat} (h : 0 < ctB f m) : ∃ p, p < m ∧ f p = true := by
  have := anyB_ct f m
  rw [decide_eq_true h] at this
  exact anyB_iff.mp this
theorem andn_L (f g : Nat → Bool) {m : Nat} : lN (bsum f m) &&& (lN (bsum g m) ^^^ -1) = lN (bsum (fun p => f p && !g p) m) := by
  apply Int64.toBitVec_inj.mp
  apply BitVec.eq_of_getLsbD_eq
  intro t ht
  rw [lN_bit ht, bsum_tb]
  show ((lN (bsum f m)).toBitVec &&& ((lN (bsum g m)).toBitVec ^^^ (-1 : Int64).toBitVec)).getLsbD t = _
  rw [BitVec.getLsbD_and, BitVec.getLsbD_xor, lN_bit ht, lN_bit ht, bsum_tb, bsum_tb, show (-1 : Int64).toBitVec = BitVec.allOnes 64 from rfl, BitVec.getLsbD_allOnes, decide_eq_true ht]
  cases decide (t < m) <;> cases f t <;> cases g t <;> rfl
section PK
variable {n G : Nat} {L R nx κ : Nat → Nat} {nt : Nat → Bool}
def addB (n G : Nat) (L R κ : Nat → Nat) (T : Nat → Nat → Bool) (pair p : Nat) : Bool := (pvN n G L R κ pair 1 p && !T 1 p) || (pvN n G L R κ pair 0 p && !T 0 p)
def orT (n G : Nat) (L R κ : Nat → Nat) (T : Nat → Nat → Bool) (pair : Nat) : Nat → Nat → Bool := fun to p => T to p || pvN n G L R κ pair to p
def totT (T : Nat → Nat → Bool) (m : Nat) : Nat := ctB (T 1) m + ctB (T 0) m
theorem pv_one {pair p : Nat} (h1 : pvN n G L R κ pair 1 p = true) (h0 : pvN n G L R κ pair 0 p = true) : False := by
  unfold pvN at h1 h0
  rw [Bool.and_eq_true] at h1 h0
  have a := h1.2
  have b := h0.2
  unfold prv at a b
  split at a
  · rename_i i set hel
    rw [hel] at b
    simp only [Bool.and_eq_true, decide_eq_true_eq] at a b
    omega
  · cases a
theorem add_ct (T : Nat → Nat → Bool) (pair m : Nat) : ctB (fun p => pvN n G L R κ pair 1 p && !T 1 p) m + ctB (fun p => pvN n G L R κ pair 0 p && !T 0 p) m = ctB (addB n G L R κ T pair) m := by
  apply ctB_or
  intro p _
  refine ⟨fun z => ?_, rfl⟩
  have h1 := z.1
  have h0 := z.2
  rw [Bool.and_eq_true] at h1 h0
  exact pv_one h1.1 h0.1
theorem tot_or (T : Nat → Nat → Bool) (pair m : Nat) : totT (orT n G L R κ T pair) m = totT T m + ctB (addB n G L R κ T pair) m := by
  have key : ∀ to, ctB (T to) m + ctB (fun p => pvN n G L R κ pair to p && !T to p) m = ctB (orT n G L R κ T pair to) m := by
    intro to
    apply ctB_or
    intro p _
    refine ⟨fun z => ?_, ?_⟩
    · have h1 := z.1
      have h2 := z.2
      rw [h1] at h2
      simp at h2
    · unfold orT
      cases T to p <;> cases pvN n G L R κ pair to p <;> rfl
  have := add_ct (n := n) (G := G) (L := L) (R := R) (κ := κ) T pair m
  have k1 := key 1
  have k0 := key 0
  unfold totT
  omega
theorem tot_le (T : Nat → Nat → Bool) (m : Nat) : totT T m ≤ 2 * m := by
  have h1 := ctB_le (T 1) m
  have h0 := ctB_le (T 0) m
  unfold totT
  omega
def TK (m : Nat) (T : Nat → Nat → Bool) (tk : Nat → Int32) : Prop := ∀ p, p < m → ∀ to, to < 2 → tk (2 * p + to) = zI (T to p)
def mkT (n G : Nat) (L R κ : Nat → Nat) (T : Nat → Nat → Bool) (mk : Bool) (pair q : Nat) : Nat → Nat → Bool := fun to p => T to p || (mk && (decide (p < q) && pvN n G L R κ pair to p))
/-- the greedy choice: the pair that adds most -/
def bpS (a q : Nat) (s : Int32 × Nat) : Int32 × Nat := if s.2 < a then (nI q, a) else s
def bpF (a : Nat → Nat) : Nat → Int32 × Nat
  | 0 => (-9, 0)
  | q + 1 => bpS (a q) q (bpF a q)
theorem bpF_or (a : Nat → Nat) : ∀ q, ((bpF a q).1 = -9 ∧ (bpF a q).2 = 0) ∨ ∃ p, p < q ∧ (bpF a q).1 = nI p ∧ (bpF a q).2 = a p ∧ 0 < a p
  | 0 => Or.inl ⟨rfl, rfl⟩
  | q + 1 => by
    rw [bpF]
    unfold bpS
    by_cases h : (bpF a q).2 < a q
    · rw [if_pos h]
      exact Or.inr ⟨q, by omega, rfl, rfl, by omega⟩
    · rw [if_neg h]
      rcases bpF_or a q with w | ⟨p, w1, w2, w3, w4⟩
      · exact Or.inl w
      · exact Or.inr ⟨p, by omega, w2, w3, w4⟩
theorem bpF_le {a : Nat → Nat} {b : Nat} (h : ∀ q, a q ≤ b) (q : Nat) : (bpF a q).2 ≤ b := by
  rcases bpF_or a q with w | ⟨p, w1, w2, w3, w4⟩
  · omega
  · rw [w3]
    exact h p
def aN (n G : Nat) (L R nx κ : Nat → Nat) (how : Nat) (T : Nat → Nat → Bool) (q : Nat) : Nat := if okB n q && lauN G L R nx κ how q n then ctB (addB n G L R κ T q) (PL n G L R).length else 0
theorem aN_le (how : Nat) (T : Nat → Nat → Bool) (q : Nat) : aN n G L R nx κ how T q ≤ (PL n G L R).length := by
  unfold aN
  split
  · exact ctB_le _ _
  · exact Nat.zero_le _
theorem aN_le2 (how : Nat) (T : Nat → Nat → Bool) (q : Nat) : aN n G L R nx κ how T q ≤ ctB (addB n G L R κ T q) (PL n G L R).length := by
  unfold aN
  split
  · exact Nat.le_refl _
  · exact Nat.zero_le _
theorem full_eq {N : Nat} (hN : 1000 ≤ N) (hC : Circ n G L R nt) (hκ : KOk G nt κ) {sure : Nat → Int32} {ris fal : Nat → Int64} {cap : Nat → Int32} (hT : TabOf n G L R nx κ sure ris fal cap) (h55 : (PL n G L R).length ≤ 55) {how : Nat} (hh : how ≤ 2) (T : Nat → Nat → Bool) : f_X3_fullest N (nI how) (lN (bsum (T 1) (PL n G L R).length)) (lN (bsum (T 0) (PL n G L R).length)) (nI n) ris fal cap = some (bpF (aN n G L R nx κ how T) 256).1 := by
  rw [f_X3_fullest]
  simp only [bnd]
  exact forL (fun nf q s => f_X3_fullest_L10 N (nI how) (lN (bsum (T 1) (PL n G L R).length)) (lN (bsum (T 0) (PL n G L R).length)) (nI n) ris fal cap (fun x => some x) nf (nI s.2) s.1 (nI q)) 256 (fun q => bpF (aN n G L R nx κ how T) q) (some (bpF (aN n G L R nx κ how T) 256).1) (fun nf => by
    try dsimp only
    rw [f_X3_fullest_L10, if_pos (show (256 : Int32) ≤ nI 256 from le_t (a := 256) (Nat.le_refl _) (by decide))]) (fun q nf hq => by
    obtain ⟨h1, h2⟩ := tab_rf hT hq
    have hle := bpF_le (aN_le (n := n) (G := G) (L := L) (R := R) (nx := nx) (κ := κ) how T) q
    have hcl := ctB_le (addB n G L R κ T q) (PL n G L R).length
    try dsimp only
    rw [f_X3_fullest_L10, if_neg (show ¬ (256 : Int32) ≤ nI q from le_f (a := 256) (by omega) (by decide)), grd_nI hq (by decide), nI_clamp (show q < 2 ^ 31 by omega), h1, h2, andn_L, andn_L, bitCount_eq N (Nat.lt_trans (bsum_62 _ h55) (by decide)), bitCount_eq N (Nat.lt_trans (bsum_62 _ h55) (by decide)), ones_bsum (by omega), ones_bsum (by omega)]
    simp only [obd1, bnd, grd_nI hq (show 256 ≤ 2 ^ 31 by decide), nI_1, nI_add, add_ct]
    rw [bpF]
    unfold bpS
    by_cases hm : ctB (addB n G L R κ T q) (PL n G L R).length ≤ (bpF (aN n G L R nx κ how T) q).2
    · rw [if_pos (le_t hm (by omega)), if_neg (by
        have := aN_le2 (n := n) (G := G) (L := L) (R := R) (nx := nx) (κ := κ) how T q
        omega)]
    · rw [if_neg (le_f (by omega) (by omega))]
      have hok : okB n q = true := by
        obtain ⟨p, -, hp⟩ := ctB_pos (show 0 < ctB (addB n G L R κ T q) (PL n G L R).length by omega)
        unfold addB pvN at hp
        cases hz : okB n q with
        | true => rfl
        | false =>
          rw [hz] at hp
          simp at hp
      rw [lauC hC hκ hT hh ((okB_iff hq).mp hok)]
      simp only [zI_0]
      cases hl : lauN G L R nx κ how q n with
      | false =>
        have ha : aN n G L R nx κ how T q = 0 := by
          unfold aN
          rw [hl, Bool.and_false]
          rfl
        rw [if_pos rfl, ha, if_neg (by omega)]
      | true =>
        have ha : aN n G L R nx κ how T q = ctB (addB n G L R κ T q) (PL n G L R).length := by
          unfold aN
          rw [hl, hok]
          rfl
        rw [if_neg (by decide), ha, if_pos (by omega)]) 256 0 N (by omega) (by omega)
theorem adds_L {N : Nat} (hN : 1000 ≤ N) (hC : Circ n G L R nt) (hκ : KOk G nt κ) {inputs gates mp : Int32} {one other next now pin pga : Nat → Int32} (hNM : NetM n G L R nx nt inputs gates one other next) (hK : ∀ g, g < G → now (16 * 0 + g) = nI (κ g)) (hPM : PathM (PL n G L R) mp pin pga) {pair : Nat} (hp : pair < 256) (hok : okB n pair = true) (bf af va : Nat → Int32) (T : Nat → Nat → Bool) (mk : Bool) (J : Int32 → (Nat → Int32) → Option (Int32 × (Nat → Int32))) : ∀ (d q nf : Nat) (tk : Nat → Int32), q + d = (PL n G L R).length → d < nf → TK (PL n G L R).length (mkT n G L R κ T mk pair q) tk → ∃ tk', f_X10_addsOn_L4 N (zI mk) gates mp pin (bfM L R κ (pair % 16) n af G) pga (bfM L R κ (pair / 16) n bf G) now one (vaM L R κ pair n va G) other J nf (nI (ctB (addB n G L R κ T pair) q)) (nI q) tk = J (nI (ctB (addB n G L R κ T pair) (PL n G L R).length)) tk' ∧ TK (PL n G L R).length (mkT n G L R κ T mk pair (PL n G L R).length) tk' := by
  have hn := hC.1
  obtain ⟨e1, h55, hP⟩ := id hPM
  subst e1
  intro d
  induction d with
  | zero =>
    intro q nf tk hq hnf hTK
    obtain ⟨nf, rfl⟩ : ∃ z, nf = z + 1 := ⟨nf - 1, by omega⟩
    obtain rfl : q = (PL n G L R).length := by omega
    refine ⟨tk, ?_, hTK⟩
    rw [f_X10_addsOn_L4, if_pos (le_t (Nat.le_refl _) (by omega))]
  | succ d ih =>
    intro q nf tk hq hnf hTK
    obtain ⟨nf, rfl⟩ : ∃ z, nf = z + 1 := ⟨nf - 1, by omega⟩
    obtain ⟨⟨i, set⟩, hel⟩ : ∃ x, (PL n G L R)[q]? = some x := ⟨_, List.getElem?_eq_getElem (show q < (PL n G L R).length by omega)⟩
    obtain ⟨hi, hset, -, hfl⟩ := PL_in hel
    obtain ⟨m1, m2⟩ := hP q i set hel
    have hb2 := bitN_lt (pair % 16) i
    have ht2 := tst_le (L := L) (R := R) (κ := κ) (G := G) pair i set G
    have hto := testsOf_eq hN hC hκ hNM (lv := 0) (by decide) hK hp bf af va hi hset hfl
    have hto' : f_X10_testsOf N 0 (nI i) (nI set) gates (bfM L R κ (pair / 16) n bf G) (bfM L R κ (pair % 16) n af G) now one (vaM L R κ pair n va G) other = _ := hto
    have hat : tk (2 * q + bitN (pair % 16) i) = zI (T (bitN (pair % 16) i) q) := by
      rw [hTK q (by omega) _ hb2]
      unfold mkT
      rw [decide_eq_false (Nat.lt_irrefl q), Bool.false_and, Bool.and_false, Bool.or_false]
    have hpv : ∀ to, pvN n G L R κ pair to q = (decide (tst L R κ pair G i set G = 2) && decide (bitN (pair % 16) i = to)) := by
      intro to
      unfold pvN prv
      rw [hok, hel, Bool.true_and]
    have hpv2 : ∀ to, to < 2 → ¬ to = bitN (pair % 16) i → pvN n G L R κ pair to q = false := by
      intro to _ hne
      rw [hpv, decide_eq_false (show ¬ bitN (pair % 16) i = to from fun z => hne z.symm), Bool.and_false]
    have haB : addB n G L R κ T pair q = (decide (tst L R κ pair G i set G = 2) && !T (bitN (pair % 16) i) q) := by
      unfold addB
      rw [hpv, hpv]
      rcases (show bitN (pair % 16) i = 0 ∨ bitN (pair % 16) i = 1 by omega) with w | w
      · rw [w]
        cases decide (tst L R κ pair G i set G = 2) <;> cases T 0 q <;> rfl
      · rw [w]
        cases decide (tst L R κ pair G i set G = 2) <;> cases T 1 q <;> rfl
    have hnew : ∀ x : Int32, x = zI (T (bitN (pair % 16) i) q || (mk && pvN n G L R κ pair (bitN (pair % 16) i) q)) → TK (PL n G L R).length (mkT n G L R κ T mk pair (q + 1)) (upd tk (2 * q + bitN (pair % 16) i) x) := by
      intro x hx p hpl to hto2
      by_cases e : 2 * p + to = 2 * q + bitN (pair % 16) i
      · have e1 : p = q := by omega
        have e2 : to = bitN (pair % 16) i := by omega
        subst e1
        subst e2
        rw [updEq, hx]
        unfold mkT
        rw [decide_eq_true (Nat.lt_succ_self p), Bool.true_and]
      · rw [updNe e, hTK p hpl to hto2]
        refine congrArg zI ?_
        unfold mkT
        by_cases e1 : p = q
        · subst e1
          rw [hpv2 to hto2 (by omega)]
          simp
        · have : decide (p < q) = decide (p < q + 1) := by
            by_cases w : p < q
            · rw [decide_eq_true w, decide_eq_true (by omega)]
            · rw [decide_eq_false w, decide_eq_false (by omega)]
          rw [this]
    have e2q : (2 : Int32) * nI q + nI (bitN (pair % 16) i) = nI (2 * q + bitN (pair % 16) i) := by
      rw [show (2 : Int32) = nI 2 from rfl, pk_mul, nI_add]
    rw [f_X10_addsOn_L4, if_neg (le_f (by omega) (by omega)), grd_nI (show q < 64 by omega) (by decide), nI_clamp (show q < 2 ^ 31 by omega), m1, m2, grd_nI (show i < 12 by omega) (by decide), nI_clamp (show i < 2 ^ 31 by omega), bfM_at (show Sg n G i from Or.inl hi) hn, Bs_in (show i < 4 by omega), e2q, hto']
    simp only [obd1, bnd, nI_1, grd_nI (show q < 64 by omega) (show 64 ≤ 2 ^ 31 by decide), grd_nI (show 2 * q + bitN (pair % 16) i < 128 by omega) (show 128 ≤ 2 ^ 31 by decide), nI_clamp (show 2 * q + bitN (pair % 16) i < 2 ^ 31 by omega), hat, zI_0]
    cases hTa : T (bitN (pair % 16) i) q with
    | true =>
      obtain ⟨tk', he, hT'⟩ := ih (q + 1) nf (upd tk (2 * q + bitN (pair % 16) i) (zI true)) (by omega) (by omega) (hnew _ (by rw [hTa, Bool.true_or]))
      rw [ctB, haB, hTa] at he
      refine ⟨tk', ?_, hT'⟩
      rw [← he]
      simp only [Bool.not_true, Bool.and_false, Bool.true_eq_false, Bool.false_eq_true, ↓reduceIte, Int32.add_zero, Nat.add_zero, ite_self]
    | false =>
      by_cases ht : tst L R κ pair G i set G = 2
      · have hpa : pvN n G L R κ pair (bitN (pair % 16) i) q = true := by
          rw [hpv, decide_eq_true ht, decide_eq_true rfl]
          rfl
        obtain ⟨tk', he, hT'⟩ := ih (q + 1) nf (upd tk (2 * q + bitN (pair % 16) i) (zI mk)) (by omega) (by omega) (hnew _ (by rw [hTa, hpa, Bool.and_true, Bool.false_or]))
        rw [ctB, haB, hTa, decide_eq_true ht] at he
        refine ⟨tk', ?_, hT'⟩
        rw [← he, if_pos rfl, if_pos (show nI (tst L R κ pair G i set G) = 2 by rw [ht]; rfl)]
        simp only [if_neg one_ne, Bool.not_false, Bool.and_self, ↓reduceIte, nI_1]
        cases mk with
        | true =>
          simp only [Bool.true_eq_false, ↓reduceIte]
          rfl
        | false => simp only [↓reduceIte]
      · have hpa : pvN n G L R κ pair (bitN (pair % 16) i) q = false := by
          rw [hpv, decide_eq_false ht, Bool.false_and]
        obtain ⟨tk', he, hT'⟩ := ih (q + 1) nf (upd tk (2 * q + bitN (pair % 16) i) (zI false)) (by omega) (by omega) (hnew _ (by rw [hTa, hpa, Bool.and_false, Bool.false_or]))
        rw [ctB, haB, hTa, decide_eq_false ht] at he
        refine ⟨tk', ?_, hT'⟩
        rw [← he, if_pos rfl, if_neg (show ¬ nI (tst L R κ pair G i set G) = 2 from fun z => ht ((nI_eq (b := 2) (by omega) (by decide)).mp z))]
        simp only [Bool.not_false, Bool.and_true, Bool.false_eq_true, ↓reduceIte, Int32.add_zero, Nat.add_zero, ite_self]
theorem adds_eq {N : Nat} (hN : 1000 ≤ N) (hC : Circ n G L R nt) (hκ : KOk G nt κ) {inputs gates mp : Int32} {one other next now pin pga : Nat → Int32} (hNM : NetM n G L R nx nt inputs gates one other next) (hK : ∀ g, g < G → now (16 * 0 + g) = nI (κ g)) (hPM : PathM (PL n G L R) mp pin pga) {pair : Nat} (hp : pair < 256) (hok : okB n pair = true) (bf af va : Nat → Int32) (T : Nat → Nat → Bool) (mk : Bool) {tk : Nat → Int32} (hTK : TK (PL n G L R).length T tk) : ∃ tk', f_X10_addsOn N (zI mk) gates mp pin (bfM L R κ (pair % 16) n af G) tk pga (bfM L R κ (pair / 16) n bf G) now one (vaM L R κ pair n va G) other = some (nI (ctB (addB n G L R κ T pair) (PL n G L R).length), tk') ∧ TK (PL n G L R).length (if mk then orT n G L R κ T pair else T) tk' := by
  have h55 := hPM.2.1
  obtain ⟨tk', he, hT'⟩ := adds_L hN hC hκ hNM hK hPM hp hok bf af va T mk (fun x t => some (x, t)) (PL n G L R).length 0 N tk (by omega) (by omega) (by
    intro p hpl to hto
    rw [hTK p hpl to hto]
    unfold mkT
    rw [decide_eq_false (Nat.not_lt_zero p), Bool.false_and, Bool.and_false, Bool.or_false])
  rw [f_X10_addsOn]
  simp only [bnd]
  refine ⟨tk', he, ?_⟩
  intro p hpl to hto
  rw [hT' p hpl to hto]
  unfold mkT
  rw [decide_eq_true hpl, Bool.true_and]
  cases mk with
  | true => rfl
  | false => rw [Bool.false_and, Bool.or_false]; rfl
theorem bp_eq {N : Nat} (hN : 1000 ≤ N) (hC : Circ n G L R nt) (hκ : KOk G nt κ) (hnx : ∀ i, i < n → Sg n G (nx i)) {inputs gates mp : Int32} {one other next now pin pga : Nat → Int32} (hNM : NetM n G L R nx nt inputs gates one other next) (hK : ∀ g, g < G → now (16 * 0 + g) = nI (κ g)) (hPM : PathM (PL n G L R) mp pin pga) {how : Nat} (hh : how ≤ 2) (T : Nat → Nat → Bool) (bf af va : Nat → Int32) {tk : Nat → Int32} (hTK : TK (PL n G L R).length T tk) : ∃ bf' af' va' tk', f_X10_bestPair N (nI how) inputs gates mp now other one bf af va next pin tk pga = some ((bpF (aN n G L R nx κ how T) 256).1, bf', af', va', tk') ∧ TK (PL n G L R).length T tk' := by
  have hn := hC.1
  have h55 := hPM.2.1
  have key : ∀ (J : Int32 → (Nat → Int32) → (Nat → Int32) → (Nat → Int32) → (Nat → Int32) → Option (Int32 × (Nat → Int32) × (Nat → Int32) × (Nat → Int32) × (Nat → Int32))) (m q nf : Nat) (bf af va tk : Nat → Int32), q + m = 256 → m < nf → TK (PL n G L R).length T tk → ∃ bf' af' va' tk', f_X10_bestPair_L8 N (nI how) inputs gates mp now other one next pin pga J nf (bpF (aN n G L R nx κ how T) q).1 (nI (bpF (aN n G L R nx κ how T) q).2) (nI q) bf af va tk = J (bpF (aN n G L R nx κ how T) 256).1 bf' af' va' tk' ∧ TK (PL n G L R).length T tk' := by
    intro J m
    induction m with
    | zero =>
      intro q nf bf af va tk hq hnf hTK
      obtain ⟨nf, rfl⟩ : ∃ z, nf = z + 1 := ⟨nf - 1, by omega⟩
      obtain rfl : q = 256 := by omega
      refine ⟨bf, af, va, tk, ?_, hTK⟩
      rw [f_X10_bestPair_L8, if_pos (show (256 : Int32) ≤ nI 256 from le_t (a := 256) (Nat.le_refl _) (by decide))]
    | succ m ih =>
      intro q nf bf af va tk hq hnf hTK
      obtain ⟨nf, rfl⟩ : ∃ z, nf = z + 1 := ⟨nf - 1, by omega⟩
      have hq256 : q < 256 := by omega
      have hle := bpF_le (aN_le (n := n) (G := G) (L := L) (R := R) (nx := nx) (κ := κ) how T) q
      have hcl := ctB_le (addB n G L R κ T q) (PL n G L R).length
      obtain ⟨e1, e2, e3, e4⟩ := id hNM
      rw [f_X10_bestPair_L8, if_neg (show ¬ (256 : Int32) ≤ nI q from le_f (a := 256) (by omega) (by decide)), e1, isPair_eq N _ hn, pz_nI hq256]
      simp only [obd1, bnd, nI_1, zI_0]
      cases hok : okB n q with
      | false =>
        have ha : aN n G L R nx κ how T q = 0 := by
          unfold aN
          rw [hok, Bool.false_and]
          rfl
        obtain ⟨b', a', v', t', he, hT'⟩ := ih (q + 1) nf bf af va tk (by omega) (by omega) hTK
        rw [bpF, ha] at he
        unfold bpS at he
        rw [if_neg (by omega), e1] at he
        rw [if_pos rfl]
        exact ⟨b', a', v', t', he, hT'⟩
      | true =>
        have hfp := findPair_eq hN hC hκ hNM (lv := 0) (by decide) hK hq256 bf af va
        rw [e1] at hfp
        have hfp' : f_X10_findPair N 0 (nI q) (nI n) gates now other one bf af va = _ := hfp
        rw [if_neg (by decide), hfp']
        simp only [obd3]
        rw [lauM hN hC hκ hnx e4 hh hq256]
        simp only [zI_0]
        cases hl : lauN G L R nx κ how q n with
        | false =>
          have ha : aN n G L R nx κ how T q = 0 := by
            unfold aN
            rw [hl, Bool.and_false]
            rfl
          obtain ⟨b', a', v', t', he, hT'⟩ := ih (q + 1) nf (bfM L R κ (q / 16) n bf G) (bfM L R κ (q % 16) n af G) (vaM L R κ q n va G) tk (by omega) (by omega) hTK
          rw [bpF, ha] at he
          unfold bpS at he
          rw [if_neg (by omega), e1] at he
          refine ⟨b', a', v', t', ?_, hT'⟩
          rw [if_pos rfl, if_pos (show (0 : Int32) ≤ nI (bpF (aN n G L R nx κ how T) q).2 from le_t (a := 0) (Nat.zero_le _) (by omega)), if_pos (show (0 : Int32) ≤ nI (bpF (aN n G L R nx κ how T) q).2 from le_t (a := 0) (Nat.zero_le _) (by omega))]
          exact he
        | true =>
          have ha : aN n G L R nx κ how T q = ctB (addB n G L R κ T q) (PL n G L R).length := by
            unfold aN
            rw [hl, hok]
            rfl
          obtain ⟨tk1, u1, u2⟩ := adds_eq hN hC hκ hNM hK hPM hq256 hok bf af va T false hTK
          have u1' : f_X10_addsOn N 0 gates mp pin (bfM L R κ (q % 16) n af G) tk pga (bfM L R κ (q / 16) n bf G) now one (vaM L R κ q n va G) other = _ := u1
          obtain ⟨b', a', v', t', he, hT'⟩ := ih (q + 1) nf (bfM L R κ (q / 16) n bf G) (bfM L R κ (q % 16) n af G) (vaM L R κ q n va G) tk1 (by omega) (by omega) u2
          rw [bpF, ha] at he
          unfold bpS at he
          refine ⟨b', a', v', t', ?_, hT'⟩
          rw [if_neg (by decide), u1']
          simp only [obd2]
          by_cases hm : ctB (addB n G L R κ T q) (PL n G L R).length ≤ (bpF (aN n G L R nx κ how T) q).2
          · rw [if_pos (le_t hm (by omega)), if_pos (le_t hm (by omega))]
            rw [if_neg (by omega), e1] at he
            exact he
          · rw [if_neg (le_f (by omega) (by omega)), if_neg (le_f (by omega) (by omega))]
            rw [if_pos (by omega), e1] at he
            exact he
  obtain ⟨b', a', v', t', he, hT'⟩ := key (fun x b a v t => some (x, b, a, v, t)) 256 0 N bf af va tk (by omega) (by omega) hTK
  rw [f_X10_bestPair]
  simp only [bnd]
  exact ⟨b', a', v', t', he, hT'⟩
theorem pack_L {N : Nat} (hN : 1000 ≤ N) (hC : Circ n G L R nt) (hκ : KOk G nt κ) (hnx : ∀ i, i < n → Sg n G (nx i)) {inputs gates mp : Int32} {one other next now pin pga : Nat → Int32} (hNM : NetM n G L R nx nt inputs gates one other next) (hK : ∀ g, g < G → now (16 * 0 + g) = nI (κ g)) (hPM : PathM (PL n G L R) mp pin pga) {sure : Nat → Int32} {ris fal : Nat → Int64} {cap : Nat → Int32} (hT : TabOf n G L R nx κ sure ris fal cap) {how : Nat} (hh : how ≤ 2) (y2 : Int32) (J : Option Int32) : ∀ (d k nfC nfM : Nat) (T : Nat → Nat → Bool) (bf af va tk : Nat → Int32), 2 * (PL n G L R).length ≤ totT T (PL n G L R).length + d → k ≤ totT T (PL n G L R).length → d < nfC → d < nfM → TK (PL n G L R).length T tk → ∃ r bf' af' va' tk', f_X3_pack_L9 N (nI how) y2 (nI n) ris fal cap J nfC (lN (bsum (T 1) (PL n G L R).length)) (lN (bsum (T 0) (PL n G L R).length)) (nI k) = some r ∧ f_X10_packed_L51 N (nI how) y2 inputs gates mp now other one next pin pga (fun x b a v t => if y2 = -1 then some (x, b, a, v, t) else some (-9, b, a, v, t)) nfM (nI k) (bpF (aN n G L R nx κ how T) 256).1 bf af va tk = some (r, bf', af', va', tk') := by
  have h55 := hPM.2.1
  intro d
  induction d with
  | zero =>
    intro k nfC nfM T bf af va tk h1 h2 h3 h4 hTK
    obtain ⟨nfC, rfl⟩ : ∃ z, nfC = z + 1 := ⟨nfC - 1, by omega⟩
    obtain ⟨nfM, rfl⟩ : ∃ z, nfM = z + 1 := ⟨nfM - 1, by omega⟩
    have htl := tot_le T (PL n G L R).length
    rw [f_X3_pack_L9, f_X10_packed_L51, if_neg (by rw [fa_lt, nI_toInt (by omega)]; show ¬ (110 : Int) < _; omega), full_eq hN hC hκ hT h55 hh]
    simp only [obd1]
    rcases bpF_or (aN n G L R nx κ how T) 256 with ⟨w, -⟩ | ⟨p, w1, w2, w3, w4⟩
    · rw [w, if_pos rfl, if_pos rfl]
      by_cases hy : y2 = -1
      · rw [if_pos hy, if_pos hy]
        exact ⟨_, _, _, _, _, rfl, rfl⟩
      · rw [if_neg hy, if_neg hy]
        exact ⟨_, _, _, _, _, rfl, rfl⟩
    · have ht := tot_or (n := n) (G := G) (L := L) (R := R) (κ := κ) T p (PL n G L R).length
      have ht2 := tot_le (orT n G L R κ T p) (PL n G L R).length
      have : aN n G L R nx κ how T p ≤ ctB (addB n G L R κ T p) (PL n G L R).length := by
        unfold aN
        split
        · exact Nat.le_refl _
        · exact Nat.zero_le _
      omega
  | succ d ih =>
    intro k nfC nfM T bf af va tk h1 h2 h3 h4 hTK
    obtain ⟨nfC, rfl⟩ : ∃ z, nfC = z + 1 := ⟨nfC - 1, by omega⟩
    obtain ⟨nfM, rfl⟩ : ∃ z, nfM = z + 1 := ⟨nfM - 1, by omega⟩
    have htl := tot_le T (PL n G L R).length
    rw [f_X3_pack_L9, f_X10_packed_L51, if_neg (by rw [fa_lt, nI_toInt (by omega)]; show ¬ (110 : Int) < _; omega), full_eq hN hC hκ hT h55 hh]
    simp only [obd1]
    rcases bpF_or (aN n G L R nx κ how T) 256 with ⟨w, -⟩ | ⟨p, w1, w2, w3, w4⟩
    · rw [w, if_pos rfl, if_pos rfl]
      by_cases hy : y2 = -1
      · rw [if_pos hy, if_pos hy]
        exact ⟨_, _, _, _, _, rfl, rfl⟩
      · rw [if_neg hy, if_neg hy]
        exact ⟨_, _, _, _, _, rfl, rfl⟩
    · have ht := tot_or (n := n) (G := G) (L := L) (R := R) (κ := κ) T p (PL n G L R).length
      have hok : okB n p = true := by
        unfold aN at w4
        cases hz : okB n p with
        | true => rfl
        | false =>
          rw [hz, Bool.false_and, if_neg (by decide)] at w4
          omega
      have hal : aN n G L R nx κ how T p ≤ ctB (addB n G L R κ T p) (PL n G L R).length := by
        unfold aN
        split
        · exact Nat.le_refl _
        · exact Nat.zero_le _
      rw [w2, if_neg (neq_9 (show p < 1000 by omega)), if_neg (neq_9 (show p < 1000 by omega))]
      by_cases hk : nI k = y2
      · rw [if_pos hk, if_pos hk]
        exact ⟨_, _, _, _, _, rfl, rfl⟩
      · rw [if_neg hk, if_neg hk]
        obtain ⟨r1, r2⟩ := tab_rf hT w1
        have hfp := findPair_eq hN hC hκ hNM (lv := 0) (by decide) hK w1 bf af va
        have hfp' : f_X10_findPair N 0 (nI p) inputs gates now other one bf af va = _ := hfp
        obtain ⟨tk1, u1, u2⟩ := adds_eq hN hC hκ hNM hK hPM w1 hok bf af va T true hTK
        have u1' : f_X10_addsOn N 1 gates mp pin (bfM L R κ (p % 16) n af G) tk pga (bfM L R κ (p / 16) n bf G) now one (vaM L R κ p n va G) other = _ := u1
        have u2' : TK (PL n G L R).length (orT n G L R κ T p) tk1 := u2
        obtain ⟨b1, a1, v1, t1, x1, x2⟩ := bp_eq hN hC hκ hnx hNM hK hPM hh (orT n G L R κ T p) (bfM L R κ (p / 16) n bf G) (bfM L R κ (p % 16) n af G) (vaM L R κ p n va G) u2'
        obtain ⟨r, b2, a2, v2, t2, y1, y2'⟩ := ih (k + 1) nfC nfM (orT n G L R κ T p) b1 a1 v1 t1 (by omega) (by omega) (by omega) (by omega) x2
        refine ⟨r, b2, a2, v2, t2, ?_, ?_⟩
        · rw [grd_nI w1 (by decide), nI_clamp (show p < 2 ^ 31 by omega), r1, r2]
          simp only [bnd, grd_nI w1 (show 256 ≤ 2 ^ 31 by decide), nI_1]
          rw [wb_or (Nat.lt_trans (bsum_62 _ h55) (by decide)) (Nat.lt_trans (bsum_62 _ h55) (by decide)), wb_or (Nat.lt_trans (bsum_62 _ h55) (by decide)) (Nat.lt_trans (bsum_62 _ h55) (by decide)), bsum_or, bsum_or]
          exact y1
        · rw [hfp']
          simp only [obd3]
          rw [u1']
          simp only [obd2, bnd, nI_1]
          rw [x1]
          simp only [obd5]
          exact y2'
end PK
theorem sm_packed {N : Nat} (hN : 1000 ≤ N) (y1 y2 : Int32) {n G : Nat} {L R nx : Nat → Nat} {nt : Nat → Bool} {κ d : Nat → Nat} {i1 i2 i3 : Int32} {a1 a2 a3 a4 a5 a6 a7 : Nat → Int32} {j1 j2 j3 : Int32} {b1 b2 b3 b4 b5 : Nat → Int32} {kinds delays now : Nat → Int32} {mf : Int32} {sure : Nat → Int32} {ris fal : Nat → Int64} {cap : Nat → Int32} (l0 s0 : Int32) (of0 bf af va tk : Nat → Int32) (hNet : RNet n G L R nx nt i1 i2 i3 a1 a2 a3 a4 a5 a6 a7 j1 j2 j3 b1 b2 b3 b4 b5) (hNow : RNow G nt κ d kinds delays now) (hTab : RTab n G L R nx nt mf sure ris fal cap) :
    ∃ r mf' l' s' sure' ris' fal' cap' of' bf' af' va' tk', f_X9_packed N y1 y2 mf i1 i2 i3 l0 s0 kinds sure ris fal a1 a2 a3 cap a7 a4 of0 = some (r, mf', l', s', sure', ris', fal', cap', of') ∧ f_X10_packed N y1 y2 j1 j2 j3 now b2 b1 bf af va b3 b4 tk b5 = some (r, bf', af', va', tk') ∧ RTab n G L R nx nt mf' sure' ris' fal' cap' := by
  obtain ⟨hn, hG, rfl, rfl, rfl, rfl⟩ := hNet.c
  obtain ⟨hC, hnx, hNC, hNM, hPC, hPM⟩ := hNet
  have e3 := hPC.1
  have h55 := hPC.2.1
  subst e3
  have e0 : (0 : Int32).toInt = 0 := rfl
  have e2 : (2 : Int32).toInt = 2 := rfl
  have g0 : (0 : Int64).toInt = 0 := rfl
  have g2 : (2 : Int64).toInt = 2 := rfl
  rw [f_X9_packed, f_X10_packed]
  simp only [obd1, in_spec, Int32.toInt_toInt64, g0, g2, zo0, fa_lt, e0, e2]
  by_cases c1 : y1.toInt < 0
  · rw [if_pos c1, if_pos (show ¬ (0 ≤ y1.toInt ∧ y1.toInt ≤ 2) by omega)]
    exact ⟨_, _, _, _, _, _, _, _, _, _, _, _, _, rfl, rfl, hTab⟩
  rw [if_neg c1]
  by_cases c2 : 2 < y1.toInt
  · rw [if_pos c2, if_pos (show ¬ (0 ≤ y1.toInt ∧ y1.toInt ≤ 2) by omega)]
    exact ⟨_, _, _, _, _, _, _, _, _, _, _, _, _, rfl, rfl, hTab⟩
  rw [if_neg c2, if_neg (show ¬ ¬ (0 ≤ y1.toInt ∧ y1.toInt ≤ 2) by omega)]
  by_cases c3 : -1 ≤ y2
  · rw [if_pos c3, if_pos c3]
    obtain ⟨how, hh, rfl⟩ := nI_of_rng (y := y1) (n := 3) (by omega) (by omega) (by decide)
    obtain ⟨mf', l', s', sure', ris', fal', cap', of', hf1, hf2, hf3⟩ := fitTo_eq hN hC hNow.1.1 hnx hNC (fun g h => (hNow.2.1 g h).1) hPC l0 s0 of0 hTab
    have wipe : ∀ J : (Nat → Int32) → Option (Int32 × (Nat → Int32) × (Nat → Int32) × (Nat → Int32) × (Nat → Int32)), f_X10_packed_L22 N J N 0 tk = J (stA 0 (fun _ => 0) tk 128) := by
      intro J
      have e := forL (fun nf q s => f_X10_packed_L22 N J nf (nI q) s) 128 (fun q => stA 0 (fun _ => 0) tk q) (J (stA 0 (fun _ => 0) tk 128)) (fun nf => by
        rw [f_X10_packed_L22, if_pos (show (128 : Int32) ≤ nI 128 from le_t (a := 128) (Nat.le_refl _) (by decide))]) (fun q nf hq => by
        rw [f_X10_packed_L22, if_neg (show ¬ (128 : Int32) ≤ nI q from le_f (a := 128) (by omega) (by decide)), grd_nI hq (by decide), nI_clamp (show q < 2 ^ 31 by omega)]
        simp only [bnd, nI_1]
        exact congrArg (f_X10_packed_L22 N J nf (nI (q + 1))) (stA_s0 (fun _ => 0) tk q)) 128 0 N (by omega) (by omega)
      rw [stA_0] at e
      exact e
    have hTK : TK (PL n G L R).length (fun _ _ => false) (stA 0 (fun _ => 0) tk 128) := by
      intro p hp to hto
      have e := stA_in (lo := 0) (val := fun _ => (0 : Int32)) (base := tk) (i := 128) (k := 2 * p + to) (by omega)
      rw [Nat.zero_add] at e
      exact e
    obtain ⟨b1', a1', v1', t1', x1, x2⟩ := bp_eq hN hC hNow.1.1 hnx hNM (M0 hNow.2.2) hPM (show how ≤ 2 by omega) (fun _ _ => false) bf af va hTK
    obtain ⟨r, b2', a2', v2', t2', z1, z2⟩ := pack_L hN hC hNow.1.1 hnx hNM (M0 hNow.2.2) hPM hf2 (show how ≤ 2 by omega) y2 (some (-9)) (2 * (PL n G L R).length) 0 N N (fun _ _ => false) b1' a1' v1' t1' (by omega) (Nat.zero_le _) (by omega) (by omega) x2
    rw [bsum_0] at z1
    rw [hf1]
    simp only [obd8, bnd]
    rw [wipe, x1]
    simp only [obd5]
    refine ⟨r, mf', l', s', sure', ris', fal', cap', of', b2', a2', v2', t2', ?_, z2, hf3⟩
    have z1' : f_X3_pack N (nI how) y2 (nI n) ris' fal' cap' = some r := by
      rw [f_X3_pack]
      exact z1
    rw [z1']
  · rw [if_neg c3, if_neg c3]
    exact ⟨_, _, _, _, _, _, _, _, _, _, _, _, _, rfl, rfl, hTab⟩
