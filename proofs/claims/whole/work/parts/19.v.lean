-- the class's table of pairs: rows
theorem or_mulN {a c k : Nat} (ha : a < 2 ^ k) : a ||| c * 2 ^ k = a + c * 2 ^ k := by
  have := Nat.two_pow_add_eq_or_of_lt ha c
  rw [Nat.or_comm, Nat.mul_comm, ← this, Nat.add_comm]
theorem or_mul {a c k : Nat} (ha : a < 2 ^ k) : nI a ||| nI (c * 2 ^ k) = nI (a + c * 2 ^ k) := by
  rw [nI_or, or_mulN ha]
theorem p8 (g : Nat) : 8 ^ g = 2 ^ (3 * g) := by rw [Nat.pow_mul]
theorem pkK_lt {κ : Nat → Nat} {G : Nat} (h : ∀ g, g < G → κ g ≤ 4) : ∀ g, g ≤ G → pkK κ g < 8 ^ g
  | 0, _ => Nat.zero_lt_one
  | g + 1, hg => by
    have h1 := pkK_lt h g (by omega)
    have h2 := h g (by omega)
    have h3 : κ g * 8 ^ g ≤ 4 * 8 ^ g := Nat.mul_le_mul_right _ h2
    rw [pkK, Nat.pow_succ]
    omega
theorem pow8_8 {g : Nat} (h : g ≤ 8) : 8 ^ g ≤ 16777216 := Nat.le_trans (Nat.pow_le_pow_right (by decide) h) (by decide)
theorem digit {a a' c c' m : Nat} (h : a + c * m = a' + c' * m) (ha : a < m) (ha' : a' < m) : a = a' ∧ c = c' := by
  have h1 := Nat.add_mul_div_right a c (show 0 < m by omega)
  have h2 := Nat.add_mul_div_right a' c' (show 0 < m by omega)
  rw [Nat.div_eq_of_lt ha] at h1
  rw [Nat.div_eq_of_lt ha', ← h] at h2
  have hc : c = c' := by omega
  subst hc
  exact ⟨by omega, rfl⟩
theorem pkK_inj {κ κ' : Nat → Nat} {G : Nat} (h : ∀ g, g < G → κ g ≤ 4) (h' : ∀ g, g < G → κ' g ≤ 4) : ∀ g, g ≤ G → pkK κ g = pkK κ' g → ∀ q, q < g → κ q = κ' q
  | 0, _, _, q, hq => by omega
  | g + 1, hg, e, q, hq => by
    rw [pkK, pkK] at e
    obtain ⟨e1, e2⟩ := digit e (pkK_lt h g (by omega)) (pkK_lt h' g (by omega))
    rcases Nat.lt_or_ge q g with w | w
    · exact pkK_inj h h' g (by omega) e1 q w
    · have : q = g := by omega
      subst this
      exact e2
theorem sh3_tab : ∀ k, k < 5 → ∀ g, g < 8 → nI k <<< (((3 : Int32) * nI g) &&& 31) = nI (k * 2 ^ (3 * g)) := by decide +kernel
section CG
variable {n G : Nat} {L R nx κ κ' : Nat → Nat} {nt : Nat → Bool}
theorem Vs_cong (h : ∀ g, g < G → κ g = κ' g) (pair : Nat) : ∀ g, g ≤ G → ∀ s, Vs L R κ pair g s = Vs L R κ' pair g s
  | 0, _, _ => rfl
  | g + 1, hg, s => by
    have ih := Vs_cong h pair g (by omega)
    rw [Vs, Vs, ih (L g), ih (R g), ih s, h g (by omega)]
theorem lnkM_cong (h : ∀ g, g < G → κ g = κ' g) (pair f : Nat) : ∀ g, g ≤ G → lnkM L R κ pair G f g = lnkM L R κ' pair G f g
  | 0, _ => rfl
  | g + 1, hg => by
    have ih := Vs_cong (L := L) (R := R) h pair G (Nat.le_refl _)
    rw [lnkM, lnkM, lnkM_cong h pair f g (by omega), ih (L g), ih (R g), h g (by omega)]
theorem tst_cong (h : ∀ g, g < G → κ g = κ' g) (pair i set : Nat) : ∀ g, g ≤ G → tst L R κ pair G i set g = tst L R κ' pair G i set g
  | 0, _ => rfl
  | g + 1, hg => by
    have ih := Vs_cong (L := L) (R := R) h pair G (Nat.le_refl _)
    rw [tst, tst, tst_cong h pair i set g (by omega), ih (L g), ih (R g), h g (by omega)]
theorem capN_cong (h : ∀ g, g < G → κ g = κ' g) (pat : Nat) : ∀ i, capN n G L R nx κ pat i = capN n G L R nx κ' pat i
  | 0 => rfl
  | i + 1 => by
    rw [capN, capN, capN_cong h pat i, Vs_cong h (17 * pat) G (Nat.le_refl _)]
theorem prv_cong (h : ∀ g, g < G → κ g = κ' g) (P : List (Nat × Nat)) (pair to : Nat) : prv G L R κ P pair to = prv G L R κ' P pair to := by
  funext p
  unfold prv
  split
  · rw [tst_cong h pair _ _ G (Nat.le_refl _)]
  · rfl
theorem TabOf_cong (h : ∀ g, g < G → κ g = κ' g) {sure : Nat → Int32} {ris fal : Nat → Int64} {cap : Nat → Int32} (hT : TabOf n G L R nx κ sure ris fal cap) : TabOf n G L R nx κ' sure ris fal cap := by
  obtain ⟨h1, h2, h3⟩ := hT
  refine ⟨fun pair hp => ?_, h2, fun pat hp => ?_⟩
  · have := h1 pair hp
    rw [lnkM_cong h pair 2 G (Nat.le_refl _), prv_cong h, prv_cong h] at this
    exact this
  · have := h3 pat hp
    rw [capN_cong h] at this
    exact this
theorem Vs_17 (hκ : ∀ g, g < G → κ g ≤ 4) {pat : Nat} (hp : pat < 16) : ∀ g, g ≤ G → ∀ s, Vs L R κ (17 * pat) g s = Bs L R κ pat g s
  | 0, _, s => by
    show V0 (17 * pat) s = bitN pat s
    unfold V0
    rw [show 17 * pat / 16 = pat by omega, show 17 * pat % 16 = pat by omega, if_pos rfl]
  | g + 1, hg, s => by
    have ih := Vs_17 hκ hp g (by omega)
    have b1 := Bs_lt (L := L) (R := R) hκ pat g (by omega) (L g)
    have b2 := Bs_lt (L := L) (R := R) hκ pat g (by omega) (R g)
    rw [Vs, Bs, ih (L g), ih (R g), ih s]
    by_cases h : s = 4 + g
    · rw [if_pos h, if_pos h]
      exact (mk4_lt _ (by have := hκ g (by omega); omega) _ (by omega) _ (by omega)).2.2 b1 b2
    · rw [if_neg h, if_neg h]
theorem capN_lt (hκ : ∀ g, g < G → κ g ≤ 4) {pat : Nat} (hp : pat < 16) : ∀ i, capN n G L R nx κ pat i < 2 ^ i
  | 0 => Nat.zero_lt_one
  | i + 1 => by
    have h := capN_lt hκ hp i
    have b1 := Bs_lt (L := L) (R := R) hκ pat G (Nat.le_refl _) (nx i)
    have h3 : Bs L R κ pat G (nx i) * 2 ^ i ≤ 1 * 2 ^ i := Nat.mul_le_mul_right _ (by omega)
    rw [capN, Nat.pow_succ, Vs_17 hκ hp G (Nat.le_refl _)]
    omega
end CG
theorem rb_tab : ∀ s, s < 16 → ∀ f, f < 16 → ∀ i, i < 4 → ((nI s &&& (nI f ^^^ -1)) >>> (nI i &&& 31)) &&& 1 = nI (if bitN s i = 1 ∧ bitN f i = 0 then 1 else 0) := by decide +kernel
theorem i64_tab : ∀ b, b < 2 → (nI b).toInt64 = lN b := by decide
theorem orL {a b p : Nat} (ha : a < 2 ^ p) (hb : b < 2) (hp : p < 62) : lN a ||| ((nI b).toInt64 <<< ((nI p).toInt64 &&& 63)) = lN (a + b * 2 ^ p) := by
  have h1 : 2 ^ p < 2 ^ 62 := Nat.pow_lt_pow_right (by decide) hp
  have h2 : b * 2 ^ p ≤ 1 * 2 ^ p := Nat.mul_le_mul_right _ (by omega)
  rw [i64_tab b hb, wb_shl b (by omega), wb_or (by omega) (by omega), or_mulN ha]
theorem uLL (f : Nat → Int64) (k : Nat) (x y : Int64) : vp_updL (vp_updL f k x) k y = vp_updL f k y := by
  funext j
  by_cases h : j = k
  · subst h
    rw [pk_uLs, pk_uLs]
  · rw [pk_uLn h, pk_uLn h, pk_uLn h]
theorem uII (f : Nat → Int32) (k : Nat) (x y : Int32) : upd (upd f k x) k y = upd f k y := by
  funext j
  by_cases h : j = k
  · subst h
    rw [pk_us, pk_us]
  · rw [pk_un h, pk_un h, pk_un h]
theorem holds_t (N : Nat) {pair a b : Nat} {sure : Nat → Int32} (hp : pair < 256) (hs : sure pair = nI b) (ha : a < 2 ^ 31) (hb : b < 2 ^ 31) (h : Sub a b) : f_X3_holds N (nI pair) (nI a) sure = some 1 := by
  rw [f_X3_holds, grd_nI hp (by decide), nI_clamp (by omega), hs, if_pos ((sub_nI ha hb).mpr h)]
theorem holds_f (N : Nat) {pair a b : Nat} {sure : Nat → Int32} (hp : pair < 256) (hs : sure pair = nI b) (ha : a < 2 ^ 31) (hb : b < 2 ^ 31) (h : ¬ Sub a b) : f_X3_holds N (nI pair) (nI a) sure = some 0 := by
  rw [f_X3_holds, grd_nI hp (by decide), nI_clamp (by omega), hs, if_neg (fun z => h ((sub_nI ha hb).mp z))]
section MR
variable {n G : Nat} {L R nx κ : Nat → Nat} {nt : Nat → Bool}
theorem tst2_iff {pair i set : Nat} : tst L R κ pair G i set G = 2 ↔ ¬ bitN (pair / 16) i = bitN (pair % 16) i ∧ Sub (lm L R i set G) (lnkM L R κ pair G 2 G) := by
  have c2 := cov_iff (G := G) (L := L) (R := R) (κ := κ) (pair := pair) (i := i) (set := set) (f := 2) (by decide) G
  have ht := tst_le (L := L) (R := R) (κ := κ) (G := G) pair i set G
  have hv := V0_ge pair i
  constructor
  · intro h
    have := c2.mp (by omega)
    refine ⟨fun z => ?_, this.2⟩
    rw [if_pos (hv.mpr z)] at this
    omega
  · intro h
    have := c2.mpr ⟨by rw [if_neg (fun z => h.1 (hv.mp z))]; exact Nat.le_refl _, h.2⟩
    omega
theorem prv_iff {P : List (Nat × Nat)} {pair to p i set : Nat} (hel : P[p]? = some (i, set)) : prv G L R κ P pair to p = true ↔ tst L R κ pair G i set G = 2 ∧ bitN (pair % 16) i = to := by
  unfold prv
  rw [hel]
  simp only [Bool.and_eq_true, decide_eq_true_eq]
theorem row_step {P : List (Nat × Nat)} {pair p i set : Nat} (hp : pair < 256) (hi : i < 4) (hp55 : p < 55) (hel : P[p]? = some (i, set)) (hS : Sub (lm L R i set G) (lnkM L R κ pair G 2 G)) : lN (bsum (prv G L R κ P pair 1) p) ||| (((((nI (pair % 16) &&& (nI (pair / 16) ^^^ -1)) >>> (nI i &&& 31)) &&& 1).toInt64) <<< ((nI p).toInt64 &&& 63)) = lN (bsum (prv G L R κ P pair 1) (p + 1)) ∧ lN (bsum (prv G L R κ P pair 0) p) ||| (((((nI (pair / 16) &&& (nI (pair % 16) ^^^ -1)) >>> (nI i &&& 31)) &&& 1).toInt64) <<< ((nI p).toInt64 &&& 63)) = lN (bsum (prv G L R κ P pair 0) (p + 1)) := by
  have b1 := bitN_lt (pair / 16) i
  have b2 := bitN_lt (pair % 16) i
  have i1 := prv_iff (G := G) (L := L) (R := R) (κ := κ) (pair := pair) (to := 1) hel
  have i0 := prv_iff (G := G) (L := L) (R := R) (κ := κ) (pair := pair) (to := 0) hel
  rw [tst2_iff] at i1 i0
  constructor
  · rw [rb_tab _ (by omega) _ (by omega) i hi, orL (bsum_lt _ _) (by split <;> omega) (by omega), bsum]
    refine congrArg lN (congrArg (fun z => bsum (prv G L R κ P pair 1) p + z) ?_)
    by_cases h : bitN (pair % 16) i = 1 ∧ bitN (pair / 16) i = 0
    · rw [if_pos h, if_pos (i1.mpr ⟨⟨by omega, hS⟩, h.1⟩), Nat.one_mul]
    · rw [if_neg h, if_neg (fun z => h (by have := i1.mp z; omega)), Nat.zero_mul]
  · rw [rb_tab _ (by omega) _ (by omega) i hi, orL (bsum_lt _ _) (by split <;> omega) (by omega), bsum]
    refine congrArg lN (congrArg (fun z => bsum (prv G L R κ P pair 0) p + z) ?_)
    by_cases h : bitN (pair / 16) i = 1 ∧ bitN (pair % 16) i = 0
    · rw [if_pos h, if_pos (i0.mpr ⟨⟨by omega, hS⟩, h.2⟩), Nat.one_mul]
    · rw [if_neg h, if_neg (fun z => h (by have := i0.mp z; omega)), Nat.zero_mul]
theorem row_L {N : Nat} (hN : 1000 ≤ N) (hC : Circ n G L R nt) {paths : Int32} {starts sizes steps links : Nat → Int32} (hPC : PathC G L R (PL n G L R) paths starts sizes steps links) {pair : Nat} (hp : pair < 256) {sure : Nat → Int32} (hs : sure pair = nI (lnkM L R κ pair G 2 G)) (ris fal : Nat → Int64) (J : (Nat → Int64) → (Nat → Int64) → Option ((Nat → Int32) × (Nat → Int64) × (Nat → Int64) × Int32 × Int32 × (Nat → Int32) × (Nat → Int32))) :
    f_X3_makeRow_L67 N (nI pair) paths links starts (nI (pair / 16)) (nI (pair % 16)) sure J N 0 (vp_updL ris pair 0) (vp_updL fal pair 0) = J (vp_updL ris pair (lN (bsum (prv G L R κ (PL n G L R) pair 1) (PL n G L R).length))) (vp_updL fal pair (lN (bsum (prv G L R κ (PL n G L R) pair 0) (PL n G L R).length))) := by
  obtain ⟨rfl, h55, hP⟩ := hPC
  have hn := hC.1
  have hG := hC.2.1
  have h48 := pow4_8 hG
  have hm2 := lnkM_lt L R κ pair G 2 G
  exact forL (fun nf q s => f_X3_makeRow_L67 N (nI pair) (nI (PL n G L R).length) links starts (nI (pair / 16)) (nI (pair % 16)) sure J nf (nI q) s.1 s.2) (PL n G L R).length (fun q => (vp_updL ris pair (lN (bsum (prv G L R κ (PL n G L R) pair 1) q)), vp_updL fal pair (lN (bsum (prv G L R κ (PL n G L R) pair 0) q)))) (J (vp_updL ris pair (lN (bsum (prv G L R κ (PL n G L R) pair 1) (PL n G L R).length))) (vp_updL fal pair (lN (bsum (prv G L R κ (PL n G L R) pair 0) (PL n G L R).length)))) (fun nf => by
    rw [f_X3_makeRow_L67, if_pos (le_t (Nat.le_refl _) (by omega))]) (fun q nf hq => by
    obtain ⟨⟨i, set⟩, hel⟩ : ∃ x, (PL n G L R)[q]? = some x := ⟨_, List.getElem?_eq_getElem hq⟩
    obtain ⟨hi, hset, -, -⟩ := PL_in hel
    obtain ⟨h1, h2, h3, -⟩ := hP q i set hel
    have hl := lm_lt (L := L) (R := R) i set G
    try dsimp only
    rw [f_X3_makeRow_L67, if_neg (le_f hq (by omega)), grd_nI (show q < 55 by omega) (by decide), nI_clamp (show q < 2 ^ 31 by omega), h3, h1]
    by_cases hS : Sub (lm L R i set G) (lnkM L R κ pair G 2 G)
    · obtain ⟨s1, s2⟩ := row_step hp (show i < 4 by omega) (show q < 55 by omega) hel hS
      rw [holds_t N hp hs (by omega) (by omega) hS]
      simp only [obd1, bnd, nI_1, grd_nI hp (show 256 ≤ 2 ^ 31 by decide), grd_nI (show q < 55 by omega) (show 55 ≤ 2 ^ 31 by decide), nI_clamp (show pair < 2 ^ 31 by omega), pk_uLs, uLL]
      rw [if_neg one_ne, s1, s2]
    · rw [holds_f N hp hs (by omega) (by omega) hS]
      simp only [obd1, bnd, nI_1, ↓reduceIte]
      have e1 : ∀ to, bsum (prv G L R κ (PL n G L R) pair to) (q + 1) = bsum (prv G L R κ (PL n G L R) pair to) q := by
        intro to
        have z := prv_iff (G := G) (L := L) (R := R) (κ := κ) (pair := pair) (to := to) hel
        rw [bsum, if_neg (fun y => hS (tst2_iff.mp (z.mp y).1).2), Nat.add_zero]
      rw [e1, e1]) (PL n G L R).length 0 N (by omega) (by omega)
theorem nextPat {N : Nat} (hN : 1000 ≤ N) (hC : Circ n G L R nt) (hκ : KOk G nt κ) (hnx : ∀ i, i < n → Sg n G (nx i)) {nexts : Nat → Int32} (hnexts : ∀ i, i < n → nexts i = nI (cs (nx i))) {pat : Nat} (hp : pat < 16) (of0 : Nat → Int32) : f_X3_nextPattern N (nI n) nexts (ofC L R κ (17 * pat) n of0 G) = some (nI (capN n G L R nx κ pat n)) := by
  have hn := hC.1
  have hG := hC.2.1
  have hκ4 : ∀ g, g < G → κ g ≤ 4 := fun g h => (hκ g h).1
  have sh_tab : ∀ v, v < 2 → ∀ i, i < 4 → nI v <<< (nI i &&& 31) = nI (v * 2 ^ i) := by decide
  rw [f_X3_nextPattern]
  simp only [bnd]
  exact forL (fun nf q s => f_X3_nextPattern_L4 N (nI n) nexts (ofC L R κ (17 * pat) n of0 G) (fun x => some x) nf s (nI q)) n (fun q => nI (capN n G L R nx κ pat q)) (some (nI (capN n G L R nx κ pat n))) (fun nf => by
    rw [f_X3_nextPattern_L4, if_pos (le_t (Nat.le_refl _) (by omega))]) (fun q nf hq => by
    obtain ⟨c1, c2⟩ := cs_in (hnx q hq) hn hG
    have b1 := Bs_lt (L := L) (R := R) hκ4 pat G (Nat.le_refl _) (nx q)
    have hv : Vs L R κ (17 * pat) G (nx q) < 2 := by
      rw [Vs_17 hκ4 hp G (Nat.le_refl _)]
      exact b1
    rw [f_X3_nextPattern_L4, if_neg (le_f hq (by omega)), grd_nI (show q < 4 by omega) (by decide), nI_clamp (show q < 2 ^ 31 by omega), hnexts q hq, grd_nI c1 (by decide), nI_clamp (show cs (nx q) < 2 ^ 31 by omega), ofC_at (hnx q hq) hn, sh_tab _ hv q (by omega), or_mul (capN_lt hκ4 hp q)]
    simp only [bnd, nI_1]
    rfl) n 0 N (by omega) (by omega)
theorem f4 {p : Nat} (hp : p < 256) : nI p >>> ((4 : Int32) &&& 31) = nI (p / 16) := shrB (k := 4) (by omega) (by decide)
theorem a15 {p : Nat} (hp : p < 256) : nI p &&& 15 = nI (p % 16) := pk_andN (by omega) 4 (by decide)
theorem okB_iff {n p : Nat} (hp : p < 256) : okB n p = true ↔ okPair n p := by
  unfold okB okPair
  rw [decide_eq_true_eq]
  exact ⟨fun h => ⟨hp, h⟩, fun h => h.2⟩
/-- one row of the table -/
theorem makeRow_eq {N : Nat} (hN : 1000 ≤ N) (hC : Circ n G L R nt) (hκ : KOk G nt κ) (hnx : ∀ i, i < n → Sg n G (nx i)) {inputs gates paths : Int32} {lefts rights nexts kinds starts sizes steps links : Nat → Int32} (hNC : NetC n G L R nx nt inputs gates lefts rights nexts) (hK : ∀ g, g < G → kinds g = nI (κ g)) (hPC : PathC G L R (PL n G L R) paths starts sizes steps links) {pair : Nat} (hp : pair < 256) (l0 s0 : Int32) (sure : Nat → Int32) (ris fal : Nat → Int64) (cap of0 : Nat → Int32) :
    ∃ sure' ris' fal' l' s' cap' of', f_X3_makeRow N (nI pair) inputs gates paths kinds sure ris fal l0 s0 lefts rights nexts cap links starts of0 = some (sure', ris', fal', l', s', cap', of') ∧ (∀ k, k ≠ pair → sure' k = sure k ∧ ris' k = ris k ∧ fal' k = fal k) ∧ (okPair n pair → sure' pair = nI (lnkM L R κ pair G 2 G) ∧ ris' pair = lN (bsum (prv G L R κ (PL n G L R) pair 1) (PL n G L R).length) ∧ fal' pair = lN (bsum (prv G L R κ (PL n G L R) pair 0) (PL n G L R).length)) ∧ (¬ okPair n pair → sure' pair = 0 ∧ ris' pair = 0 ∧ fal' pair = 0) ∧ ∀ pat, pat < 16 → (pair = 17 * pat → okPair n pair → cap' pat = nI (capN n G L R nx κ pat n)) ∧ (pair ≠ 17 * pat → cap' pat = cap pat) := by
  obtain ⟨e1, e2, e3, e4⟩ := id hNC
  subst e1
  rw [f_X3_makeRow, hasPair_eq N _ hC.1, pz_nI hp]
  simp only [obd1, bnd, grd_nI hp (show 256 ≤ 2 ^ 31 by decide), nI_clamp (show pair < 2 ^ 31 by omega), f4 hp, a15 hp, uII]
  cases hok : okB n pair with
  | false =>
    have hno : ¬ okPair n pair := fun z => by
      have := (okB_iff hp).mpr z
      rw [hok] at this
      cases this
    rw [if_pos (show zI false = 0 from rfl)]
    refine ⟨_, _, _, _, _, _, _, rfl, fun k hk => ⟨pk_un hk, pk_uLn hk, pk_uLn hk⟩, fun z => absurd z hno, fun _ => ⟨pk_us, pk_uLs, pk_uLs⟩, fun pat hpat => ⟨fun _ z => absurd z hno, fun _ => rfl⟩⟩
  | true =>
    have hyes := (okB_iff hp).mp hok
    rw [if_neg (show ¬ zI true = 0 by decide), settle_eq hN hC hκ hNC hK hp]
    simp only [obd3]
    have hL := row_L hN hC hPC hp (κ := κ) (sure := upd sure pair (nI (lnkM L R κ pair G 2 G))) pk_us ris fal
    by_cases hd : pair / 16 = pair % 16
    · have h17 : pair = 17 * (pair / 16) := by omega
      have hnp := nextPat hN hC hκ hnx e4 (show pair / 16 < 16 by omega) of0
      rw [← h17] at hnp
      refine ⟨_, _, _, _, _, _, _, Eq.trans (hL _) (by
        try dsimp only
        rw [if_pos (by rw [hd]), hnp]
        simp only [obd1, grd_nI (show pair / 16 < 16 by omega) (show 16 ≤ 2 ^ 31 by decide), bnd, nI_clamp (show pair / 16 < 2 ^ 31 by omega)]
        rfl), fun k hk => ⟨pk_un hk, pk_uLn hk, pk_uLn hk⟩, fun _ => ⟨pk_us, pk_uLs, pk_uLs⟩, fun z => absurd hyes z, fun pat hpat => ⟨fun z _ => ?_, fun z => ?_⟩⟩
      · rw [show pat = pair / 16 by omega]
        exact pk_us
      · exact pk_un (by omega)
    · refine ⟨_, _, _, _, _, _, _, Eq.trans (hL _) (by
        try dsimp only
        rw [if_neg (fun z => hd ((nI_eq (by omega) (by omega)).mp z))]), fun k hk => ⟨pk_un hk, pk_uLn hk, pk_uLn hk⟩, fun _ => ⟨pk_us, pk_uLs, pk_uLs⟩, fun z => absurd hyes z, fun pat hpat => ⟨fun z _ => ?_, fun z => rfl⟩⟩
      omega
def TabI (n G : Nat) (L R nx κ : Nat → Nat) (q : Nat) (sure : Nat → Int32) (ris fal : Nat → Int64) (cap : Nat → Int32) : Prop :=
  (∀ pair, pair < q → okPair n pair → sure pair = nI (lnkM L R κ pair G 2 G) ∧ ris pair = lN (bsum (prv G L R κ (PL n G L R) pair 1) (PL n G L R).length) ∧ fal pair = lN (bsum (prv G L R κ (PL n G L R) pair 0) (PL n G L R).length)) ∧
  (∀ pair, pair < q → ¬ okPair n pair → sure pair = 0 ∧ ris pair = 0 ∧ fal pair = 0) ∧
  ∀ pat, pat < 2 ^ n → 17 * pat < q → cap pat = nI (capN n G L R nx κ pat n)
theorem fit_L {N : Nat} (hN : 1000 ≤ N) (hC : Circ n G L R nt) (hκ : KOk G nt κ) (hnx : ∀ i, i < n → Sg n G (nx i)) {inputs gates paths : Int32} {lefts rights nexts kinds starts sizes steps links : Nat → Int32} (hNC : NetC n G L R nx nt inputs gates lefts rights nexts) (hK : ∀ g, g < G → kinds g = nI (κ g)) (hPC : PathC G L R (PL n G L R) paths starts sizes steps links) (J : Int32 → Int32 → (Nat → Int32) → (Nat → Int64) → (Nat → Int64) → (Nat → Int32) → (Nat → Int32) → Option (Int32 × Int32 × Int32 × (Nat → Int32) × (Nat → Int64) × (Nat → Int64) × (Nat → Int32) × (Nat → Int32))) : ∀ (m q nf : Nat) (l0 s0 : Int32) (sure : Nat → Int32) (ris fal : Nat → Int64) (cap of0 : Nat → Int32), q + m = 256 → m < nf → TabI n G L R nx κ q sure ris fal cap → ∃ l' s' sure' ris' fal' cap' of', f_X3_fitTo_L49 N inputs gates paths kinds lefts rights nexts links starts J nf (nI q) l0 s0 sure ris fal cap of0 = J l' s' sure' ris' fal' cap' of' ∧ TabI n G L R nx κ 256 sure' ris' fal' cap' := by
  have hn := hC.1
  have h24 : 2 ^ n ≤ 16 := Nat.le_trans (Nat.pow_le_pow_right (by decide) hn) (by decide)
  intro m
  induction m with
  | zero =>
    intro q nf l0 s0 sure ris fal cap of0 hq hnf hT
    obtain ⟨nf, rfl⟩ : ∃ z, nf = z + 1 := ⟨nf - 1, by omega⟩
    obtain rfl : q = 256 := by omega
    refine ⟨l0, s0, sure, ris, fal, cap, of0, ?_, hT⟩
    rw [f_X3_fitTo_L49, if_pos (show (256 : Int32) ≤ nI 256 from le_t (a := 256) (Nat.le_refl _) (by decide))]
  | succ m ih =>
    intro q nf l0 s0 sure ris fal cap of0 hq hnf hT
    obtain ⟨nf, rfl⟩ : ∃ z, nf = z + 1 := ⟨nf - 1, by omega⟩
    obtain ⟨sure', ris', fal', l', s', cap', of', h0, h1, h2, h3, h4⟩ := makeRow_eq hN hC hκ hnx hNC hK hPC (show q < 256 by omega) l0 s0 sure ris fal cap of0
    obtain ⟨t1, t2, t3⟩ := hT
    rw [f_X3_fitTo_L49, if_neg (show ¬ (256 : Int32) ≤ nI q from le_f (a := 256) (by omega) (by decide)), h0]
    simp only [obd7, bnd, nI_1]
    refine ih (q + 1) nf l' s' sure' ris' fal' cap' of' (by omega) (by omega) ⟨fun pair hp hok => ?_, fun pair hp hok => ?_, fun pat hpat hp => ?_⟩
    · by_cases e : pair = q
      · subst e
        exact h2 hok
      · obtain ⟨z1, z2, z3⟩ := h1 pair e
        rw [z1, z2, z3]
        exact t1 pair (by omega) hok
    · by_cases e : pair = q
      · subst e
        exact h3 hok
      · obtain ⟨z1, z2, z3⟩ := h1 pair e
        rw [z1, z2, z3]
        exact t2 pair (by omega) hok
    · by_cases e : q = 17 * pat
      · exact (h4 pat (by omega)).1 e ⟨by omega, by omega, by omega⟩
      · rw [(h4 pat (by omega)).2 e]
        exact t3 pat hpat (by omega)
/-- fitTo: the table speaks of the kinds that it is given -/
theorem fitTo_eq {N : Nat} (hN : 1000 ≤ N) (hC : Circ n G L R nt) (hκ : KOk G nt κ) (hnx : ∀ i, i < n → Sg n G (nx i)) {inputs gates paths : Int32} {lefts rights nexts kinds starts sizes steps links : Nat → Int32} (hNC : NetC n G L R nx nt inputs gates lefts rights nexts) (hK : ∀ g, g < G → kinds g = nI (κ g)) (hPC : PathC G L R (PL n G L R) paths starts sizes steps links) {mf : Int32} {sure : Nat → Int32} {ris fal : Nat → Int64} {cap : Nat → Int32} (l0 s0 : Int32) (of0 : Nat → Int32) (hT : RTab n G L R nx nt mf sure ris fal cap) : ∃ mf' l' s' sure' ris' fal' cap' of', f_X3_fitTo N inputs gates paths mf kinds l0 s0 sure ris fal lefts rights nexts cap links starts of0 = some (mf', l', s', sure', ris', fal', cap', of') ∧ TabOf n G L R nx κ sure' ris' fal' cap' ∧ RTab n G L R nx nt mf' sure' ris' fal' cap' := by
  have hn := hC.1
  have hG := hC.2.1
  have h24 : 2 ^ n ≤ 16 := Nat.le_trans (Nat.pow_le_pow_right (by decide) hn) (by decide)
  have hκ4 : ∀ g, g < G → κ g ≤ 4 := fun g h => (hκ g h).1
  have hpk := pkK_lt hκ4 G (Nat.le_refl _)
  have h88 := pow8_8 hG
  obtain ⟨e1, e2, e3, e4⟩ := id hNC
  subst e2
  have key : ∀ J : Int32 → Option (Int32 × Int32 × Int32 × (Nat → Int32) × (Nat → Int64) × (Nat → Int64) × (Nat → Int32) × (Nat → Int32)), f_X3_fitTo_L5 N (nI G) kinds J N 0 0 = J (nI (pkK κ G)) := by
    intro J
    exact forL (fun nf q s => f_X3_fitTo_L5 N (nI G) kinds J nf s (nI q)) G (fun q => nI (pkK κ q)) (J (nI (pkK κ G))) (fun nf => by
      rw [f_X3_fitTo_L5, if_pos (le_t (Nat.le_refl _) (by omega))]) (fun q nf hq => by
      have hl := pkK_lt hκ4 q (by omega)
      rw [p8] at hl
      rw [f_X3_fitTo_L5, if_neg (le_f hq (by omega)), grd_nI (show q < 8 by omega) (by decide), nI_clamp (show q < 2 ^ 31 by omega), hK q hq, sh3_tab _ (by have := hκ4 q hq; omega) q (by omega), or_mul hl]
      simp only [bnd, nI_1]
      rw [pkK, p8]) G 0 N (by omega) (by omega)
  have build : ∃ mf' l' s' sure' ris' fal' cap' of', f_X3_fitTo_L49 N inputs (nI G) paths kinds lefts rights nexts links starts (fun l' s' sure' ris' fal' cap' of' => some (nI (pkK κ G), l', s', sure', ris', fal', cap', of')) N 0 l0 s0 sure ris fal cap of0 = some (mf', l', s', sure', ris', fal', cap', of') ∧ TabOf n G L R nx κ sure' ris' fal' cap' ∧ RTab n G L R nx nt mf' sure' ris' fal' cap' := by
    obtain ⟨l', s', sure', ris', fal', cap', of', h1, t1, t2, t3⟩ := fit_L hN hC hκ hnx hNC hK hPC (fun l' s' sure' ris' fal' cap' of' => some (nI (pkK κ G), l', s', sure', ris', fal', cap', of')) 256 0 N l0 s0 sure ris fal cap of0 (by omega) (by omega) ⟨fun _ h => absurd h (Nat.not_lt_zero _), fun _ h => absurd h (Nat.not_lt_zero _), fun _ _ h => absurd h (Nat.not_lt_zero _)⟩
    have hTab : TabOf n G L R nx κ sure' ris' fal' cap' := ⟨fun pair hok => t1 pair hok.1 hok, t2, fun pat hpat => t3 pat hpat (by omega)⟩
    exact ⟨_, l', s', sure', ris', fal', cap', of', h1, hTab, Or.inr ⟨κ, hκ, rfl, hTab⟩⟩
  rw [f_X3_fitTo]
  simp only [bnd]
  rw [key]
  rcases id hT with hm | ⟨κ', k1, k2, k3⟩
  · have hne : ¬ nI (pkK κ G) = mf := by
      rw [hm, fa_eq, nI_toInt (by omega), show (-1 : Int32).toInt = -1 from rfl]
      omega
    rw [if_neg hne]
    exact build
  · by_cases he : nI (pkK κ G) = mf
    · rw [if_pos he]
      have hκ4' : ∀ g, g < G → κ' g ≤ 4 := fun g h => (k1 g h).1
      have hpk' := pkK_lt hκ4' G (Nat.le_refl _)
      rw [k2, nI_eq (by omega) (by omega)] at he
      have hc := pkK_inj hκ4' hκ4 G (Nat.le_refl _) he.symm
      exact ⟨_, _, _, _, _, _, _, _, rfl, TabOf_cong hc k3, hT⟩
    · rw [if_neg he]
      exact build
end MR
