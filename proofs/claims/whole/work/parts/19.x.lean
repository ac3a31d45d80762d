-- best, count
def pvN (n G : Nat) (L R κ : Nat → Nat) (pair to p : Nat) : Bool := okB n pair && prv G L R κ (PL n G L R) pair to p
theorem bsum_cong {f g : Nat → Bool} : ∀ {m : Nat}, (∀ p, p < m → f p = g p) → bsum f m = bsum g m
  | 0, _ => rfl
  | m + 1, h => by
    rw [bsum, bsum, bsum_cong (fun p hp => h p (by omega)), h m (by omega)]
theorem bsum_0 : ∀ m, bsum (fun _ => false) m = 0
  | 0 => rfl
  | m + 1 => by
    rw [bsum, bsum_0 m]
    rfl
theorem bsum_or (f g : Nat → Bool) (m : Nat) : bsum f m ||| bsum g m = bsum (fun p => f p || g p) m := by
  apply Nat.eq_of_testBit_eq
  intro j
  rw [Nat.testBit_or, bsum_tb, bsum_tb, bsum_tb]
  cases decide (j < m) <;> cases f j <;> cases g j <;> rfl
theorem bsum_62 (f : Nat → Bool) {m : Nat} (hm : m ≤ 55) : bsum f m < 2 ^ 55 := Nat.lt_of_lt_of_le (bsum_lt f m) (Nat.pow_le_pow_right (by decide) hm)
def anyB (f : Nat → Bool) : Nat → Bool
  | 0 => false
  | q + 1 => anyB f q || f q
theorem anyB_ct (f : Nat → Bool) : ∀ q, anyB f q = decide (0 < ctB f q)
  | 0 => rfl
  | q + 1 => by
    rw [anyB, ctB, anyB_ct f q]
    cases f q with
    | false => simp
    | true => simp
theorem anyB_iff {f : Nat → Bool} : ∀ {q : Nat}, anyB f q = true ↔ ∃ z, z < q ∧ f z = true
  | 0 => by
    constructor
    · intro h
      exact Bool.noConfusion (show false = true from h)
    · intro ⟨z, h, _⟩
      omega
  | q + 1 => by
    rw [anyB, Bool.or_eq_true, anyB_iff]
    constructor
    · intro h
      rcases h with ⟨z, h1, h2⟩ | h
      · exact ⟨z, by omega, h2⟩
      · exact ⟨q, by omega, h⟩
    · intro ⟨z, h1, h2⟩
      rcases Nat.lt_or_ge z q with w | w
      · exact Or.inl ⟨z, w, h2⟩
      · have : z = q := by omega
        subst this
        exact Or.inr h2
section BE
variable {n G : Nat} {L R nx κ : Nat → Nat} {nt : Nat → Bool}
theorem tab_rf {sure : Nat → Int32} {ris fal : Nat → Int64} {cap : Nat → Int32} (hT : TabOf n G L R nx κ sure ris fal cap) {pair : Nat} (hp : pair < 256) : ris pair = lN (bsum (pvN n G L R κ pair 1) (PL n G L R).length) ∧ fal pair = lN (bsum (pvN n G L R κ pair 0) (PL n G L R).length) := by
  cases hok : okB n pair with
  | true =>
    obtain ⟨-, h1, h2⟩ := hT.1 pair ((okB_iff hp).mp hok)
    have e : ∀ to, pvN n G L R κ pair to = prv G L R κ (PL n G L R) pair to := by
      intro to
      funext p
      unfold pvN
      rw [hok, Bool.true_and]
    rw [e, e]
    exact ⟨h1, h2⟩
  | false =>
    obtain ⟨-, h1, h2⟩ := hT.2.1 pair hp (fun z => by
      have := (okB_iff hp).mpr z
      rw [hok] at this
      cases this)
    have e : ∀ to, pvN n G L R κ pair to = fun _ => false := by
      intro to
      funext p
      unfold pvN
      rw [hok, Bool.false_and]
    rw [e, e, bsum_0, h1, h2]
    exact ⟨rfl, rfl⟩
theorem prvC {N : Nat} {sure : Nat → Int32} {ris fal : Nat → Int64} {cap : Nat → Int32} (hT : TabOf n G L R nx κ sure ris fal cap) (h55 : (PL n G L R).length ≤ 55) {pair to p : Nat} (hp : pair < 256) (hto : to < 2) (hpl : p < (PL n G L R).length) : f_X3_provesPath N (nI pair) (nI p) (nI to) fal ris = some (zI (pvN n G L R κ pair to p)) := by
  obtain ⟨h1, h2⟩ := tab_rf hT hp
  have cmp_tab : ∀ b, b < 2 → (lg_cmp (lN b) 1 = 0 ↔ b = 1) := by decide
  have key : ∀ f : Nat → Bool, (if lg_cmp ((lN (bsum f (PL n G L R).length) >>> ((nI p).toInt64 &&& 63)) &&& 1) 1 = 0 then some (1 : Int32) else some 0) = some (zI (f p)) := by
    intro f
    have hb := bsum_62 f h55
    have hD : ((lN p).toBitVec.smod 64).toNat = p := by
      rw [wb_tb, wb_sm p (by omega), BitVec.toNat_ofNat, Nat.mod_eq_of_lt (by omega)]
    rw [wb_c p (by omega), pf_shr hD (by omega), wb_a1 (Nat.lt_of_le_of_lt (Nat.div_le_self _ _) (by omega))]
    have ht := bsum_tb f p (PL n G L R).length
    rw [decide_eq_true hpl, Bool.true_and] at ht
    cases hf : f p with
    | true =>
      rw [hf] at ht
      rw [(tb_iff _ _).mp ht, if_pos ((cmp_tab 1 (by decide)).mpr rfl)]
      rfl
    | false =>
      rw [hf] at ht
      rw [(tb_iff0 _ _).mp ht, if_neg (fun z => by have := (cmp_tab 0 (by decide)).mp z; omega)]
      rfl
  rw [f_X3_provesPath]
  simp only [bnd, grd_nI hp (show 256 ≤ 2 ^ 31 by decide), nI_clamp (show pair < 2 ^ 31 by omega), h1, h2]
  rcases (show to = 0 ∨ to = 1 by omega) with rfl | rfl
  · rw [if_neg (show ¬ nI 0 = 1 by decide)]
    exact key _
  · rw [if_pos (show nI 1 = 1 from rfl)]
    exact key _
theorem fit_pv {i set rises how pair p : Nat} (hel : (PL n G L R)[p]? = some (i, set)) : fitN n G L R nx κ i set rises how pair = (pvN n G L R κ pair rises p && lauN G L R nx κ how pair n) := by
  unfold fitN pvN prv
  rw [hel]
  try dsimp only
  cases okB n pair <;> cases decide (bitN (pair % 16) i = rises) <;> cases lauN G L R nx κ how pair n <;> cases decide (tst L R κ pair G i set G = 2) <;> rfl
theorem best_L {N : Nat} (hN : 1000 ≤ N) (hC : Circ n G L R nt) (hκ : KOk G nt κ) {sure : Nat → Int32} {ris fal : Nat → Int64} {cap : Nat → Int32} (hT : TabOf n G L R nx κ sure ris fal cap) (h55 : (PL n G L R).length ≤ 55) {i set rises how p : Nat} (hel : (PL n G L R)[p]? = some (i, set)) (hr : rises < 2) (hh : how ≤ 2) (J : Int32 → Int32 → Option (Int32 × Int32 × Int32 × Int32 × (Nat → Int32) × (Nat → Int64) × (Nat → Int64) × (Nat → Int32) × (Nat → Int32))) : f_X9_best_L73 N (nI p) (nI rises) (nI how) (nI n) ris fal cap J N (-9) 0 0 = J (bsF (fitN n G L R nx κ i set rises how) 256).1 (nI (bsF (fitN n G L R nx κ i set rises how) 256).2) := by
  have hpl : p < (PL n G L R).length := (List.getElem?_eq_some_iff.mp hel).1
  exact forL (fun nf q s => f_X9_best_L73 N (nI p) (nI rises) (nI how) (nI n) ris fal cap J nf s.1 (nI s.2) (nI q)) 256 (fun q => bsF (fitN n G L R nx κ i set rises how) q) (J (bsF (fitN n G L R nx κ i set rises how) 256).1 (nI (bsF (fitN n G L R nx κ i set rises how) 256).2)) (fun nf => by
    try dsimp only
    rw [f_X9_best_L73, if_pos (show (256 : Int32) ≤ nI 256 from le_t (a := 256) (Nat.le_refl _) (by decide))]) (fun q nf hq => by
    have hle := bsF_le (fitN n G L R nx κ i set rises how) q
    have hf := fit_pv (nx := nx) (κ := κ) (rises := rises) (how := how) (pair := q) hel
    try dsimp only
    rw [f_X9_best_L73, if_neg (show ¬ (256 : Int32) ≤ nI q from le_f (a := 256) (by omega) (by decide)), prvC hT h55 hq hr hpl]
    simp only [obd1, bnd, nI_1, zI_0]
    rw [bsF]
    cases hv : pvN n G L R κ q rises p with
    | false =>
      rw [hv, Bool.false_and] at hf
      rw [if_pos rfl, hf]
      rfl
    | true =>
      rw [hv, Bool.true_and] at hf
      have hok : okPair n q := (okB_iff hq).mp (by
        unfold pvN at hv
        rw [Bool.and_eq_true] at hv
        exact hv.1)
      rw [if_neg (by decide), lauC hC hκ hT hh hok, hf]
      simp only [zI_0]
      cases lauN G L R nx κ how q n with
      | false => rw [if_pos rfl]; rfl
      | true =>
        rw [if_neg (by decide)]
        show _ = f_X9_best_L73 N (nI p) (nI rises) (nI how) (nI n) ris fal cap J nf (if (bsF (fitN n G L R nx κ i set rises how) q).2 = 0 then nI q else (bsF (fitN n G L R nx κ i set rises how) q).1) (nI ((bsF (fitN n G L R nx κ i set rises how) q).2 + 1)) (nI (q + 1))
        by_cases hz : (bsF (fitN n G L R nx κ i set rises how) q).2 = 0
        · rw [if_pos ((c0 (by omega)).mpr hz), if_pos hz]
        · rw [if_neg (fun z => hz ((c0 (by omega)).mp z)), if_neg hz]) 256 0 N (by omega) (by omega)
end BE
theorem M0 {G : Nat} {κ d : Nat → Nat} {now : Nat → Int32} (h : SetM G κ d now 0) : ∀ g, g < G → now (16 * 0 + g) = nI (κ g) := fun g hg => by
  have := (h g hg).1
  rw [Nat.zero_add] at this
  rw [Nat.mul_zero, Nat.zero_add]
  exact this
theorem sm_best {N : Nat} (hN : 1000 ≤ N) (y1 y2 y3 y4 : Int32) {n G : Nat} {L R nx : Nat → Nat} {nt : Nat → Bool} {κ d : Nat → Nat} {i1 i2 i3 : Int32} {a1 a2 a3 a4 a5 a6 a7 : Nat → Int32} {j1 j2 j3 : Int32} {b1 b2 b3 b4 b5 : Nat → Int32} {kinds delays now : Nat → Int32} {mf : Int32} {sure : Nat → Int32} {ris fal : Nat → Int64} {cap : Nat → Int32} (l0 s0 : Int32) (of0 bf af va : Nat → Int32) (hNet : RNet n G L R nx nt i1 i2 i3 a1 a2 a3 a4 a5 a6 a7 j1 j2 j3 b1 b2 b3 b4 b5) (hNow : RNow G nt κ d kinds delays now) (hTab : RTab n G L R nx nt mf sure ris fal cap) :
    ∃ r mf' l' s' sure' ris' fal' cap' of' bf' af' va', f_X9_best N y1 y2 y3 y4 i1 i2 i3 mf l0 s0 kinds sure ris fal a1 a2 a3 cap a7 a4 of0 = some (r, mf', l', s', sure', ris', fal', cap', of') ∧ f_X10_best N y1 y2 y3 y4 j1 j2 j3 b4 b5 now b2 b1 bf af va b3 = some (r, bf', af', va') ∧ RTab n G L R nx nt mf' sure' ris' fal' cap' := by
  obtain ⟨hn, hG, rfl, rfl, rfl, rfl⟩ := hNet.c
  obtain ⟨hC, hnx, hNC, hNM, hPC, hPM⟩ := hNet
  have e3 := hPC.1
  have f3 := hPM.1
  have h55 := hPC.2.1
  subst e3
  subst f3
  have e0 : (0 : Int32).toInt = 0 := rfl
  have e1 : (1 : Int32).toInt = 1 := rfl
  have e2 : (2 : Int32).toInt = 2 := rfl
  have g0 : (0 : Int64).toInt = 0 := rfl
  have g1 : (1 : Int64).toInt = 1 := rfl
  have g2 : (2 : Int64).toInt = 2 := rfl
  rw [f_X9_best, f_X10_best, hasPath_eq N y1 (by omega), isPath_eq N y1 (by omega)]
  simp only [obd1, in_spec, Int32.toInt_toInt64, g0, g1, g2, zo0, fa_lt, fa_le, e0, e1, e2]
  by_cases hz : gz y1 (PL n G L R).length = 0
  · rw [if_pos hz, if_pos hz]
    exact ⟨_, _, _, _, _, _, _, _, _, _, _, _, rfl, rfl, hTab⟩
  rw [if_neg hz, if_neg hz]
  by_cases c1 : y2.toInt < 0
  · rw [if_pos c1, if_pos (show ¬ (0 ≤ y2.toInt ∧ y2.toInt ≤ 1) by omega)]
    exact ⟨_, _, _, _, _, _, _, _, _, _, _, _, rfl, rfl, hTab⟩
  rw [if_neg c1]
  by_cases c2 : 1 < y2.toInt
  · rw [if_pos c2, if_pos (show ¬ (0 ≤ y2.toInt ∧ y2.toInt ≤ 1) by omega)]
    exact ⟨_, _, _, _, _, _, _, _, _, _, _, _, rfl, rfl, hTab⟩
  rw [if_neg c2, if_neg (show ¬ ¬ (0 ≤ y2.toInt ∧ y2.toInt ≤ 1) by omega)]
  by_cases c3 : y3.toInt < 0
  · rw [if_pos c3, if_pos (show ¬ (0 ≤ y3.toInt ∧ y3.toInt ≤ 2) by omega)]
    exact ⟨_, _, _, _, _, _, _, _, _, _, _, _, rfl, rfl, hTab⟩
  rw [if_neg c3]
  by_cases c4 : 2 < y3.toInt
  · rw [if_pos c4, if_pos (show ¬ (0 ≤ y3.toInt ∧ y3.toInt ≤ 2) by omega)]
    exact ⟨_, _, _, _, _, _, _, _, _, _, _, _, rfl, rfl, hTab⟩
  rw [if_neg c4, if_neg (show ¬ ¬ (0 ≤ y3.toInt ∧ y3.toInt ≤ 2) by omega)]
  by_cases c5 : y4.toInt < 0
  · rw [if_pos c5, if_pos (show ¬ (0 ≤ y4.toInt ∧ y4.toInt ≤ 1) by omega)]
    exact ⟨_, _, _, _, _, _, _, _, _, _, _, _, rfl, rfl, hTab⟩
  rw [if_neg c5]
  by_cases c6 : y4.toInt ≤ 1
  · rw [if_pos c6, if_neg (show ¬ ¬ (0 ≤ y4.toInt ∧ y4.toInt ≤ 1) by omega)]
    obtain ⟨p, hp, rfl⟩ := gz_in (by omega) hz
    obtain ⟨rises, hr, rfl⟩ := nI_of_rng (y := y2) (n := 2) (by omega) (by omega) (by decide)
    obtain ⟨how, hh, rfl⟩ := nI_of_rng (y := y3) (n := 3) (by omega) (by omega) (by decide)
    obtain ⟨⟨i, set⟩, hel⟩ : ∃ x, (PL n G L R)[p]? = some x := ⟨_, List.getElem?_eq_getElem hp⟩
    obtain ⟨hi, hset, -, hfl⟩ := PL_in hel
    obtain ⟨m1, m2⟩ := hPM.2.2 p i set hel
    obtain ⟨mf', l', s', sure', ris', fal', cap', of', hf1, hf2, hf3⟩ := fitTo_eq hN hC hNow.1.1 hnx hNC (fun g h => (hNow.2.1 g h).1) hPC l0 s0 of0 hTab
    obtain ⟨bf', af', va', hb⟩ := bestOn_eq hN hC hNow.1.1 hnx hNM (lv := 0) (by decide) (M0 hNow.2.2) (rises := rises) (how := how) hi hset hfl hr (by omega) y4 bf af va
    have hb' : f_X10_bestOn N 0 (nI i) (nI set) (nI rises) (nI how) y4 (nI n) (nI G) now b2 b1 bf af va b3 = _ := hb
    rw [hf1, grd_nI (show p < 64 by omega) (by decide), grd_nI (show p < 64 by omega) (by decide), nI_clamp (show p < 2 ^ 31 by omega), m1, m2, hb']
    simp only [obd8, obd4, bnd]
    rw [best_L hN hC hNow.1.1 hf2 h55 hel hr (show how ≤ 2 by omega)]
    by_cases hy : y4 = 0
    · rw [if_pos hy, if_pos hy]
      exact ⟨_, _, _, _, _, _, _, _, _, _, _, _, rfl, rfl, hf3⟩
    · rw [if_neg hy, if_neg hy]
      exact ⟨_, _, _, _, _, _, _, _, _, _, _, _, rfl, rfl, hf3⟩
  · rw [if_neg c6, if_pos (show ¬ (0 ≤ y4.toInt ∧ y4.toInt ≤ 1) by omega)]
    exact ⟨_, _, _, _, _, _, _, _, _, _, _, _, rfl, rfl, hTab⟩
-- count
section CT
variable {n G : Nat} {L R nx κ : Nat → Nat} {nt : Nat → Bool}
theorem ct_twice (f : Nat → Nat → Bool) : ∀ m, ctB (fun q => f (q % 2) (q / 2)) (2 * m) = ctB (f 1) m + ctB (f 0) m
  | 0 => rfl
  | m + 1 => by
    rw [show 2 * (m + 1) = 2 * m + 1 + 1 by omega, ctB, ctB, ct_twice f m, ctB, ctB]
    try dsimp only
    rw [show (2 * m + 1) % 2 = 1 by omega, show (2 * m + 1) / 2 = m by omega, show 2 * m % 2 = 0 by omega, show 2 * m / 2 = m by omega]
    omega
def avN (n G : Nat) (L R κ : Nat → Nat) (to p : Nat) : Bool := anyB (fun pair => pvN n G L R κ pair to p) 256
theorem provC {N : Nat} (hN : 1000 ≤ N) {sure : Nat → Int32} {ris fal : Nat → Int64} {cap : Nat → Int32} (hT : TabOf n G L R nx κ sure ris fal cap) (h55 : (PL n G L R).length ≤ 55) : f_X3_provenPaths N ris fal = some (nI (ctB (avN n G L R κ 1) (PL n G L R).length + ctB (avN n G L R κ 0) (PL n G L R).length)) := by
  rw [f_X3_provenPaths]
  simp only [bnd]
  have e := forL (fun nf q s => f_X3_provenPaths_L7 N ris fal (fun x1 x3 => obd1 (f_J13_bitCount_95d88 N x1) fun r3 => obd1 (f_J13_bitCount_95d88 N x3) fun r4 => some (r3 + r4)) nf s.1 s.2 (nI q)) 256 (fun q => (lN (bsum (fun p => anyB (fun pair => pvN n G L R κ pair 1 p) q) (PL n G L R).length), lN (bsum (fun p => anyB (fun pair => pvN n G L R κ pair 0 p) q) (PL n G L R).length))) (some (nI (ctB (avN n G L R κ 1) (PL n G L R).length + ctB (avN n G L R κ 0) (PL n G L R).length))) (fun nf => by
    try dsimp only
    rw [f_X3_provenPaths_L7, if_pos (show (256 : Int32) ≤ nI 256 from le_t (a := 256) (Nat.le_refl _) (by decide)), bitCount_eq N (Nat.lt_trans (bsum_62 _ h55) (by decide)), bitCount_eq N (Nat.lt_trans (bsum_62 _ h55) (by decide)), ones_bsum (by omega), ones_bsum (by omega)]
    simp only [obd1]
    rw [nI_add]
    rfl) (fun q nf hq => by
    obtain ⟨h1, h2⟩ := tab_rf hT hq
    try dsimp only
    rw [f_X3_provenPaths_L7, if_neg (show ¬ (256 : Int32) ≤ nI q from le_f (a := 256) (by omega) (by decide)), grd_nI hq (by decide), nI_clamp (show q < 2 ^ 31 by omega), h1, h2]
    simp only [bnd, grd_nI hq (show 256 ≤ 2 ^ 31 by decide), nI_1]
    rw [wb_or (Nat.lt_trans (bsum_62 _ h55) (by decide)) (Nat.lt_trans (bsum_62 _ h55) (by decide)), wb_or (Nat.lt_trans (bsum_62 _ h55) (by decide)) (Nat.lt_trans (bsum_62 _ h55) (by decide)), bsum_or, bsum_or]
    rfl) 256 0 N (by omega) (by omega)
  have e0 : lN (bsum (fun p => anyB (fun pair => pvN n G L R κ pair 1 p) 0) (PL n G L R).length) = 0 := by
    show lN (bsum (fun _ => false) _) = 0
    rw [bsum_0]
    rfl
  have e1 : lN (bsum (fun p => anyB (fun pair => pvN n G L R κ pair 0 p) 0) (PL n G L R).length) = 0 := by
    show lN (bsum (fun _ => false) _) = 0
    rw [bsum_0]
    rfl
  try dsimp only at e
  rw [e0, e1] at e
  exact e
theorem fit_any {i set to p : Nat} (hel : (PL n G L R)[p]? = some (i, set)) : decide (0 < (bsF (fitN n G L R nx κ i set to 0) 256).2) = avN n G L R κ to p := by
  rw [bsF_ct, ← anyB_ct]
  unfold avN
  refine congrArg (fun f => anyB f 256) ?_
  funext pair
  rw [fit_pv hel, lau_0, Bool.and_true]
theorem sure_L {N : Nat} (hN : 1000 ≤ N) (hC : Circ n G L R nt) (hκ : KOk G nt κ) (hnx : ∀ i, i < n → Sg n G (nx i)) {inputs gates mp : Int32} {one other next now pin pga : Nat → Int32} (hNM : NetM n G L R nx nt inputs gates one other next) (hK : ∀ g, g < G → now (16 * 0 + g) = nI (κ g)) (hPM : PathM (PL n G L R) mp pin pga) (J : Int32 → (Nat → Int32) → (Nat → Int32) → (Nat → Int32) → Option (Int32 × (Nat → Int32) × (Nat → Int32) × (Nat → Int32))) : ∀ (m q nf : Nat) (bf af va : Nat → Int32), q + m = 2 * (PL n G L R).length → m < nf → ∃ bf' af' va', f_X10_surelyTested_L4 N inputs gates mp pin pga now other one next J nf (nI (ctB (fun q => avN n G L R κ (q % 2) (q / 2)) q)) (nI q) bf af va = J (nI (ctB (fun q => avN n G L R κ (q % 2) (q / 2)) (2 * (PL n G L R).length))) bf' af' va' := by
  obtain ⟨e1, h55, hP⟩ := hPM
  subst e1
  intro m
  induction m with
  | zero =>
    intro q nf bf af va hq hnf
    obtain ⟨nf, rfl⟩ : ∃ z, nf = z + 1 := ⟨nf - 1, by omega⟩
    obtain rfl : q = 2 * (PL n G L R).length := by omega
    refine ⟨bf, af, va, ?_⟩
    rw [f_X10_surelyTested_L4, show (2 : Int32) * nI (PL n G L R).length = nI (2 * (PL n G L R).length) from pk_mul 2 _, if_pos (le_t (Nat.le_refl _) (by omega))]
  | succ m ih =>
    intro q nf bf af va hq hnf
    obtain ⟨nf, rfl⟩ : ∃ z, nf = z + 1 := ⟨nf - 1, by omega⟩
    have hpl : q / 2 < (PL n G L R).length := by omega
    obtain ⟨⟨i, set⟩, hel⟩ : ∃ x, (PL n G L R)[q / 2]? = some x := ⟨_, List.getElem?_eq_getElem hpl⟩
    obtain ⟨hi, hset, -, hfl⟩ := PL_in hel
    obtain ⟨m1, m2⟩ := hP (q / 2) i set hel
    obtain ⟨b', a', v', hb⟩ := bestOn_eq hN hC hκ hnx hNM (lv := 0) (by decide) hK (rises := q % 2) (how := 0) hi hset hfl (by omega) (by decide) 1 bf af va
    rw [if_neg one_ne] at hb
    have hb' : f_X10_bestOn N 0 (nI i) (nI set) (nI (q % 2)) 0 1 inputs gates now other one bf af va next = _ := hb
    have hle := bsF_le (fitN n G L R nx κ i set (q % 2) 0) 256
    have hav := fit_any (nx := nx) (κ := κ) (to := q % 2) hel
    rw [f_X10_surelyTested_L4, show (2 : Int32) * nI (PL n G L R).length = nI (2 * (PL n G L R).length) from pk_mul 2 _, if_neg (le_f (by omega) (by omega)), show nI q / (2 : Int32) = nI (q / 2) from pk_div (d := 2) (by omega) (by decide) (by decide)]
    have hrem : nI q - nI (q / 2) * (2 : Int32) = nI (q % 2) := by
      have z := pk_rem (a := q) (d := 2) (by omega) (by decide) (by decide)
      rw [pk_div (by omega) (by decide) (by decide)] at z
      exact z
    rw [hrem, grd_nI (show q / 2 < 64 by omega) (by decide), grd_nI (show q / 2 < 64 by omega) (by decide), nI_clamp (show q / 2 < 2 ^ 31 by omega), m1, m2, hb']
    simp only [obd4, bnd, nI_1]
    obtain ⟨b'', a'', v'', he⟩ := ih (q + 1) nf b' a' v' (by omega) (by omega)
    refine ⟨b'', a'', v'', ?_⟩
    rw [← he, ctB]
    try dsimp only
    rw [← hav]
    by_cases hz : 0 < (bsF (fitN n G L R nx κ i set (q % 2) 0) 256).2
    · rw [if_neg (show ¬ nI _ ≤ (0 : Int32) from le_f (b := 0) hz (by omega)), decide_eq_true hz, if_pos rfl]
    · rw [if_pos (show nI _ ≤ (0 : Int32) from le_t (b := 0) (by omega) (by decide)), decide_eq_false hz, if_neg (by decide), Int32.add_zero]
      rfl
end CT
def dsm (d : Nat → Nat) : Nat → Nat
  | 0 => 0
  | g + 1 => dsm d g + d g
theorem sm_count {N : Nat} (hN : 1000 ≤ N) (y1 : Int32) {n G : Nat} {L R nx : Nat → Nat} {nt : Nat → Bool} {κ d : Nat → Nat} {i1 i2 i3 : Int32} {a1 a2 a3 a4 a5 a6 a7 : Nat → Int32} {j1 j2 j3 : Int32} {b1 b2 b3 b4 b5 : Nat → Int32} {kinds delays now : Nat → Int32} {mf : Int32} {sure : Nat → Int32} {ris fal : Nat → Int64} {cap : Nat → Int32} {tsz tlen asz aac ssz sse : Int32} (l0 s0 : Int32) (of0 bf af va : Nat → Int32) (ht : tsz = tlen) (ha : asz = aac) (hs : ssz = sse) (hNet : RNet n G L R nx nt i1 i2 i3 a1 a2 a3 a4 a5 a6 a7 j1 j2 j3 b1 b2 b3 b4 b5) (hNow : RNow G nt κ d kinds delays now) (hTab : RTab n G L R nx nt mf sure ris fal cap) :
    ∃ r mf' l' s' sure' ris' fal' cap' of' bf' af' va', f_X9_count N y1 tsz i1 i2 i3 mf asz ssz l0 s0 kinds sure ris fal a1 a2 a3 cap a7 a4 delays of0 = some (r, mf', l', s', sure', ris', fal', cap', of') ∧ f_X10_count N y1 j1 j2 tlen j3 aac sse b4 b5 now b2 b1 bf af va b3 = some (r, bf', af', va') ∧ RTab n G L R nx nt mf' sure' ris' fal' cap' := by
  subst ht
  subst ha
  subst hs
  obtain ⟨hn, hG, rfl, rfl, rfl, rfl⟩ := hNet.c
  obtain ⟨hC, hnx, hNC, hNM, hPC, hPM⟩ := hNet
  have e3 := hPC.1
  have f3 := hPM.1
  have h55 := hPC.2.1
  subst e3
  subst f3
  have g8 : (8 : Int64).toInt = 8 := rfl
  have g11 : (11 : Int64).toInt = 11 := rfl
  rw [f_X9_count, f_X10_count, in_spec, Int32.toInt_toInt64, g8, g11]
  simp only [obd1, zo0]
  by_cases h8 : 8 ≤ y1.toInt ∧ y1.toInt ≤ 11
  · rw [if_neg (show ¬ ¬ (8 ≤ y1.toInt ∧ y1.toInt ≤ 11) from fun z => z h8)]
    obtain ⟨k, hk, rfl⟩ := nI_of_rng (y := y1) (n := 12) (by omega) (by omega) (by decide)
    rw [nI_toInt (by omega)] at h8
    have hk8 : nI k - 8 = nI (k - 8) := pk_sub (b := 8) (by omega)
    have hne : ∀ j, j < 8 → ¬ nI k = nI j := fun j hj z => by
      have := (nI_eq (by omega) (by omega)).mp z
      omega
    rw [if_neg (show ¬ nI k = 0 from hne 0 (by decide)), if_neg (show ¬ nI k = 1 from hne 1 (by decide)), if_neg (show ¬ nI k = 2 from hne 2 (by decide)), if_neg (show ¬ nI k = 3 from hne 3 (by decide)), if_neg (show ¬ nI k = 4 from hne 4 (by decide)), if_neg (show ¬ nI k = 5 from hne 5 (by decide)), if_neg (show ¬ nI k = 6 from hne 6 (by decide)), if_neg (show ¬ nI k = 7 from hne 7 (by decide)), hk8]
    have same : ∀ {ρ : Type} (X Y : ρ), (if nI k = 8 then X else if nI k = 9 then X else if nI k = 10 then X else if nI k = 11 then X else Y) = X := by
      intro ρ X Y
      rcases (show k = 8 ∨ k = 9 ∨ k = 10 ∨ k = 11 by omega) with rfl | rfl | rfl | rfl <;> rfl
    rw [same]
    by_cases hin : n ≤ k - 8
    · rw [if_pos (le_t hin (by omega)), if_pos (le_t hin (by omega))]
      exact ⟨_, _, _, _, _, _, _, _, _, _, _, _, rfl, rfl, hTab⟩
    · have hs' := Sg_lt (hnx (k - 8) (by omega)) hn
      rw [if_neg (le_f (by omega) (by omega)), if_neg (le_f (by omega) (by omega)), grd_nI (show k - 8 < 4 by omega) (by decide), grd_nI (show k - 8 < 4 by omega) (by decide), nI_clamp (show k - 8 < 2 ^ 31 by omega), hNC.2.2.2 (k - 8) (by omega), hNM.2.2.2 (k - 8) (by omega), told_nI N (by omega)]
      exact ⟨_, _, _, _, _, _, _, _, _, _, _, _, rfl, rfl, hTab⟩
  · rw [if_pos h8]
    have hne : ∀ j : Int32, 8 ≤ j.toInt ∧ j.toInt ≤ 11 → ¬ y1 = j := fun j hj z => h8 (z ▸ hj)
    rw [if_neg (show ¬ y1 = 8 from hne 8 (by decide)), if_neg (show ¬ y1 = 9 from hne 9 (by decide)), if_neg (show ¬ y1 = 10 from hne 10 (by decide)), if_neg (show ¬ y1 = 11 from hne 11 (by decide))]
    by_cases q0 : y1 = 0
    · rw [if_pos q0, if_pos q0]
      exact ⟨_, _, _, _, _, _, _, _, _, _, _, _, rfl, rfl, hTab⟩
    rw [if_neg q0, if_neg q0]
    by_cases q1 : y1 = 1
    · rw [if_pos q1, if_pos q1]
      exact ⟨_, _, _, _, _, _, _, _, _, _, _, _, rfl, rfl, hTab⟩
    rw [if_neg q1, if_neg q1]
    by_cases q2 : y1 = 2
    · rw [if_pos q2, if_pos q2]
      exact ⟨_, _, _, _, _, _, _, _, _, _, _, _, rfl, rfl, hTab⟩
    rw [if_neg q2, if_neg q2]
    by_cases q3 : y1 = 3
    · rw [if_pos q3, if_pos q3]
      exact ⟨_, _, _, _, _, _, _, _, _, _, _, _, rfl, rfl, hTab⟩
    rw [if_neg q3, if_neg q3]
    by_cases q4 : y1 = 4
    · rw [if_pos q4, if_pos q4]
      obtain ⟨mf', l', s', sure', ris', fal', cap', of', hf1, hf2, hf3⟩ := fitTo_eq hN hC hNow.1.1 hnx hNC (fun g h => (hNow.2.1 g h).1) hPC l0 s0 of0 hTab
      obtain ⟨bf', af', va', hm⟩ := sure_L hN hC hNow.1.1 hnx hNM (M0 hNow.2.2) hPM (fun x b a v => some (x, b, a, v)) (2 * (PL n G L R).length) 0 N bf af va (by omega) (by omega)
      rw [ct_twice] at hm
      have hm' : f_X10_surelyTested_L4 N (nI n) (nI G) (nI (PL n G L R).length) b4 b5 now b2 b1 b3 (fun x b a v => some (x, b, a, v)) N 0 0 bf af va = _ := hm
      rw [hf1, f_X10_surelyTested]
      simp only [obd8, bnd]
      rw [provC hN hf2 h55, hm']
      exact ⟨_, _, _, _, _, _, _, _, _, _, _, _, rfl, rfl, hf3⟩
    rw [if_neg q4, if_neg q4]
    by_cases q5 : y1 = 5
    · rw [if_pos q5, if_pos q5]
      have d1 : f_X5_delaysTogether N (nI G) delays = some (nI (dsm d G)) := by
        rw [f_X5_delaysTogether]
        simp only [bnd]
        exact forL (fun nf q s => f_X5_delaysTogether_L4 N (nI G) delays (fun x => some x) nf s (nI q)) G (fun q => nI (dsm d q)) (some (nI (dsm d G))) (fun nf => by
          rw [f_X5_delaysTogether_L4, if_pos (le_t (Nat.le_refl _) (by omega))]) (fun q nf hq => by
          rw [f_X5_delaysTogether_L4, if_neg (le_f hq (by omega)), grd_nI (show q < 8 by omega) (by decide), nI_clamp (show q < 2 ^ 31 by omega), (hNow.2.1 q hq).2]
          simp only [bnd, nI_1, nI_add]
          rfl) G 0 N (by omega) (by omega)
      have d2 : f_X10_delays N (nI G) now = some (nI (dsm d G)) := by
        rw [f_X10_delays]
        simp only [bnd]
        exact forL (fun nf q s => f_X10_delays_L4 N (nI G) now (fun x => some x) nf s (nI q)) G (fun q => nI (dsm d q)) (some (nI (dsm d G))) (fun nf => by
          rw [f_X10_delays_L4, if_pos (le_t (Nat.le_refl _) (by omega))]) (fun q nf hq => by
          have hd := (hNow.2.2 q hq).2
          rw [Nat.zero_add] at hd
          rw [f_X10_delays_L4, if_neg (le_f hq (by omega)), show (8 : Int32) + nI q = nI (8 + q) from nI_add 8 q, grd_nI (show 8 + q < 32 by omega) (by decide), nI_clamp (show 8 + q < 2 ^ 31 by omega), hd]
          simp only [bnd, nI_1, nI_add]
          rfl) G 0 N (by omega) (by omega)
      rw [d1, d2]
      exact ⟨_, _, _, _, _, _, _, _, _, _, _, _, rfl, rfl, hTab⟩
    rw [if_neg q5, if_neg q5]
    by_cases q6 : y1 = 6
    · rw [if_pos q6, if_pos q6]
      exact ⟨_, _, _, _, _, _, _, _, _, _, _, _, rfl, rfl, hTab⟩
    rw [if_neg q6, if_neg q6]
    by_cases q7 : y1 = 7
    · rw [if_pos q7, if_pos q7]
      exact ⟨_, _, _, _, _, _, _, _, _, _, _, _, rfl, rfl, hTab⟩
    rw [if_neg q7, if_neg q7]
    exact ⟨_, _, _, _, _, _, _, _, _, _, _, _, rfl, rfl, hTab⟩
