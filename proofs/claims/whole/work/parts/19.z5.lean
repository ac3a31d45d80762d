-- judge: the row of doings
theorem lgc (x y : Int64) : lg_cmp x y < 0 ↔ x.toInt < y.toInt := by
  unfold lg_cmp
  by_cases h1 : x > y
  · rw [if_pos h1]
    have h1 := (fa_lt64 y x).mp h1
    constructor
    · intro h; exact absurd h (by decide)
    · intro h; omega
  · rw [if_neg h1]
    have h1 : ¬ y.toInt < x.toInt := fun h => h1 ((fa_lt64 y x).mpr h)
    by_cases h2 : x = y
    · rw [if_pos h2]
      subst h2
      constructor
      · intro h; exact absurd h (by decide)
      · intro h; omega
    · rw [if_neg h2]
      have h2 : ¬ x.toInt = y.toInt := fun h => h2 ((fa_eq64 x y).mpr h)
      constructor
      · intro _; omega
      · intro _; decide
theorem p4_4 {k : Nat} (h : k ≤ 4) : 10000 ^ k ≤ 10000000000000000 := Nat.le_trans (Nat.pow_le_pow_right (by decide) h) (by decide)
theorem p4_0 (k : Nat) : 0 < 10000 ^ k := Nat.pow_pos (by decide)
theorem tenM {N : Nat} (hN : 1000 ≤ N) {k : Nat} (hk : k ≤ 4) : f_X10_tenThousandTo N (nI k) = some (lN (10000 ^ k)) := by
  rw [f_X10_tenThousandTo]
  simp only [bnd]
  exact forL (fun nf q s => f_X10_tenThousandTo_L4 N (nI k) (fun x => some x) nf s (nI q)) k (fun q => lN (10000 ^ q)) (some (lN (10000 ^ k))) (fun nf => by
    rw [f_X10_tenThousandTo_L4, if_pos (le_t (Nat.le_refl _) (by omega))]) (fun q nf hq => by
    rw [f_X10_tenThousandTo_L4, if_neg (le_f hq (by omega))]
    simp only [bnd, nI_1]
    rw [show lN (10000 ^ q) * (10000 : Int64) = lN (10000 ^ q * 10000) from lN_mul _ 10000, Nat.pow_succ]) k 0 N (by omega) (by omega)
theorem mx1 {u : Nat} (h0 : 0 < u) (hu : u < 2 ^ 63) : (if (1 : Int64) < lN u then lN u else 1) = lN u := by
  by_cases h : u = 1
  · subst h
    rfl
  · rw [if_pos (show (1 : Int64) < lN u from (pk_lLT (a := 1) (by decide) hu).mpr (by omega))]
theorem fourL {w u : Nat} (hw : w < 2 ^ 63) (h0 : 0 < u) (hu : u < 2 ^ 63) : (lN w / lN u - lN w / lN u / (10000 : Int64) * 10000).toInt32 = nI (w / u % 10000) := by
  have hq : w / u < 2 ^ 63 := Nat.lt_of_le_of_lt (Nat.div_le_self _ _) hw
  rw [pk_lDiv hw h0 hu, show lN (w / u) - lN (w / u) / (10000 : Int64) * 10000 = lN (w / u % 10000) from pk_lRem (b := 10000) hq (by decide) (by decide), lN_i]
section JL
variable {n G : Nat} {L R nx κ d : Nat → Nat} {nt : Nat → Bool}
theorem judge_L {N : Nat} (hN : 1000 ≤ N) (hC : Circ n G L R nt) (hnx : ∀ i, i < n → Sg n G (nx i)) {inputs paths minputs mp : Int32} {lefts rights nexts starts sizes steps links one other next pin pga : Nat → Int32} (hNC : NetC n G L R nx nt inputs (nI G) lefts rights nexts) (hNM : NetM n G L R nx nt minputs (nI G) one other next) (hPC : PathC G L R (PL n G L R) paths starts sizes steps links) (hPM : PathM (PL n G L R) mp pin pga) {nn w : Nat} (hnn : nn ≤ 4) (hw : w < 10000 ^ nn) : ∀ (m k nfC nfM : Nat) (κt dt : Nat → Nat) (tk td now : Nat → Int32) (mf l0 s0 : Int32) (sure : Nat → Int32) (ris fal : Nat → Int64) (cap of0 bf af va : Nat → Int32), k + m = nn → m < nfC → m < nfM → RTr G nt κt dt tk td now → SetM G κ d now 0 → RTab n G L R nx nt mf sure ris fal cap →
    ∃ (r mf' : Int32) (tk' td' : Nat → Int32) (l' s' : Int32) (sure' : Nat → Int32) (ris' fal' : Nat → Int64) (cap' of' now' bf' af' va' : Nat → Int32), f_X9_judge_L69 N (nI nn) (lN w) inputs (nI G) paths sizes steps lefts rights nexts links starts (fun mf tk td l s sure ris fal cap of => some (-9, mf, tk, td, l, s, sure, ris, fal, cap, of)) nfC (lN (10000 ^ (nn - k))) (nI k) mf tk td l0 s0 sure ris fal cap of0 = some (r, mf', tk', td', l', s', sure', ris', fal', cap', of') ∧ f_X10_judge_L36 N (nI nn) (lN w) minputs (nI G) mp pga pin other one next (fun now b a v => some (-9, now, b, a, v)) nfM (nI k) now bf af va = some (r, now', bf', af', va') ∧ SetM G κ d now' 0 ∧ RTab n G L R nx nt mf' sure' ris' fal' cap' := by
  have h4 := p4_4 hnn
  intro m
  induction m with
  | zero =>
    intro k nfC nfM κt dt tk td now mf l0 s0 sure ris fal cap of0 bf af va hk hC1 hM1 hTr h0 hT
    obtain ⟨nfC, rfl⟩ : ∃ z, nfC = z + 1 := ⟨nfC - 1, by omega⟩
    obtain ⟨nfM, rfl⟩ : ∃ z, nfM = z + 1 := ⟨nfM - 1, by omega⟩
    rw [f_X9_judge_L69, f_X10_judge_L36, if_pos (le_t (by omega) (by omega)), if_pos (le_t (by omega) (by omega))]
    exact ⟨_, _, _, _, _, _, _, _, _, _, _, _, _, _, _, rfl, rfl, h0, hT⟩
  | succ m ih =>
    intro k nfC nfM κt dt tk td now mf l0 s0 sure ris fal cap of0 bf af va hk hC1 hM1 hTr h0 hT
    obtain ⟨nfC, rfl⟩ : ∃ z, nfC = z + 1 := ⟨nfC - 1, by omega⟩
    obtain ⟨nfM, rfl⟩ : ∃ z, nfM = z + 1 := ⟨nfM - 1, by omega⟩
    have hu := p4_4 (show nn - (k + 1) ≤ 4 by omega)
    have hu0 := p4_0 (nn - (k + 1))
    have hpw : 10000 ^ (nn - k) = 10000 ^ (nn - (k + 1)) * 10000 := by
      rw [← Nat.pow_succ]
      exact congrArg (10000 ^ ·) (by omega)
    have hdiv : lN (10000 ^ (nn - k)) / (10000 : Int64) = lN (10000 ^ (nn - (k + 1))) := by
      have hb := p4_4 (show nn - k ≤ 4 by omega)
      rw [show lN (10000 ^ (nn - k)) / (10000 : Int64) = lN (10000 ^ (nn - k) / 10000) from pk_lDiv (b := 10000) (by omega) (by decide) (by decide), hpw, Nat.mul_div_cancel _ (by decide)]
    have hnz : nzL (lN (10000 ^ (nn - (k + 1)))) = true := decide_eq_true (fun z => by
      have := (pk_lEQ (b := 0) (by omega) (by decide)).mp z
      omega)
    obtain ⟨v, hv, hv1⟩ : ∃ v, w / 10000 ^ (nn - (k + 1)) % 10000 = v ∧ v < 10000 := ⟨_, rfl, Nat.mod_lt _ (by decide)⟩
    have hfour := fourL (w := w) (by omega) hu0 (show 10000 ^ (nn - (k + 1)) < 2 ^ 63 by omega)
    rw [hv] at hfour
    obtain ⟨b, mf', td', tk', l', s', sure', ris', fal', cap', of', now', bf', af', va', κt', dt', e1, e2, e3, e4, e5⟩ := do_eq hN hC hnx hNC hNM hPC hPM hv1 hTr h0 l0 s0 of0 bf af va hT
    rw [f_X9_judge_L69, f_X10_judge_L36, if_neg (le_f (by omega) (by omega)), if_neg (le_f (by omega) (by omega)), hdiv, show nI nn - 1 = nI (nn - 1) from pk_sub (b := 1) (by omega), pk_sub (show k ≤ nn - 1 by omega), tenM hN (by omega), show nn - 1 - k = nn - (k + 1) by omega]
    simp only [bnd, obd1, nI_1]
    rw [mx1 hu0 (by omega), grd_t hnz, grd_t hnz, hfour, e1, d1000 (show v < 2 ^ 31 by omega), d10 (show v < 2 ^ 31 by omega), m100 (show v / 10 < 2 ^ 31 by omega), m10' (show v < 2 ^ 31 by omega), e2]
    simp only [obd11, obd5, zI_0]
    cases b with
    | false =>
      rw [if_pos rfl, if_pos rfl]
      exact ⟨_, _, _, _, _, _, _, _, _, _, _, _, _, _, _, rfl, rfl, e4, e5⟩
    | true =>
      rw [if_neg (show ¬ true = false by decide), if_neg (show ¬ true = false by decide)]
      exact ih (k + 1) nfC nfM κt' dt' tk' td' now' mf' l' s' sure' ris' fal' cap' of' bf' af' va' (by omega) (by omega) (by omega) e3 e4 e5
end JL
theorem sm_judge {N : Nat} (hN : 1000 ≤ N) (y1 : Int32) (y2 : Int64) {n G : Nat} {L R nx : Nat → Nat} {nt : Nat → Bool} {κ d : Nat → Nat} {i1 i2 i3 : Int32} {a1 a2 a3 a4 a5 a6 a7 : Nat → Int32} {j1 j2 j3 : Int32} {b1 b2 b3 b4 b5 : Nat → Int32} {kinds delays now : Nat → Int32} {mf : Int32} {sure : Nat → Int32} {ris fal : Nat → Int64} {cap : Nat → Int32} (l0 s0 : Int32) (tk td of0 bf af va : Nat → Int32) (hNet : RNet n G L R nx nt i1 i2 i3 a1 a2 a3 a4 a5 a6 a7 j1 j2 j3 b1 b2 b3 b4 b5) (hNow : RNow G nt κ d kinds delays now) (hTab : RTab n G L R nx nt mf sure ris fal cap) :
    ∃ r mf' tk' td' l' s' sure' ris' fal' cap' of' now' bf' af' va', f_X9_judge N y1 y2 i1 i2 i3 mf kinds tk delays td l0 s0 a5 a6 sure ris fal a1 a2 a3 cap a7 a4 of0 = some (r, mf', tk', td', l', s', sure', ris', fal', cap', of') ∧ f_X10_judge N y1 y2 j1 j2 j3 now b5 b4 b2 b1 bf af va b3 = some (r, now', bf', af', va') ∧ RNow G nt κ d kinds delays now' ∧ RTab n G L R nx nt mf' sure' ris' fal' cap' := by
  obtain ⟨hn, hG, rfl, rfl, rfl, rfl⟩ := hNet.c
  obtain ⟨hC, hnx, hNC, hNM, hPC, hPM⟩ := hNet
  have e1 : (1 : Int32).toInt = 1 := rfl
  have e4 : (4 : Int32).toInt = 4 := rfl
  have g1 : (1 : Int64).toInt = 1 := rfl
  have g4 : (4 : Int64).toInt = 4 := rfl
  have g0 : (0 : Int64).toInt = 0 := rfl
  rw [f_X9_judge, f_X10_judge]
  simp only [obd1, in_spec, Int32.toInt_toInt64, g1, g4, g0, zo0, fa_lt, fa_le, e1, e4]
  by_cases c1 : y1.toInt < 1
  · rw [if_pos c1, if_pos (show ¬ (1 ≤ y1.toInt ∧ y1.toInt ≤ 4) by omega)]
    exact ⟨_, _, _, _, _, _, _, _, _, _, _, _, _, _, _, rfl, rfl, hNow, hTab⟩
  rw [if_neg c1]
  by_cases c2 : y1.toInt ≤ 4
  · rw [if_pos c2, if_neg (show ¬ ¬ (1 ≤ y1.toInt ∧ y1.toInt ≤ 4) by omega)]
    obtain ⟨nn, hnn, rfl⟩ := nI_of_rng (y := y1) (n := 5) (by omega) (by omega) (by decide)
    have h4 := p4_4 (show nn ≤ 4 by omega)
    have h40 := p4_0 nn
    have unit : ∀ J : Int64 → Option (Int32 × Int32 × (Nat → Int32) × (Nat → Int32) × Int32 × Int32 × (Nat → Int32) × (Nat → Int64) × (Nat → Int64) × (Nat → Int32) × (Nat → Int32)), f_X9_judge_L19 N (nI nn) J N 1 0 = J (lN (10000 ^ nn)) := by
      intro J
      exact forL (fun nf q s => f_X9_judge_L19 N (nI nn) J nf s (nI q)) nn (fun q => lN (10000 ^ q)) (J (lN (10000 ^ nn))) (fun nf => by
        rw [f_X9_judge_L19, if_pos (le_t (Nat.le_refl _) (by omega))]) (fun q nf hq => by
        rw [f_X9_judge_L19, if_neg (le_f hq (by omega))]
        simp only [bnd, nI_1]
        rw [show lN (10000 ^ q) * (10000 : Int64) = lN (10000 ^ q * 10000) from lN_mul _ 10000, Nat.pow_succ]) nn 0 N (by omega) (by omega)
    simp only [bnd]
    rw [unit, tenM hN (by omega)]
    have hlt : (lN (10000 ^ nn)).toInt = ((10000 ^ nn : Nat) : Int) := pk_lT (by omega)
    have hm1 : lN (10000 ^ nn) - 1 = lN (10000 ^ nn - 1) := lN_sub (b := 1) h40
    have hlt1 : (lN (10000 ^ nn - 1)).toInt = ((10000 ^ nn - 1 : Nat) : Int) := pk_lT (by omega)
    simp only [hm1, ← fa_lt, lgc, hlt, hlt1, g0]
    by_cases c3 : y2.toInt < 0
    · rw [if_pos c3, if_pos (show ¬ (0 ≤ y2.toInt ∧ y2.toInt ≤ ((10000 ^ nn - 1 : Nat) : Int)) by omega)]
      exact ⟨_, _, _, _, _, _, _, _, _, _, _, _, _, _, _, rfl, rfl, hNow, hTab⟩
    rw [if_neg c3]
    by_cases c5 : y2.toInt < ((10000 ^ nn : Nat) : Int)
    · rw [if_pos c5, if_neg (show ¬ ¬ (0 ≤ y2.toInt ∧ y2.toInt ≤ ((10000 ^ nn - 1 : Nat) : Int)) by omega), copy_eq hN]
      obtain ⟨w, hw1, rfl⟩ : ∃ w, w < 10000 ^ nn ∧ y2 = lN w := ⟨y2.toInt.toNat, by omega, by
        rw [fa_eq64, pk_lT (by omega)]
        omega⟩
      obtain ⟨v, v1, v2⟩ := lay_eq hN now
      rw [v1]
      simp only [obd2]
      have hM8 : ∀ g, g < G → now (8 + g) = nI (d g) := fun g hh => by have := (hNow.2.2 g hh).2; rw [Nat.zero_add] at this; exact this
      have hM0 : ∀ g, g < G → now g = nI (κ g) := fun g hh => by have := (hNow.2.2 g hh).1; rw [Nat.zero_add] at this; exact this
      have hS0 : SetM G κ d v 0 := by
        intro g hg
        rw [Nat.zero_add, Nat.zero_add, (v2 g (by omega)).1, (v2 (8 + g) (by omega)).1]
        exact ⟨hM0 g hg, hM8 g hg⟩
      have hS16 : SetM G κ d v 16 := by
        intro g hg
        rw [(v2 g (by omega)).2, show 16 + 8 + g = 16 + (8 + g) by omega, (v2 (8 + g) (by omega)).2]
        exact ⟨hM0 g hg, hM8 g hg⟩
      have hJ := judge_L hN hC hnx hNC hNM hPC hPM (show nn ≤ 4 by omega) hw1 nn 0 N N κ d (cpN kinds 0 tk 8) (cpN delays 0 td 8) v mf l0 s0 sure ris fal cap of0 bf af va (by omega) (by omega) (by omega) ⟨hNow.1, SetC_copy hG hNow.2.1, hS16⟩ hS0 hTab
      obtain ⟨r, mf', tk', td', l', s', sure', ris', fal', cap', of', now', bf', af', va', z1, z2, z3, z4⟩ := hJ
      exact ⟨r, mf', tk', td', l', s', sure', ris', fal', cap', of', now', bf', af', va', z1, z2, ⟨hNow.1, hNow.2.1, z3⟩, z4⟩
    · rw [if_neg c5, if_pos (show ¬ (0 ≤ y2.toInt ∧ y2.toInt ≤ ((10000 ^ nn - 1 : Nat) : Int)) by omega)]
      exact ⟨_, _, _, _, _, _, _, _, _, _, _, _, _, _, _, rfl, rfl, hNow, hTab⟩
  · rw [if_neg c2, if_pos (show ¬ (1 ≤ y1.toInt ∧ y1.toInt ≤ 4) by omega)]
    exact ⟨_, _, _, _, _, _, _, _, _, _, _, _, _, _, _, rfl, rfl, hNow, hTab⟩
