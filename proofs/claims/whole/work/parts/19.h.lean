-- the reference's waves: a row of a hundred for each signal
theorem updNe {f : Nat → Int32} {k j : Nat} {x : Int32} (h : j ≠ k) : upd f k x j = f j := if_neg h
theorem updEq {f : Nat → Int32} {k : Nat} {x : Int32} : upd f k x k = x := if_pos rfl
section WM2
variable {n G : Nat} {L R nx κ d : Nat → Nat} {nt : Nat → Bool}
theorem Ws_full {pair g s : Nat} {t : Int} (h : Sg n g s) (hn : n ≤ 4) (hg : g ≤ G) : Ws L R κ d pair G s t = Ws L R κ d pair g s t := by
  have e := Ws_stay (L := L) (R := R) (κ := κ) (d := d) pair (g := g) (G - g) s t (Sg_lt h hn)
  rw [show g + (G - g) = G by omega] at e
  exact e
theorem Sg_up {g h s : Nat} (k : Sg n g s) (hh : g ≤ h) : Sg n h s := by
  rcases k with k | k
  · exact Or.inl k
  · exact Or.inr ⟨k.1, by omega⟩
/-- what the rows hold before instant t is done at gate g -/
def WInv (n G : Nat) (L R κ d : Nat → Nat) (pair t g : Nat) (W : Nat → Int32) : Prop := (∀ s u, Sg n G s → u < t → W (100 * s + u) = nI (Ws L R κ d pair G s u)) ∧ ∀ s, Sg n g s → W (100 * s + t) = nI (Ws L R κ d pair G s t)
theorem waveAt_eq (N : Nat) (hn : n ≤ 4) (hG : G ≤ 8) {pair t g s : Nat} {W bf : Nat → Int32} (hW : WInv n G L R κ d pair t g W) (hs : Sg n G s) (ht : t ≤ 100) (dl : Nat) (h1 : 1 ≤ dl) (h2 : dl ≤ 18) : f_X10_waveAt N (nI s) (nI t - nI dl) W (bfM L R κ (pair / 16) n bf G) = some (nI (Ws L R κ d pair G s ((t : Int) - dl))) := by
  have hs2 := Sg_lt hs hn
  have e := pk_sub_toInt (a := t) (b := dl) (by omega) (by omega)
  rw [f_X10_waveAt]
  by_cases h : dl ≤ t
  · have e2 : nI t - nI dl = nI (t - dl) := by
      rw [fa_eq, e, nI_toInt (by omega)]
      omega
    rw [e2, if_pos (show (0 : Int32) ≤ nI (t - dl) from le_t (Nat.zero_le _) (by omega)), show (100 : Int32) = nI 100 from rfl, pk_mul, nI_add, grd_nI (show 100 * s + (t - dl) < 1200 by omega) (by decide), nI_clamp (show 100 * s + (t - dl) < 2 ^ 31 by omega), hW.1 s (t - dl) hs (by omega), show ((t - dl : Nat) : Int) = (t : Int) - dl by omega]
  · rw [if_neg (by rw [fa_le, e]; show ¬ (0 : Int) ≤ _; omega), grd_nI (show s < 12 by omega) (by decide), nI_clamp (show s < 2 ^ 31 by omega), bfM_at hs hn, Ws_neg pair G s _ (by omega)]
theorem fw17 (N : Nat) (hn : n ≤ 4) (hG : G ≤ 8) {pair t : Nat} (ht : t < 100) (af : Nat → Int32) (J : (Nat → Int32) → Option ((Nat → Int32) × (Nat → Int32) × (Nat → Int32) × (Nat → Int32))) : ∀ (m i nf : Nat) (W : Nat → Int32), i + m = n → m < nf → (∀ s u, Sg n G s → u < t → W (100 * s + u) = nI (Ws L R κ d pair G s u)) → (∀ s, s < i → W (100 * s + t) = nI (Ws L R κ d pair G s t)) → ∃ W', f_X10_findWaves_L17 N (nI n) (bfM L R κ (pair % 16) n af G) (nI t) J nf (nI i) W = J W' ∧ WInv n G L R κ d pair t 0 W' := by
  intro m
  induction m with
  | zero =>
    intro i nf W hi hnf h1 h2
    obtain ⟨k, rfl⟩ : ∃ k, nf = k + 1 := ⟨nf - 1, by omega⟩
    rw [f_X10_findWaves_L17, if_pos (le_t (by omega) (by omega))]
    refine ⟨W, rfl, h1, fun s hs => h2 s ?_⟩
    rcases hs with hs | hs <;> omega
  | succ m ih =>
    intro i nf W hi hnf h1 h2
    obtain ⟨k, rfl⟩ : ∃ k, nf = k + 1 := ⟨nf - 1, by omega⟩
    have hs : Sg n 0 i := Or.inl (by omega)
    have hsG : Sg n G i := Sg_up hs (Nat.zero_le _)
    have er : bfM L R κ (pair % 16) n af G i = nI (Ws L R κ d pair G i t) := by
      rw [bfM_at hsG hn, Ws_full hs hn (Nat.zero_le _), Ws, if_neg (by omega)]
      have e := Bs_stay (L := L) (R := R) (κ := κ) (pair % 16) (g := 0) G i (by omega)
      rw [Nat.zero_add] at e
      rw [e]
      rfl
    rw [f_X10_findWaves_L17, if_neg (le_f (by omega) (by omega)), show (100 : Int32) = nI 100 from rfl, pk_mul, nI_add]
    simp only [bnd, grd_nI (show i < 12 by omega) (show 12 ≤ 2 ^ 31 by decide), grd_nI (show 100 * i + t < 1200 by omega) (show 1200 ≤ 2 ^ 31 by decide), nI_clamp (show i < 2 ^ 31 by omega), nI_clamp (show 100 * i + t < 2 ^ 31 by omega), nI_1, er]
    refine ih (i + 1) k _ (by omega) (by omega) (fun s u hs' hu => ?_) (fun s hs' => ?_)
    · rw [updNe (by omega)]
      exact h1 s u hs' hu
    · by_cases hsi : s = i
      · subst hsi
        rw [updEq]
      · rw [updNe (by omega)]
        exact h2 s (by omega)
theorem fw54 {N : Nat} (hC : Circ n G L R nt) (hκ : KOk G nt κ) (hd : ∀ g, g < G → 1 ≤ d g ∧ d g ≤ 18) {one other now : Nat → Int32} (hoo : ∀ g, g < G → one g = nI (L g) ∧ other g = if nt g then -9 else nI (R g)) {lv : Nat} (hlv : lv ≤ 1) (hK : ∀ g, g < G → now (16 * lv + g) = nI (κ g)) (hD : ∀ g, g < G → now (16 * lv + 8 + g) = nI (d g)) {pair t : Nat} (ht : t < 100) (bf : Nat → Int32) (J : (Nat → Int32) → Option ((Nat → Int32) × (Nat → Int32) × (Nat → Int32) × (Nat → Int32))) : ∀ (m q nf : Nat) (W : Nat → Int32), q + m = G → m < nf → WInv n G L R κ d pair t q W → ∃ W', f_X10_findWaves_L54 N (nI lv) (nI G) now other one (bfM L R κ (pair / 16) n bf G) (nI t) J nf (nI q) W = J W' ∧ WInv n G L R κ d pair t G W' := by
  obtain ⟨hn, hG, -, -, hg⟩ := hC
  have hκ4 : ∀ g, g < G → κ g ≤ 4 := fun g h => (hκ g h).1
  intro m
  induction m with
  | zero =>
    intro q nf W hi hnf h1
    obtain ⟨k, rfl⟩ : ∃ k, nf = k + 1 := ⟨nf - 1, by omega⟩
    rw [f_X10_findWaves_L54, if_pos (le_t (by omega) (by omega))]
    rw [show q = G by omega] at h1
    exact ⟨W, rfl, h1⟩
  | succ m ih =>
    intro q nf W hi hnf h1
    obtain ⟨k, rfl⟩ : ∃ k, nf = k + 1 := ⟨nf - 1, by omega⟩
    have hq : q < G := by omega
    obtain ⟨d1, d2⟩ := hd q hq
    obtain ⟨g1, g2, g3, -⟩ := hg q hq
    obtain ⟨o1, o2⟩ := hoo q hq
    have e8 : ((16 : Int32) * nI lv + 8) + nI q = nI (16 * lv + 8 + q) := by
      rw [show (16 : Int32) = nI 16 from rfl, show (8 : Int32) = nI 8 from rfl, pk_mul, nI_add, nI_add]
    have e0 : ((16 : Int32) * nI lv + 0) + nI q = nI (16 * lv + q) := by
      rw [show (16 : Int32) = nI 16 from rfl, show (0 : Int32) = nI 0 from rfl, pk_mul, nI_add, nI_add, Nat.add_zero]
    have e4 : (100 : Int32) * ((4 : Int32) + nI q) + nI t = nI (100 * (4 + q) + t) := by
      rw [show (100 : Int32) = nI 100 from rfl, show (4 : Int32) = nI 4 from rfl, nI_add, pk_mul, nI_add]
    have w1 := waveAt_eq N hn hG (bf := bf) h1 (Sg_up g1 (Nat.le_of_lt hq)) (Nat.le_of_lt ht) (d q) d1 d2
    have w2 := waveAt_eq N hn hG (bf := bf) h1 (Sg_up g2 (Nat.le_of_lt hq)) (Nat.le_of_lt ht) (d q) d1 d2
    have hl := Ws_lt (L := L) (R := R) (d := d) hκ4 pair G (Nat.le_refl _) (L q) ((t : Int) - d q)
    have hr := Ws_lt (L := L) (R := R) (d := d) hκ4 pair G (Nat.le_refl _) (R q) ((t : Int) - d q)
    have htop : Ws L R κ d pair G (4 + q) t = mk1 (κ q) (Ws L R κ d pair G (L q) ((t : Int) - d q)) (Ws L R κ d pair G (R q) ((t : Int) - d q)) := by
      rw [Ws_full (g := q + 1) (n := n) (Or.inr ⟨by omega, by omega⟩) hn (by omega), Ws_top, Ws_full g1 hn (Nat.le_of_lt hq), Ws_full g2 hn (Nat.le_of_lt hq)]
    have hW' : WInv n G L R κ d pair t (q + 1) (upd W (100 * (4 + q) + t) (nI (Ws L R κ d pair G (4 + q) t))) := by
      refine ⟨fun s u hs hu => ?_, fun s hs => ?_⟩
      · rw [updNe (by omega)]
        exact h1.1 s u hs hu
      · by_cases hsq : s = 4 + q
        · subst hsq
          rw [updEq]
        · rw [updNe (by omega)]
          refine h1.2 s ?_
          rcases hs with hs | hs
          · exact Or.inl hs
          · exact Or.inr ⟨hs.1, by omega⟩
    obtain ⟨W', hW1, hW2⟩ := ih (q + 1) k _ (by omega) (by omega) hW'
    refine ⟨W', ?_, hW2⟩
    rw [f_X10_findWaves_L54, if_neg (le_f (by omega) (by omega))]
    have hside : (if nt q then (-9 : Int32) else nI (R q)) = -9 ↔ nt q = true := by
      cases hb : nt q
      · simp only [Bool.false_eq_true, if_false, iff_false]
        rw [fa_eq, nI_toInt (by have := Sg_lt g2 hn; omega)]
        show ¬ (_ : Int) = -9
        omega
      · simp
    simp only [bnd, e8, e0, e4, grd_nI (show 16 * lv + 8 + q < 32 by omega) (show 32 ≤ 2 ^ 31 by decide), grd_nI (show 16 * lv + q < 32 by omega) (show 32 ≤ 2 ^ 31 by decide), grd_nI (show q < 8 by omega) (show 8 ≤ 2 ^ 31 by decide), nI_clamp (show 16 * lv + 8 + q < 2 ^ 31 by omega), nI_clamp (show 16 * lv + q < 2 ^ 31 by omega), nI_clamp (show q < 2 ^ 31 by omega), hD q hq, hK q hq, o1, o2, w1, obd1, nI_1]
    by_cases hb : nt q = true
    · have eR := g3 hb
      rw [if_pos (hside.mpr hb)]
      rw [makes_eq N (hκ4 q hq) hl hl]
      simp only [obd1]
      rw [grd_nI (show 100 * (4 + q) + t < 1200 by omega) (show 1200 ≤ 2 ^ 31 by decide), nI_clamp (show 100 * (4 + q) + t < 2 ^ 31 by omega)]
      rw [eR] at htop
      rw [← htop]
      exact hW1
    · rw [if_neg (fun z => hb (hside.mp z)), if_neg hb, w2]
      simp only [obd1]
      rw [makes_eq N (hκ4 q hq) hl hr]
      simp only [obd1]
      rw [grd_nI (show 100 * (4 + q) + t < 1200 by omega) (show 1200 ≤ 2 ^ 31 by decide), nI_clamp (show 100 * (4 + q) + t < 2 ^ 31 by omega), ← htop]
      exact hW1
theorem findWaves_eq {N : Nat} (hN : 1000 ≤ N) (hC : Circ n G L R nt) (hκ : KOk G nt κ) (hd : ∀ g, g < G → 1 ≤ d g ∧ d g ≤ 18) {inputs gates : Int32} {one other next now : Nat → Int32} (hNM : NetM n G L R nx nt inputs gates one other next) {lv : Nat} (hlv : lv ≤ 1) (hK : ∀ g, g < G → now (16 * lv + g) = nI (κ g)) (hD : ∀ g, g < G → now (16 * lv + 8 + g) = nI (d g)) {pair : Nat} (hp : pair < 256) (bf af va W : Nat → Int32) :
    ∃ W', f_X10_findWaves N (nI lv) (nI pair) inputs gates now other one bf af va W = some (bfM L R κ (pair / 16) n bf G, bfM L R κ (pair % 16) n af G, vaM L R κ pair n va G, W') ∧ ∀ s u, Sg n G s → u < 100 → W' (100 * s + u) = nI (Ws L R κ d pair G s u) := by
  rw [f_X10_findWaves, findPair_eq hN hC hκ hNM hlv hK hp]
  simp only [obd3, bnd]
  have hn := hC.1
  have hG := hC.2.1
  obtain ⟨rfl, rfl, hoo, -⟩ := hNM
  have key : ∀ (J : (Nat → Int32) → Option ((Nat → Int32) × (Nat → Int32) × (Nat → Int32) × (Nat → Int32))) (m t nf : Nat) (W : Nat → Int32), t + m = 100 → m < nf → (∀ s u, Sg n G s → u < t → W (100 * s + u) = nI (Ws L R κ d pair G s u)) → ∃ W', f_X10_findWaves_L8 N (nI lv) (nI n) (nI G) now other one (bfM L R κ (pair / 16) n bf G) (bfM L R κ (pair % 16) n af G) J nf (nI t) W = J W' ∧ ∀ s u, Sg n G s → u < 100 → W' (100 * s + u) = nI (Ws L R κ d pair G s u) := by
    intro J m
    induction m with
    | zero =>
      intro t nf W ht hnf h
      obtain ⟨k, rfl⟩ : ∃ k, nf = k + 1 := ⟨nf - 1, by omega⟩
      rw [f_X10_findWaves_L8, if_pos (show (100 : Int32) ≤ nI t from le_t (a := 100) (by omega) (by omega))]
      rw [show t = 100 by omega] at h
      exact ⟨W, rfl, h⟩
    | succ m ih =>
      intro t nf W ht hnf h
      obtain ⟨k, rfl⟩ : ∃ k, nf = k + 1 := ⟨nf - 1, by omega⟩
      rw [f_X10_findWaves_L8, if_neg (show ¬ (100 : Int32) ≤ nI t from le_f (a := 100) (by omega) (by decide))]
      simp only [bnd, nI_1]
      obtain ⟨W1, a1, a2⟩ := fw17 (L := L) (R := R) (κ := κ) (d := d) (pair := pair) N hn hG (show t < 100 by omega) af (fun W1 => f_X10_findWaves_L54 N (nI lv) (nI G) now other one (bfM L R κ (pair / 16) n bf G) (nI t) (fun W2 => f_X10_findWaves_L8 N (nI lv) (nI n) (nI G) now other one (bfM L R κ (pair / 16) n bf G) (bfM L R κ (pair % 16) n af G) J k (nI (t + 1)) W2) N 0 W1) n 0 N W (by omega) (by omega) h (fun s hs => absurd hs (Nat.not_lt_zero _))
      obtain ⟨W2, b1, b2⟩ := fw54 (N := N) hC hκ hd hoo hlv hK hD (show t < 100 by omega) bf (fun W2 => f_X10_findWaves_L8 N (nI lv) (nI n) (nI G) now other one (bfM L R κ (pair / 16) n bf G) (bfM L R κ (pair % 16) n af G) J k (nI (t + 1)) W2) G 0 N W1 (by omega) (by omega) a2
      obtain ⟨W3, c1, c2⟩ := ih (t + 1) k W2 (by omega) (by omega) (fun s u hs hu => by
        by_cases hut : u = t
        · subst hut
          exact b2.2 s hs
        · exact b2.1 s u hs (by omega))
      exact ⟨W3, a1.trans (b1.trans c1), c2⟩
  obtain ⟨W', h1, h2⟩ := key (fun W' => some (bfM L R κ (pair / 16) n bf G, bfM L R κ (pair % 16) n af G, vaM L R κ pair n va G, W')) 100 0 N W (by omega) (by omega) (fun s u _ hu => absurd hu (Nat.not_lt_zero _))
  exact ⟨W', h1, h2⟩
theorem lateM {N : Nat} (hN : 1000 ≤ N) (hC : Circ n G L R nt) (h0 : 0 < G) (hκ : KOk G nt κ) (hd : ∀ g, g < G → 1 ≤ d g ∧ d g ≤ 18) {inputs gates : Int32} {one other next now : Nat → Int32} (hNM : NetM n G L R nx nt inputs gates one other next) {lv : Nat} (hlv : lv ≤ 1) (hK : ∀ g, g < G → now (16 * lv + g) = nI (κ g)) (hD : ∀ g, g < G → now (16 * lv + 8 + g) = nI (d g)) {pair t : Nat} (hp : pair < 256) (ht : t < 100) (bf af va W : Nat → Int32) :
    ∃ W', f_X10_isLate N (nI lv) (nI pair) (nI t) inputs gates now other one bf af va W = some (zI (ltE L R κ d G pair t), bfM L R κ (pair / 16) n bf G, bfM L R κ (pair % 16) n af G, vaM L R κ pair n va G, W') := by
  obtain ⟨W', h1, h2⟩ := findWaves_eq hN hC hκ hd hNM hlv hK hD hp bf af va W
  refine ⟨W', ?_⟩
  have hn := hC.1
  have hG := hC.2.1
  have hκ4 : ∀ g, g < G → κ g ≤ 4 := fun g h => (hκ g h).1
  rw [f_X10_isLate, h1]
  obtain ⟨rfl, rfl, hoo, -⟩ := hNM
  have hs : Sg n G (4 + (G - 1)) := Or.inr ⟨by omega, by omega⟩
  have e : (4 : Int32) + nI G - 1 = nI (4 + (G - 1)) := by
    have z := nI_add (4 + (G - 1)) 1
    rw [show 4 + (G - 1) + 1 = 4 + G by omega] at z
    rw [show (4 : Int32) + nI G = nI (4 + G) from nI_add 4 G, ← z]
    exact Int32.add_sub_cancel _ _
  have ea : f_X10_waveAt N (nI (4 + (G - 1))) (nI t) W' (bfM L R κ (pair / 16) n bf G) = some (nI (Ws L R κ d pair G (4 + (G - 1)) t)) := by
    rw [f_X10_waveAt, if_pos (show (0 : Int32) ≤ nI t from le_t (Nat.zero_le _) (by omega)), show (100 : Int32) = nI 100 from rfl, pk_mul, nI_add, grd_nI (show 100 * (4 + (G - 1)) + t < 1200 by omega) (by decide), nI_clamp (show 100 * (4 + (G - 1)) + t < 2 ^ 31 by omega), h2 _ _ hs ht]
  have r3 := bfM_at (L := L) (R := R) (κ := κ) (pat := pair % 16) (base := af) hs hn
  simp only [obd4, bnd, e, ea, obd1, grd_nI (show 4 + (G - 1) < 12 by omega) (show 12 ≤ 2 ^ 31 by decide), nI_clamp (show 4 + (G - 1) < 2 ^ 31 by omega), r3]
  have hw := Ws_lt (L := L) (R := R) (d := d) hκ4 pair G (Nat.le_refl _) (4 + (G - 1)) t
  have hb := Bs_lt (L := L) (R := R) hκ4 (pair % 16) G (Nat.le_refl _) (4 + (G - 1))
  unfold ltE
  by_cases h : Ws L R κ d pair G (4 + (G - 1)) t = Bs L R κ (pair % 16) G (4 + (G - 1))
  · rw [h, if_pos rfl]
    simp [zI]
  · rw [if_neg (fun z => h ((nI_eq (by omega) (by omega)).mp z))]
    simp [zI, h]
end WM2
