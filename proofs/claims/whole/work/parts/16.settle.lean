-- rows of an array that a loop has filled
def stA {α : Type} (lo : Nat) (val : Nat → α) (base : Nat → α) (i : Nat) : Nat → α := fun k => if lo ≤ k ∧ k < lo + i then val (k - lo) else base k
theorem stA_0 {α : Type} (lo : Nat) (val base : Nat → α) : stA lo val base 0 = base := by
  funext k
  unfold stA
  rw [if_neg (by omega)]
theorem stA_in {α : Type} {lo : Nat} {val base : Nat → α} {i k : Nat} (h : k < i) : stA lo val base i (lo + k) = val k := by
  unfold stA
  rw [if_pos (by omega)]
  exact congrArg val (by omega)
theorem stA_out {α : Type} {lo : Nat} {val base : Nat → α} {i k : Nat} (h : k < lo ∨ lo + i ≤ k) : stA lo val base i k = base k := by
  unfold stA
  rw [if_neg (by omega)]
theorem stA_s (lo : Nat) (val base : Nat → Int32) (i : Nat) : upd (stA lo val base i) (lo + i) (val i) = stA lo val base (i + 1) := by
  funext k
  by_cases h : k = lo + i
  · subst h
    rw [pk_us, stA_in (by omega)]
  · rw [pk_un h]
    unfold stA
    by_cases h2 : lo ≤ k ∧ k < lo + i
    · rw [if_pos h2, if_pos (by omega)]
    · rw [if_neg h2, if_neg (by omega)]
theorem stA_s0 (val base : Nat → Int32) (i : Nat) : upd (stA 0 val base i) i (val i) = stA 0 val base (i + 1) := by
  have e := stA_s 0 val base i
  rw [Nat.zero_add] at e
  exact e
theorem stA_sL (lo : Nat) (val base : Nat → Int64) (i : Nat) : vp_updL (stA lo val base i) (lo + i) (val i) = stA lo val base (i + 1) := by
  funext k
  by_cases h : k = lo + i
  · subst h
    rw [pk_uLs, stA_in (by omega)]
  · rw [pk_uLn h]
    unfold stA
    by_cases h2 : lo ≤ k ∧ k < lo + i
    · rw [if_pos h2, if_pos (by omega)]
    · rw [if_neg h2, if_neg (by omega)]
theorem stA_s0L (val base : Nat → Int64) (i : Nat) : vp_updL (stA 0 val base i) i (val i) = stA 0 val base (i + 1) := by
  have e := stA_sL 0 val base i
  rw [Nat.zero_add] at e
  exact e
/-- the class's row of signals, read at a signal's code; the reference's, at its number -/
theorem rdC {α : Type} {n g s : Nat} {vi vg base : Nat → α} (h : Sg n g s) (hn : n ≤ 4) : stA 10 vg (stA 0 vi base n) g (cs s) = if s < 4 then vi s else vg (s - 4) := by
  unfold cs
  by_cases h4 : s < 4
  · rw [if_pos h4, if_pos h4, stA_out (by omega)]
    have e := stA_in (lo := 0) (val := vi) (base := base) (i := n) (k := s) (by rcases h with h | h <;> omega)
    rw [Nat.zero_add] at e
    exact e
  · rw [if_neg h4, if_neg h4]
    have e := stA_in (lo := 10) (val := vg) (base := stA 0 vi base n) (i := g) (k := s - 4) (by rcases h with h | h <;> omega)
    rw [show s + 6 = 10 + (s - 4) by omega]
    exact e
theorem rdM {α : Type} {n g s : Nat} {vi vg base : Nat → α} (h : Sg n g s) (hn : n ≤ 4) : stA 4 vg (stA 0 vi base n) g s = if s < 4 then vi s else vg (s - 4) := by
  by_cases h4 : s < 4
  · rw [if_pos h4, stA_out (by omega)]
    have e := stA_in (lo := 0) (val := vi) (base := base) (i := n) (k := s) (by rcases h with h | h <;> omega)
    rw [Nat.zero_add] at e
    exact e
  · rw [if_neg h4]
    have e := stA_in (lo := 4) (val := vg) (base := stA 0 vi base n) (i := g) (k := s - 4) (by rcases h with h | h <;> omega)
    rw [show 4 + (s - 4) = s by omega] at e
    exact e
theorem Vs_rd {L R κ : Nat → Nat} {pair n g s : Nat} (h : Sg n g s) (hn : n ≤ 4) : (if s < 4 then nI (V0 pair s) else nI (Vs L R κ pair (s - 4 + 1) (4 + (s - 4)))) = nI (Vs L R κ pair g s) := by
  by_cases h4 : s < 4
  · rw [if_pos h4]
    have e := Vs_stay (L := L) (R := R) (κ := κ) pair (g := 0) g s (by omega)
    rw [Nat.zero_add] at e
    rw [e]
    rfl
  · rw [if_neg h4, show 4 + (s - 4) = s by omega]
    have e := Vs_stay (L := L) (R := R) (κ := κ) pair (g := s - 4 + 1) (g - (s - 4 + 1)) s (by omega)
    rw [show s - 4 + 1 + (g - (s - 4 + 1)) = g by rcases h with h | h <;> omega] at e
    rw [e]
theorem Bs_rd {L R κ : Nat → Nat} {pat n g s : Nat} (h : Sg n g s) (hn : n ≤ 4) : (if s < 4 then nI (bitN pat s) else nI (Bs L R κ pat (s - 4 + 1) (4 + (s - 4)))) = nI (Bs L R κ pat g s) := by
  by_cases h4 : s < 4
  · rw [if_pos h4]
    have e := Bs_stay (L := L) (R := R) (κ := κ) pat (g := 0) g s (by omega)
    rw [Nat.zero_add] at e
    rw [e]
    rfl
  · rw [if_neg h4, show 4 + (s - 4) = s by omega]
    have e := Bs_stay (L := L) (R := R) (κ := κ) pat (g := s - 4 + 1) (g - (s - 4 + 1)) s (by omega)
    rw [show s - 4 + 1 + (g - (s - 4 + 1)) = g by rcases h with h | h <;> omega] at e
    rw [e]
abbrev ofC (L R κ : Nat → Nat) (pair n : Nat) (base : Nat → Int32) (g : Nat) : Nat → Int32 := stA 10 (fun q => nI (Vs L R κ pair (q + 1) (4 + q))) (stA 0 (fun k => nI (V0 pair k)) base n) g
abbrev vaM (L R κ : Nat → Nat) (pair n : Nat) (base : Nat → Int32) (g : Nat) : Nat → Int32 := stA 4 (fun q => nI (Vs L R κ pair (q + 1) (4 + q))) (stA 0 (fun k => nI (V0 pair k)) base n) g
abbrev bfM (L R κ : Nat → Nat) (pat n : Nat) (base : Nat → Int32) (g : Nat) : Nat → Int32 := stA 4 (fun q => nI (Bs L R κ pat (q + 1) (4 + q))) (stA 0 (fun k => nI (bitN pat k)) base n) g
theorem ofC_at {L R κ : Nat → Nat} {pair n g s : Nat} {base : Nat → Int32} (h : Sg n g s) (hn : n ≤ 4) : ofC L R κ pair n base g (cs s) = nI (Vs L R κ pair g s) := (rdC h hn).trans (Vs_rd h hn)
theorem vaM_at {L R κ : Nat → Nat} {pair n g s : Nat} {base : Nat → Int32} (h : Sg n g s) (hn : n ≤ 4) : vaM L R κ pair n base g s = nI (Vs L R κ pair g s) := (rdM h hn).trans (Vs_rd h hn)
theorem bfM_at {L R κ : Nat → Nat} {pat n g s : Nat} {base : Nat → Int32} (h : Sg n g s) (hn : n ≤ 4) : bfM L R κ pat n base g s = nI (Bs L R κ pat g s) := (rdM h hn).trans (Bs_rd h hn)
theorem Vs_top {L R κ : Nat → Nat} {pair g : Nat} : Vs L R κ pair (g + 1) (4 + g) = mk4 (κ g) (Vs L R κ pair g (L g)) (Vs L R κ pair g (R g)) := by
  rw [Vs, if_pos rfl]
theorem Bs_top {L R κ : Nat → Nat} {pat g : Nat} : Bs L R κ pat (g + 1) (4 + g) = mk1 (κ g) (Bs L R κ pat g (L g)) (Bs L R κ pat g (R g)) := by
  rw [Bs, if_pos rfl]
-- one link at a gate
theorem addLink_eq (N : Nat) {k a b : Nat} (hk : k ≤ 4) (ha : a < 4) (hb : b < 4) (y l s : Int32) : f_X1_addLink N (nI k) (nI a) (nI b) y l s = some (if 1 ≤ far1 k a b then l ||| y else l, if 2 ≤ far1 k a b then s ||| y else s) := by
  rcases (show k = 0 ∨ k = 1 ∨ k = 2 ∨ k = 3 ∨ k = 4 by omega) with rfl | rfl | rfl | rfl | rfl <;> rcases (show a = 0 ∨ a = 1 ∨ a = 2 ∨ a = 3 by omega) with rfl | rfl | rfl | rfl <;> rcases (show b = 0 ∨ b = 1 ∨ b = 2 ∨ b = 3 by omega) with rfl | rfl | rfl | rfl <;> rfl
theorem lnkM_lt (L R κ : Nat → Nat) (pair G f : Nat) : ∀ g, lnkM L R κ pair G f g < 4 ^ g
  | 0 => Nat.zero_lt_one
  | g + 1 => by
    have h := lnkM_lt L R κ pair G f g
    rw [lnkM, Nat.pow_succ]
    split <;> split <;> omega
theorem or_add {a k : Nat} (h : a < 2 ^ k) : nI a ||| nI (2 ^ k) = nI (a + 2 ^ k) := by
  have e : a ||| 2 ^ k = a + 2 ^ k := by
    have := Nat.two_pow_add_eq_or_of_lt h 1
    rw [Nat.mul_one] at this
    rw [Nat.or_comm, ← this, Nat.add_comm]
  have e2 : ∀ x y : Nat, nI x ||| nI y = nI (x ||| y) := by
    intro x y
    apply Int32.toBitVec_inj.mp
    show (BitVec.ofNat 32 x) ||| (BitVec.ofNat 32 y) = BitVec.ofNat 32 (x ||| y)
    exact BitVec.ofNat_or.symm
  rw [e2, e]
theorem p4 (g : Nat) : 4 ^ g = 2 ^ (2 * g) := by rw [Nat.pow_mul]
theorem sh2_tab : ∀ g, g < 8 → (1 : Int32) <<< (((2 : Int32) * nI g) &&& 31) = nI (2 ^ (2 * g)) ∧ (2 : Int32) <<< (((2 : Int32) * nI g) &&& 31) = nI (2 ^ (2 * g + 1)) := by decide
theorem neq_9 {s : Nat} (h : s < 1000) : ¬ nI s = (-9 : Int32) := by
  intro e
  have e2 := congrArg Int32.toInt e
  rw [nI_toInt (by omega)] at e2
  have : (-9 : Int32).toInt = -9 := rfl
  omega
theorem nI4 {k : Nat} (hk : k ≤ 4) : (nI k = (4 : Int32)) ↔ k = 4 := nI_eq (b := 4) (by omega) (by decide)
section ST
variable {n G : Nat} {L R nx κ : Nat → Nat} {nt : Nat → Bool}
/-- settle: the class's values and links by a pair -/
theorem settle_eq {N : Nat} (hN : 1000 ≤ N) (hC : Circ n G L R nt) (hκ : KOk G nt κ) {inputs gates : Int32} {lefts rights nexts kinds : Nat → Int32} (hNC : NetC n G L R nx nt inputs gates lefts rights nexts) (hK : ∀ g, g < G → kinds g = nI (κ g)) {pair : Nat} (hp : pair < 256) (l0 s0 : Int32) (of0 : Nat → Int32) :
    f_X1_settle N (nI pair) inputs gates l0 s0 kinds lefts of0 rights = some (nI (lnkM L R κ pair G 1 G), nI (lnkM L R κ pair G 2 G), ofC L R κ pair n of0 G) := by
  obtain ⟨hn, hG, -, -, hg⟩ := hC
  obtain ⟨rfl, rfl, hlr, -⟩ := hNC
  have hκ4 : ∀ g, g < G → κ g ≤ 4 := fun g h => (hκ g h).1
  rw [f_X1_settle]
  simp only [bnd]
  have e := forL (fun nf q s => f_X1_settle_L3 N (nI pair) (nI n) (fun k_of_1 => f_X1_settle_L72 N (nI G) kinds lefts rights (fun a b c => some (a, b, c)) N 0 0 0 k_of_1) nf (nI q) s) n (fun q => stA 0 (fun k => nI (V0 pair k)) of0 q) (f_X1_settle_L72 N (nI G) kinds lefts rights (fun a b c => some (a, b, c)) N 0 0 0 (stA 0 (fun k => nI (V0 pair k)) of0 n)) (fun nf => by
      rw [f_X1_settle_L3, if_pos (le_t (Nat.le_refl _) (by omega))]) (fun q nf hq => by
      rw [f_X1_settle_L3, if_neg (le_f hq (by omega)), show (4 : Int32) + nI q = nI (4 + q) from nI_add 4 q, sh1 (by omega) (by omega), sh1 (by omega) (by omega)]
      obtain ⟨w1, w2⟩ := bitN_pair pair q (by omega)
      rw [w1, w2]
      simp only [bnd, grd_nI (show q < 18 by omega) (show 18 ≤ 2 ^ 31 by decide), nI_clamp (show q < 2 ^ 31 by omega), nI_1]
      have hb1 := bitN_lt (pair / 16) q
      have hb2 := bitN_lt (pair % 16) q
      have hv : V0 pair q = if bitN (pair / 16) q = bitN (pair % 16) q then bitN (pair % 16) q else 2 + bitN (pair % 16) q := rfl
      by_cases hc : bitN (pair / 16) q = bitN (pair % 16) q
      · rw [if_pos (by rw [hc])]
        rw [if_pos hc] at hv
        rw [← hv]
        exact congrArg (f_X1_settle_L3 N (nI pair) (nI n) _ nf (nI (q + 1))) (stA_s0 (fun k => nI (V0 pair k)) of0 q)
      · rw [if_neg (fun z => hc ((nI_eq (by omega) (by omega)).mp z))]
        rw [if_neg hc] at hv
        rw [show (2 : Int32) + nI (bitN (pair % 16) q) = nI (2 + bitN (pair % 16) q) from nI_add 2 _, ← hv]
        exact congrArg (f_X1_settle_L3 N (nI pair) (nI n) _ nf (nI (q + 1))) (stA_s0 (fun k => nI (V0 pair k)) of0 q)) n 0 N (by omega) (by omega)
  rw [stA_0] at e
  refine e.trans ?_
  have e2 := forL (fun nf q s => f_X1_settle_L72 N (nI G) kinds lefts rights (fun a b c => some (a, b, c)) nf (nI q) (nI s.1) (nI s.2.1) s.2.2) G (fun q => (lnkM L R κ pair G 1 q, lnkM L R κ pair G 2 q, ofC L R κ pair n of0 q)) (some (nI (lnkM L R κ pair G 1 G), nI (lnkM L R κ pair G 2 G), ofC L R κ pair n of0 G)) (fun nf => by
      rw [f_X1_settle_L72, if_pos (le_t (Nat.le_refl _) (by omega))]) (fun q nf hq => by
      obtain ⟨g1, g2, g3, g4⟩ := hg q hq
      obtain ⟨q1, q2⟩ := hlr q hq
      obtain ⟨k1, k2⟩ := hκ q hq
      obtain ⟨c1, c2⟩ := cs_in g1 hn (show q ≤ 8 by omega)
      obtain ⟨c3, c4⟩ := cs_in g2 hn (show q ≤ 8 by omega)
      have hl1 := Sg_lt g1 hn
      have hl2 := Sg_lt g2 hn
      have hv1 := Vs_lt (L := L) (R := R) (G := G) hκ4 pair q (by omega) (L q)
      have hv2 := Vs_lt (L := L) (R := R) (G := G) hκ4 pair q (by omega) (R q)
      have hb1 := lnkM_lt L R κ pair G 1 q
      have hb2 := lnkM_lt L R κ pair G 2 q
      have hp4 : 4 ^ q ≤ 4 ^ 8 := Nat.pow_le_pow_right (by decide) (by omega)
      have eS : ∀ (nf : Nat) (t : Int32), t = nI (Vs L R κ pair q (R q)) → (grd (inb (nI q) 8) <| obd1 (f_X1_made N (kinds (nI q).toNatClampNeg) (nI (Vs L R κ pair q (L q))) t) fun r_11 => grd (inb ((10 : Int32) + nI q) 18) <| bnd (upd (ofC L R κ pair n of0 q) ((10 : Int32) + nI q).toNatClampNeg r_11) fun k_of_12 => grd (inb (nI q) 8) <| obd2 (f_X1_addLink N (kinds (nI q).toNatClampNeg) (nI (Vs L R κ pair q (L q))) t ((1 : Int32) <<< (((2 : Int32) * nI q) &&& 31)) (nI (lnkM L R κ pair G 1 q)) (nI (lnkM L R κ pair G 2 q))) fun i_this_links_13 i_this_sureLinks_14 => grd (inb (nI q) 8) <| obd2 (f_X1_addLink N (kinds (nI q).toNatClampNeg) t (nI (Vs L R κ pair q (L q))) ((2 : Int32) <<< (((2 : Int32) * nI q) &&& 31)) i_this_links_13 i_this_sureLinks_14) fun i_this_links_15 i_this_sureLinks_16 => bnd (nI q + (1 : Int32)) fun x4_17 => f_X1_settle_L72 N (nI G) kinds lefts rights (fun a b c => some (a, b, c)) nf x4_17 i_this_links_15 i_this_sureLinks_16 k_of_12) = f_X1_settle_L72 N (nI G) kinds lefts rights (fun a b c => some (a, b, c)) nf (nI (q + 1)) (nI (lnkM L R κ pair G 1 (q + 1))) (nI (lnkM L R κ pair G 2 (q + 1))) (ofC L R κ pair n of0 (q + 1)) := by
        intro nf t ht
        subst ht
        rw [show (10 : Int32) + nI q = nI (10 + q) from nI_add 10 q, nI_clamp (show q < 2 ^ 31 by omega), nI_clamp (show 10 + q < 2 ^ 31 by omega), hK q hq, made_eq N k1 hv1 hv2, addLink_eq N k1 hv1 hv2, (sh2_tab q (by omega)).1, (sh2_tab q (by omega)).2]
        simp only [grd_nI (show q < 8 by omega) (show 8 ≤ 2 ^ 31 by decide), grd_nI (show 10 + q < 18 by omega) (show 18 ≤ 2 ^ 31 by decide), obd1, obd2, bnd, addLink_eq N k1 hv2 hv1, nI_1]
        have eo : upd (ofC L R κ pair n of0 q) (10 + q) (nI (mk4 (κ q) (Vs L R κ pair q (L q)) (Vs L R κ pair q (R q)))) = ofC L R κ pair n of0 (q + 1) := by
          rw [← Vs_top]
          exact stA_s 10 _ _ q
        have el : ∀ f, lnkM L R κ pair G f q < 4 ^ q → (if f ≤ far1 (κ q) (Vs L R κ pair q (R q)) (Vs L R κ pair q (L q)) then (if f ≤ far1 (κ q) (Vs L R κ pair q (L q)) (Vs L R κ pair q (R q)) then nI (lnkM L R κ pair G f q) ||| nI (2 ^ (2 * q)) else nI (lnkM L R κ pair G f q)) ||| nI (2 ^ (2 * q + 1)) else (if f ≤ far1 (κ q) (Vs L R κ pair q (L q)) (Vs L R κ pair q (R q)) then nI (lnkM L R κ pair G f q) ||| nI (2 ^ (2 * q)) else nI (lnkM L R κ pair G f q))) = nI (lnkM L R κ pair G f (q + 1)) := by
          intro f hb
          rw [lnkM, Vs_at pair (show q ≤ G by omega) hl1, Vs_at pair (show q ≤ G by omega) hl2]
          have hp2 : 2 ^ (2 * q + 1) = 2 * 4 ^ q := by rw [Nat.pow_succ, p4, Nat.mul_comm]
          by_cases z1 : f ≤ far1 (κ q) (Vs L R κ pair q (L q)) (Vs L R κ pair q (R q))
          · by_cases z2 : f ≤ far1 (κ q) (Vs L R κ pair q (R q)) (Vs L R κ pair q (L q))
            · simp only [if_pos z1, if_pos z2]
              rw [or_add (by rw [← p4]; exact hb), or_add (by rw [hp2, ← p4]; omega), hp2, p4]
            · simp only [if_pos z1, if_neg z2, Nat.add_zero]
              rw [or_add (by rw [← p4]; exact hb), p4]
          · by_cases z2 : f ≤ far1 (κ q) (Vs L R κ pair q (R q)) (Vs L R κ pair q (L q))
            · simp only [if_neg z1, if_pos z2, Nat.add_zero]
              rw [or_add (by rw [hp2]; omega), hp2]
            · simp only [if_neg z1, if_neg z2, Nat.add_zero]
        rw [eo, el 1 hb1, el 2 hb2]
      have hof : ∀ s, Sg n q s → ofC L R κ pair n of0 q (cs s) = nI (Vs L R κ pair q s) := fun s h => ofC_at h hn
      dsimp only
      rw [f_X1_settle_L72, if_neg (le_f hq (by omega)), grd_nI (show q < 8 by omega) (by decide), nI_clamp (show q < 2 ^ 31 by omega), q1, grd_nI c1 (by decide), nI_clamp (show cs (L q) < 2 ^ 31 by omega), hof _ g1, hK q hq]
      simp only [bnd]
      rw [grd_nI (show q < 8 by omega) (by decide)]
      by_cases h4 : κ q = 4
      · rw [if_pos ((nI4 k1).mpr h4)]
        have eR := g3 (k2.mp h4)
        have := eS nf (nI (Vs L R κ pair q (L q))) (by rw [eR])
        rw [nI_clamp (show q < 2 ^ 31 by omega), hK q hq] at this
        exact this
      · rw [if_neg (fun z => h4 ((nI4 k1).mp z)), grd_nI (show q < 8 by omega) (by decide)]
        have hnt : nt q = false := by
          cases z : nt q with
          | false => rfl
          | true => exact absurd (k2.mpr z) h4
        rw [q2, hnt]
        have eR : (if false = true then (-9 : Int32) else nI (cs (R q))) = nI (cs (R q)) := rfl
        rw [eR, grd_nI c3 (by decide), nI_clamp (show cs (R q) < 2 ^ 31 by omega), hof _ g2]
        have := eS nf (nI (Vs L R κ pair q (R q))) rfl
        rw [nI_clamp (show q < 2 ^ 31 by omega), hK q hq] at this
        exact this) G 0 N (by omega) (by omega)
  simp only [stA_0] at e2
  exact e2
end ST
