-- the class's waves
section RW
variable {n G : Nat} {L R nx κ d : Nat → Nat} {nt : Nat → Bool}
abbrev bfL (L R κ : Nat → Nat) (pat n : Nat) (base : Nat → Int64) (g : Nat) : Nat → Int64 := stA 10 (fun q => mkL (fun _ => Bs L R κ pat (q + 1) (4 + q))) (stA 0 (fun k => mkL (fun _ => bitN pat k)) base n) g
abbrev wvL (L R κ d : Nat → Nat) (pair n off : Nat) (base : Nat → Int64) (g : Nat) : Nat → Int64 := stA 10 (fun q => mkL (fun t => Ws L R κ d pair (q + 1) (4 + q) ((off : Int) + t))) (stA 0 (fun k => mkL (fun t => Ws L R κ d pair 0 k ((off : Int) + t))) base n) g
theorem bfL_at {pat g s : Nat} {base : Nat → Int64} (h : Sg n g s) (hn : n ≤ 4) : bfL L R κ pat n base g (cs s) = mkL (fun _ => Bs L R κ pat g s) := by
  refine (rdC h hn).trans ?_
  by_cases h4 : s < 4
  · rw [if_pos h4]
    have e := Bs_stay (L := L) (R := R) (κ := κ) pat (g := 0) g s (by omega)
    rw [Nat.zero_add] at e
    rw [e]
    rfl
  · rw [if_neg h4, show 4 + (s - 4) = s by omega]
    have e := Bs_stay (L := L) (R := R) (κ := κ) pat (g := s - 4 + 1) (g - (s - 4 + 1)) s (by omega)
    rw [show s - 4 + 1 + (g - (s - 4 + 1)) = g by rcases h with h | h <;> omega] at e
    rw [e]
theorem wvL_at {pair off g s : Nat} {base : Nat → Int64} (h : Sg n g s) (hn : n ≤ 4) : wvL L R κ d pair n off base g (cs s) = mkL (fun t => Ws L R κ d pair g s ((off : Int) + t)) := by
  refine (rdC h hn).trans ?_
  by_cases h4 : s < 4
  · rw [if_pos h4]
    refine congrArg mkL (funext fun t => ?_)
    have e := Ws_stay (L := L) (R := R) (κ := κ) (d := d) pair (g := 0) g s ((off : Int) + t) (by omega)
    rw [Nat.zero_add] at e
    exact e.symm
  · rw [if_neg h4, show 4 + (s - 4) = s by omega]
    refine congrArg mkL (funext fun t => ?_)
    have e := Ws_stay (L := L) (R := R) (κ := κ) (d := d) pair (g := s - 4 + 1) (g - (s - 4 + 1)) s ((off : Int) + t) (by omega)
    rw [show s - 4 + 1 + (g - (s - 4 + 1)) = g by rcases h with h | h <;> omega] at e
    exact e.symm
theorem negbit : ∀ b, b < 2 → -((nI b).toInt64) = mkL (fun _ => b) := by decide +kernel
theorem run_eq {N : Nat} (hN : 1000 ≤ N) (hC : Circ n G L R nt) (hκ : KOk G nt κ) (hd : ∀ g, g < G → 1 ≤ d g ∧ d g ≤ 18) {inputs gates : Int32} {lefts rights nexts kinds delays : Nat → Int32} (hNC : NetC n G L R nx nt inputs gates lefts rights nexts) (hK : ∀ g, g < G → kinds g = nI (κ g)) (hD : ∀ g, g < G → delays g = nI (d g)) {pair : Nat} (hp : pair < 256) (bf af lo hi0 : Nat → Int64) :
    f_X8_run N (nI pair) inputs gates kinds delays lefts rights bf af lo hi0 = some (bfL L R κ (pair / 16) n bf G, bfL L R κ (pair % 16) n af G, wvL L R κ d pair n 0 lo G, wvL L R κ d pair n 64 hi0 G) := by
  obtain ⟨hn, hG, -, -, hg⟩ := hC
  obtain ⟨rfl, rfl, hlr, -⟩ := hNC
  have hκ4 : ∀ g, g < G → κ g ≤ 4 := fun g h => (hκ g h).1
  rw [f_X8_run]
  simp only [bnd]
  have e := forL (fun nf q s => f_X8_run_L3 N (nI pair) (nI n) (fun a b c e => f_X8_run_L83 N (nI G) kinds delays lefts rights (fun a b c e => some (a, b, c, e)) N 0 a b c e) nf (nI q) s.1 s.2.1 s.2.2.1 s.2.2.2) n (fun q => (stA 0 (fun k => mkL (fun _ => bitN (pair / 16) k)) bf q, stA 0 (fun k => mkL (fun _ => bitN (pair % 16) k)) af q, stA 0 (fun k => mkL (fun t => Ws L R κ d pair 0 k ((0 : Nat) + (t : Int)))) lo q, stA 0 (fun k => mkL (fun t => Ws L R κ d pair 0 k ((64 : Nat) + (t : Int)))) hi0 q)) (f_X8_run_L83 N (nI G) kinds delays lefts rights (fun a b c e => some (a, b, c, e)) N 0 (stA 0 (fun k => mkL (fun _ => bitN (pair / 16) k)) bf n) (stA 0 (fun k => mkL (fun _ => bitN (pair % 16) k)) af n) (stA 0 (fun k => mkL (fun t => Ws L R κ d pair 0 k ((0 : Nat) + (t : Int)))) lo n) (stA 0 (fun k => mkL (fun t => Ws L R κ d pair 0 k ((64 : Nat) + (t : Int)))) hi0 n)) (fun nf => by
      rw [f_X8_run_L3, if_pos (le_t (Nat.le_refl _) (by omega))]) (fun q nf hq => by
      dsimp only
      rw [f_X8_run_L3, if_neg (le_f hq (by omega)), show (4 : Int32) + nI q = nI (4 + q) from nI_add 4 q, sh1 (by omega) (by omega), sh1 (by omega) (by omega)]
      obtain ⟨w1, w2⟩ := bitN_pair pair q (by omega)
      rw [w1, w2, negbit _ (bitN_lt _ _), negbit _ (bitN_lt _ _)]
      simp only [bnd, grd_nI (show q < 18 by omega) (show 18 ≤ 2 ^ 31 by decide), nI_clamp (show q < 2 ^ 31 by omega), nI_1, stA_s0L (fun k => mkL (fun _ => bitN (pair / 16) k)) bf q, stA_s0L (fun k => mkL (fun _ => bitN (pair % 16) k)) af q]
      have r2 : stA 0 (fun k => mkL (fun _ => bitN (pair % 16) k)) af (q + 1) q = mkL (fun _ => bitN (pair % 16) q) := by
        have z := stA_in (lo := 0) (val := fun k => mkL (fun _ => bitN (pair % 16) k)) (base := af) (i := q + 1) (k := q) (by omega)
        rw [Nat.zero_add] at z
        exact z
      have w3 : ∀ off : Nat, (fun _ : Nat => bitN (pair % 16) q) = (fun t : Nat => Ws L R κ d pair 0 q ((off : Nat) + (t : Int))) := by
        intro off
        funext t
        rw [Ws, if_neg (by omega)]
      rw [r2]
      have u1 : vp_updL (stA 0 (fun k => mkL (fun t => Ws L R κ d pair 0 k ((0 : Nat) + (t : Int)))) lo q) q (mkL (fun _ => bitN (pair % 16) q)) = stA 0 (fun k => mkL (fun t => Ws L R κ d pair 0 k ((0 : Nat) + (t : Int)))) lo (q + 1) := by
        rw [w3 0]
        exact stA_s0L _ lo q
      have u2 : vp_updL (stA 0 (fun k => mkL (fun t => Ws L R κ d pair 0 k ((64 : Nat) + (t : Int)))) hi0 q) q (mkL (fun _ => bitN (pair % 16) q)) = stA 0 (fun k => mkL (fun t => Ws L R κ d pair 0 k ((64 : Nat) + (t : Int)))) hi0 (q + 1) := by
        rw [w3 64]
        exact stA_s0L _ hi0 q
      rw [u1, u2]) n 0 N (by omega) (by omega)
  simp only [stA_0] at e
  refine e.trans ?_
  have e2 := forL (fun nf q s => f_X8_run_L83 N (nI G) kinds delays lefts rights (fun a b c e => some (a, b, c, e)) nf (nI q) s.1 s.2.1 s.2.2.1 s.2.2.2) G (fun q => (bfL L R κ (pair / 16) n bf q, bfL L R κ (pair % 16) n af q, wvL L R κ d pair n 0 lo q, wvL L R κ d pair n 64 hi0 q)) (some (bfL L R κ (pair / 16) n bf G, bfL L R κ (pair % 16) n af G, wvL L R κ d pair n 0 lo G, wvL L R κ d pair n 64 hi0 G)) (fun nf => by
      rw [f_X8_run_L83, if_pos (le_t (Nat.le_refl _) (by omega))]) (fun q nf hq => by
      dsimp only
      obtain ⟨g1, g2, g3, g4⟩ := hg q hq
      obtain ⟨q1, q2⟩ := hlr q hq
      obtain ⟨k1, k2⟩ := hκ q hq
      obtain ⟨d1, d2⟩ := hd q hq
      obtain ⟨c1, c2⟩ := cs_in g1 hn (show q ≤ 8 by omega)
      obtain ⟨c3, c4⟩ := cs_in g2 hn (show q ≤ 8 by omega)
      have hl1 := Sg_lt g1 hn
      have hl2 := Sg_lt g2 hn
      have up1 : ∀ s, Sg n q s → Sg n (q + 1) s := by
        intro s h
        rcases h with w | w
        · exact Or.inl w
        · exact Or.inr ⟨w.1, by omega⟩
      have hB : ∀ (pat : Nat) (base : Nat → Int64) (s : Nat), Sg n q s → bfL L R κ pat n base (q + 1) (cs s) = mkL (fun _ => Bs L R κ pat q s) := by
        intro pat base s h
        rw [bfL_at (up1 s h) hn]
        have z := Bs_stay (L := L) (R := R) (κ := κ) pat (g := q) 1 s (Sg_lt h hn)
        rw [z]
      have hW1 : ∀ (base : Nat → Int64) (s : Nat), Sg n q s → wvL L R κ d pair n 0 base (q + 1) (cs s) = mkL (fun t => Ws L R κ d pair q s ((0 : Nat) + (t : Int))) := by
        intro base s h
        rw [wvL_at (up1 s h) hn]
        refine congrArg mkL (funext fun t => ?_)
        exact Ws_stay pair 1 s _ (Sg_lt h hn)
      have hwl : ∀ s t, Ws L R κ d pair q s t < 2 := fun s t => Ws_lt (G := G) hκ4 pair q (by omega) s t
      have hbl : ∀ pat s, Bs L R κ pat q s < 2 := fun pat s => Bs_lt (G := G) hκ4 pat q (by omega) s
      have eLo : ∀ s, Sg n q s → f_X8_lowLater N (nI (cs s)) (nI (d q)) (wvL L R κ d pair n 0 lo q) (bfL L R κ (pair / 16) n bf (q + 1)) = some (mkL (fun t => Ws L R κ d pair q s ((t : Int) - d q))) := by
        intro s h
        have hc := (cs_in h hn (show q ≤ 8 by omega)).1
        rw [f_X8_lowLater, grd_nI hc (by decide), grd_nI hc (by decide), nI_clamp (show cs s < 2 ^ 31 by omega), wvL_at h hn, hB _ _ _ h, later_bit d1 d2]
        refine congrArg some (congrArg mkL (funext fun t => ?_))
        by_cases ht : t < d q
        · rw [if_pos ht, Ws_neg pair q s _ (by omega)]
        · rw [if_neg ht]
          exact congrArg (Ws L R κ d pair q s) (by omega)
      have eHi : ∀ s, Sg n q s → f_X8_highLater N (nI (cs s)) (nI (d q)) (wvL L R κ d pair n 64 hi0 q) (wvL L R κ d pair n 0 lo (q + 1)) = some (mkL (fun t => Ws L R κ d pair q s ((64 : Nat) + (t : Int) - d q))) := by
        intro s h
        have hc := (cs_in h hn (show q ≤ 8 by omega)).1
        rw [f_X8_highLater, grd_nI hc (by decide), grd_nI hc (by decide), nI_clamp (show cs s < 2 ^ 31 by omega), wvL_at h hn, hW1 _ _ h, later_bit d1 d2]
        refine congrArg some (congrArg mkL (funext fun t => ?_))
        by_cases ht : t < d q
        · rw [if_pos ht]
          exact congrArg (Ws L R κ d pair q s) (by omega)
        · rw [if_neg ht]
          exact congrArg (Ws L R κ d pair q s) (by omega)
      have ub : ∀ (pat : Nat) (base : Nat → Int64), vp_updL (bfL L R κ pat n base q) (10 + q) (mkL (fun _ => mk1 (κ q) (Bs L R κ pat q (L q)) (Bs L R κ pat q (R q)))) = bfL L R κ pat n base (q + 1) := by
        intro pat base
        rw [← Bs_top]
        exact stA_sL 10 _ _ q
      have uw : ∀ (off : Nat) (base : Nat → Int64), vp_updL (wvL L R κ d pair n off base q) (10 + q) (mkL (fun t => mk1 (κ q) (Ws L R κ d pair q (L q) ((off : Nat) + (t : Int) - d q)) (Ws L R κ d pair q (R q) ((off : Nat) + (t : Int) - d q)))) = wvL L R κ d pair n off base (q + 1) := by
        intro off base
        have z := stA_sL 10 (fun q => mkL (fun t => Ws L R κ d pair (q + 1) (4 + q) ((off : Int) + t))) (stA 0 (fun k => mkL (fun t => Ws L R κ d pair 0 k ((off : Int) + t))) base n) q
        refine Eq.trans ?_ z
        refine congrArg (vp_updL (wvL L R κ d pair n off base q) (10 + q)) (congrArg mkL (funext fun t => ?_))
        exact Ws_top.symm
      have hgo : ∀ (t : Int32) (sd : Nat), t = nI (cs sd) → sd = R q → f_X8_run_L83 N (nI G) kinds delays lefts rights (fun a b c e => some (a, b, c, e)) nf (nI (q + 1)) (bfL L R κ (pair / 16) n bf (q + 1)) (bfL L R κ (pair % 16) n af (q + 1)) (wvL L R κ d pair n 0 lo (q + 1)) (wvL L R κ d pair n 64 hi0 (q + 1)) = (grd (inb t 18) <| obd1 (f_X8_made N (nI (κ q)) (mkL (fun _ => Bs L R κ (pair / 16) q (L q))) (bfL L R κ (pair / 16) n bf q t.toNatClampNeg)) fun r_18 => grd (inb t 18) <| obd1 (f_X8_made N (nI (κ q)) (mkL (fun _ => Bs L R κ (pair % 16) q (L q))) (bfL L R κ (pair % 16) n af q t.toNatClampNeg)) fun r_20 => obd1 (f_X8_lowLater N (nI (cs (L q))) (nI (d q)) (wvL L R κ d pair n 0 lo q) (vp_updL (bfL L R κ (pair / 16) n bf q) (10 + q) r_18)) fun r_22 => obd1 (f_X8_lowLater N t (nI (d q)) (wvL L R κ d pair n 0 lo q) (vp_updL (bfL L R κ (pair / 16) n bf q) (10 + q) r_18)) fun r_23 => obd1 (f_X8_made N (nI (κ q)) r_22 r_23) fun r_24 => obd1 (f_X8_highLater N (nI (cs (L q))) (nI (d q)) (wvL L R κ d pair n 64 hi0 q) (vp_updL (wvL L R κ d pair n 0 lo q) (10 + q) r_24)) fun r_26 => obd1 (f_X8_highLater N t (nI (d q)) (wvL L R κ d pair n 64 hi0 q) (vp_updL (wvL L R κ d pair n 0 lo q) (10 + q) r_24)) fun r_27 => obd1 (f_X8_made N (nI (κ q)) r_26 r_27) fun r_28 => f_X8_run_L83 N (nI G) kinds delays lefts rights (fun a b c e => some (a, b, c, e)) nf (nI (q + 1)) (vp_updL (bfL L R κ (pair / 16) n bf q) (10 + q) r_18) (vp_updL (bfL L R κ (pair % 16) n af q) (10 + q) r_20) (vp_updL (wvL L R κ d pair n 0 lo q) (10 + q) r_24) (vp_updL (wvL L R κ d pair n 64 hi0 q) (10 + q) r_28)) := by
        intro t sd ht hsd
        subst ht
        subst hsd
        rw [nI_clamp (show cs (R q) < 2 ^ 31 by omega), bfL_at g2 hn, bfL_at g2 hn, madeL_bit N k1 _ _ (fun _ => hbl _ _) (fun _ => hbl _ _), madeL_bit N k1 _ _ (fun _ => hbl _ _) (fun _ => hbl _ _)]
        simp only [grd_nI c3 (show 18 ≤ 2 ^ 31 by decide), obd1, ub, eLo _ g1, eLo _ g2]
        rw [madeL_bit N k1 _ _ (fun _ => hwl _ _) (fun _ => hwl _ _)]
        have uw0 := uw 0 lo
        have z0 : (fun t : Nat => mk1 (κ q) (Ws L R κ d pair q (L q) ((t : Int) - d q)) (Ws L R κ d pair q (R q) ((t : Int) - d q))) = (fun t : Nat => mk1 (κ q) (Ws L R κ d pair q (L q) ((0 : Nat) + (t : Int) - d q)) (Ws L R κ d pair q (R q) ((0 : Nat) + (t : Int) - d q))) := by
          funext t
          rw [show ((0 : Nat) : Int) + (t : Int) = t by omega]
        rw [z0]
        simp only [uw0, eHi _ g1, eHi _ g2]
        rw [madeL_bit N k1 _ _ (fun _ => hwl _ _) (fun _ => hwl _ _)]
        simp only [uw 64 hi0]
      rw [f_X8_run_L83, if_neg (le_f hq (by omega)), show (10 : Int32) + nI q = nI (10 + q) from nI_add 10 q]
      simp only [grd_nI (show q < 8 by omega) (show 8 ≤ 2 ^ 31 by decide), bnd, nI_clamp (show q < 2 ^ 31 by omega), q1, hK q hq, hD q hq, grd_nI c1 (show 18 ≤ 2 ^ 31 by decide), nI_clamp (show cs (L q) < 2 ^ 31 by omega), grd_nI (show 10 + q < 18 by omega) (show 18 ≤ 2 ^ 31 by decide), nI_clamp (show 10 + q < 2 ^ 31 by omega), bfL_at g1 hn, nI_1]
      by_cases h4 : κ q = 4
      · rw [if_pos ((nI4 k1).mpr h4)]
        have eR := g3 (k2.mp h4)
        have z := hgo (nI (cs (L q))) (R q) (by rw [eR]) rfl
        simp only [grd_nI c1 (show 18 ≤ 2 ^ 31 by decide), nI_clamp (show cs (L q) < 2 ^ 31 by omega), bfL_at g1 hn] at z
        exact z.symm
      · rw [if_neg (fun z => h4 ((nI4 k1).mp z))]
        have hnt : nt q = false := by
          cases z : nt q with
          | false => rfl
          | true => exact absurd (k2.mpr z) h4
        have q2' : rights q = nI (cs (R q)) := by rw [q2, hnt]; rfl
        exact (hgo (rights q) (R q) q2' rfl).symm) G 0 N (by omega) (by omega)
  simp only [stA_0] at e2
  exact e2
end RW
