-- drawn
theorem drawV (x : Int64) : ∃ k, k < 2 ^ 31 ∧ ((x.toUInt64 >>> ((33 : Int32).toInt64.toUInt64 &&& Int64.toUInt64 63)).toInt64).toInt32 = nI k := by
  have h33 : ((33 : Int32).toInt64.toUInt64 &&& Int64.toUInt64 63) = 33 := by decide
  rw [h33]
  have hb : (x.toUInt64 >>> 33).toNat < 2 ^ 31 := by
    rw [UInt64.toNat_shiftRight]
    have h := x.toUInt64.toNat_lt
    have e : (33 : UInt64).toNat % 64 = 33 := by decide
    rw [e, Nat.shiftRight_eq_div_pow]
    omega
  refine ⟨(x.toUInt64 >>> 33).toNat, hb, ?_⟩
  generalize x.toUInt64 >>> 33 = w at hb ⊢
  have e : w.toInt64 = lN w.toNat := by
    apply Int64.toBitVec_inj.mp
    show w.toBitVec = BitVec.ofNat 64 w.toNat
    exact (BitVec.ofNat_toNat 64 w.toBitVec).symm.trans (by simp)
  rw [e, lN_i]
def pw (n a b : Nat) : Nat := a % 2 ^ n * 16 + b % 2 ^ n
theorem pw_tab : ∀ n, n < 5 → ∀ a, a < 16 → ∀ b, b < 16 → f_X2_pairWithin 0 (nI a * 16 + nI b) (nI n) = some (nI (pw n a b)) ∧ (16 : Int32) * (nI a &&& ((1 : Int32) <<< (nI n &&& 31)) - 1) + (nI b &&& ((1 : Int32) <<< (nI n &&& 31)) - 1) = nI (pw n a b) ∧ pw n a b < 256 := by decide +kernel
def tsI (t : Nat → Nat) (acc : Int32) : Nat → Int32
  | 0 => acc
  | q + 1 => tsI t acc q + nI (t q)
theorem sm_drawn {N : Nat} (hN : 1000 ≤ N) (y1 : Int32) {n G : Nat} {L R nx : Nat → Nat} {nt : Nat → Bool} {κ d : Nat → Nat} {i1 i2 i3 : Int32} {a1 a2 a3 a4 a5 a6 a7 : Nat → Int32} {j1 j2 j3 : Int32} {b1 b2 b3 b4 b5 : Nat → Int32} {kinds delays now : Nat → Int32} (ld : Int64) (l0 s0 : Int32) (of0 bf af va : Nat → Int32) (hNet : RNet n G L R nx nt i1 i2 i3 a1 a2 a3 a4 a5 a6 a7 j1 j2 j3 b1 b2 b3 b4 b5) (hNow : RNow G nt κ d kinds delays now) :
    ∃ r ld' l' s' of' bf' af' va', f_X9_drawn N y1 ld i1 i2 i3 l0 s0 kinds a1 of0 a2 a4 a7 = some (r, ld', l', s', of') ∧ f_X10_drawn N y1 j1 j2 j3 ld now b2 b1 bf af va b4 b5 = some (r, ld', bf', af', va') := by
  obtain ⟨hn, hG, rfl, rfl, rfl, rfl⟩ := hNet.c
  obtain ⟨hC, hnx, hNC, hNM, hPC, hPM⟩ := hNet
  have e3 := hPC.1
  have f3 := hPM.1
  have h55 := hPC.2.1
  subst e3
  subst f3
  have hK : ∀ g, g < G → now (16 * 0 + g) = nI (κ g) := fun g h => by have := (hNow.2.2 g h).1; rw [Nat.zero_add] at this; rw [Nat.mul_zero, Nat.zero_add]; exact this
  have z1 : (1 : Int32).toInt = 1 := rfl
  have z2 : (20 : Int32).toInt = 20 := rfl
  have z3 : (1 : Int64).toInt = 1 := rfl
  have z4 : (20 : Int64).toInt = 20 := rfl
  rw [f_X9_drawn, f_X10_drawn, in32]
  simp only [obd1, zo0, fa_lt, fa_le, z1, z2, z3, z4]
  by_cases hy : 1 ≤ y1.toInt ∧ y1.toInt ≤ 20
  · rw [if_neg (c := y1.toInt < 1) (by omega), if_pos (c := y1.toInt ≤ 20) (by omega), if_neg (c := ¬ (1 ≤ y1.toInt ∧ y1.toInt ≤ 20)) (by omega)]
    simp only [bnd]
    obtain ⟨M, hM, rfl⟩ := nI_of_rng (y := y1) (n := 21) (by omega) (by omega) (by decide)
    have key : ∀ (m i nf ng : Nat) (acc : Int32) (ld : Int64) (l0 s0 : Int32) (of0 bf af va : Nat → Int32), i + m = M → m < nf → m < ng → ∃ r ld' l' s' of' bf' af' va', f_X9_drawn_L18 N (nI M) (nI n) (nI G) (nI (PL n G L R).length) kinds a1 a2 a4 a7 (fun x2_1 i_this_lastDraw_2 i_levels_links_3 i_levels_sureLinks_4 k_levels_of_5 => some (x2_1, i_this_lastDraw_2, i_levels_links_3, i_levels_sureLinks_4, k_levels_of_5)) nf acc (nI i) ld l0 s0 of0 = some (r, ld', l', s', of') ∧ f_X10_drawn_L29 N (nI M) (nI n) (nI G) (nI (PL n G L R).length) now b2 b1 b4 b5 ((1 : Int32) <<< (nI n &&& 31) - 1) (fun x3_3 i_this_seed_4 k_before_5 k_after_6 k_values_7 => some (x3_3, i_this_seed_4, k_before_5, k_after_6, k_values_7)) ng acc (nI i) ld bf af va = some (r, ld', bf', af', va') := by
      intro m
      induction m with
      | zero =>
        intro i nf ng acc ld l0 s0 of0 bf af va hi hf hg
        obtain ⟨nf, rfl⟩ : ∃ q, nf = q + 1 := ⟨nf - 1, by omega⟩
        obtain ⟨ng, rfl⟩ : ∃ q, ng = q + 1 := ⟨ng - 1, by omega⟩
        rw [f_X9_drawn_L18, f_X10_drawn_L29, if_pos (le_t (by omega) (by omega)), if_pos (le_t (by omega) (by omega))]
        exact ⟨_, _, _, _, _, _, _, _, rfl, rfl⟩
      | succ m ih =>
        intro i nf ng acc ld l0 s0 of0 bf af va hi hf hg
        obtain ⟨nf, rfl⟩ : ∃ q, nf = q + 1 := ⟨nf - 1, by omega⟩
        obtain ⟨ng, rfl⟩ : ∃ q, ng = q + 1 := ⟨ng - 1, by omega⟩
        rw [f_X9_drawn_L18, f_X10_drawn_L29, if_neg (le_f (by omega) (by omega)), if_neg (le_f (by omega) (by omega))]
        simp only [bnd]
        obtain ⟨v, hv, ev⟩ := drawV (ld * 6364136223846793005 + 1442695040888963407)
        rw [ev, r16 hv, d16 hv, r16 (show v / 16 < 2 ^ 31 by omega)]
        obtain ⟨t1, t2, t3⟩ := pw_tab n (by omega) (v % 16) (by omega) (v / 16 % 16) (by omega)
        have t1 : f_X2_pairWithin N (nI (v % 16) * 16 + nI (v / 16 % 16)) (nI n) = some (nI (pw n (v % 16) (v / 16 % 16))) := t1
        rw [t1, t2]
        generalize pw n (v % 16) (v / 16 % 16) = pr at t3 ⊢
        simp only [obd1]
        rw [settle_eq hN hC hNow.1.1 hNC (fun g h => (hNow.2.1 g h).1) t3, show (0 : Int32) = nI 0 from rfl, findPair_eq hN hC hNow.1.1 hNM (lv := 0) (by decide) hK t3]
        simp only [obd3]
        obtain ⟨t, ht⟩ : ∃ t : Nat → Nat, ∀ p i set, (PL n G L R)[p]? = some (i, set) → t p = tst L R κ pr G i set G := ⟨fun p => match (PL n G L R)[p]? with | some x => tst L R κ pr G x.1 x.2 G | none => 0, fun p i set h => by show (match (PL n G L R)[p]? with | some x => tst L R κ pr G x.1 x.2 G | none => 0) = _; rw [h]⟩
        have eC : ∀ (j : Int32 → Option (Int32 × Int64 × Int32 × Int32 × (Nat → Int32))), f_X9_drawn_L102 N (nI (PL n G L R).length) a4 a7 (nI (lnkM L R κ pr G 1 G)) (nI (lnkM L R κ pr G 2 G)) (ofC L R κ pr n of0 G) j N acc (nI 0) = j (tsI t acc (PL n G L R).length) := fun j =>
          forL (fun nf q s => f_X9_drawn_L102 N (nI (PL n G L R).length) a4 a7 (nI (lnkM L R κ pr G 1 G)) (nI (lnkM L R κ pr G 2 G)) (ofC L R κ pr n of0 G) j nf s (nI q)) (PL n G L R).length (fun q => tsI t acc q) (j (tsI t acc (PL n G L R).length)) (fun nf => by
            rw [f_X9_drawn_L102, if_pos (le_t (Nat.le_refl _) (by omega))]) (fun q nf hq => by
            obtain ⟨⟨i, set⟩, hel⟩ : ∃ x, (PL n G L R)[q]? = some x := ⟨_, List.getElem?_eq_getElem hq⟩
            obtain ⟨hi, hset, -, hfl⟩ := PL_in hel
            rw [f_X9_drawn_L102, if_neg (le_f hq (by omega)), howFar_eq hn hG hPC hel hi, ← ht q i set hel]
            simp only [obd1, bnd, nI_1, tsI]) (PL n G L R).length 0 N (by omega) (by omega)
        have eM : ∀ (j : Int32 → Option (Int32 × Int64 × (Nat → Int32) × (Nat → Int32) × (Nat → Int32))), f_X10_drawn_L90 N (nI G) (nI (PL n G L R).length) now b2 b1 b4 b5 (bfM L R κ (pr / 16) n bf G) (bfM L R κ (pr % 16) n af G) (vaM L R κ pr n va G) j N acc (nI 0) = j (tsI t acc (PL n G L R).length) := fun j =>
          forL (fun nf q s => f_X10_drawn_L90 N (nI G) (nI (PL n G L R).length) now b2 b1 b4 b5 (bfM L R κ (pr / 16) n bf G) (bfM L R κ (pr % 16) n af G) (vaM L R κ pr n va G) j nf s (nI q)) (PL n G L R).length (fun q => tsI t acc q) (j (tsI t acc (PL n G L R).length)) (fun nf => by
            rw [f_X10_drawn_L90, if_pos (le_t (Nat.le_refl _) (by omega))]) (fun q nf hq => by
            obtain ⟨⟨i, set⟩, hel⟩ : ∃ x, (PL n G L R)[q]? = some x := ⟨_, List.getElem?_eq_getElem hq⟩
            obtain ⟨hi, hset, -, hfl⟩ := PL_in hel
            obtain ⟨m1, m2⟩ := hPM.2.2 q i set hel
            rw [f_X10_drawn_L90, if_neg (le_f hq (by omega)), grd_nI (show q < 64 by omega) (by decide), grd_nI (show q < 64 by omega) (by decide), nI_clamp (show q < 2 ^ 31 by omega), m1, m2, show (0 : Int32) = nI 0 from rfl, testsOf_eq hN hC hNow.1.1 hNM (lv := 0) (by decide) hK t3 bf af va hi hset hfl, ← ht q i set hel]
            simp only [obd1, bnd, nI_1, tsI]) (PL n G L R).length 0 N (by omega) (by omega)
        rw [eC, eM, nI_1]
        exact ih (i + 1) nf ng _ _ _ _ _ _ _ _ (by omega) (by omega) (by omega)
    exact key M 0 N N 0 ld l0 s0 of0 bf af va (by omega) (by omega) (by omega)
  · rw [if_pos (c := ¬ (1 ≤ y1.toInt ∧ y1.toInt ≤ 20)) hy]
    by_cases hy2 : y1.toInt < 1
    · rw [if_pos hy2]
      exact ⟨_, _, _, _, _, _, _, _, rfl, rfl⟩
    · rw [if_neg hy2, if_neg (by omega)]
      exact ⟨_, _, _, _, _, _, _, _, rfl, rfl⟩
