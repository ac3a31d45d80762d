-- pairs
def okB (n p : Nat) : Bool := decide (p / 16 < 2 ^ n ∧ p % 16 < 2 ^ n)
theorem hasPair_tab : ∀ n, n < 5 → ∀ p, p < 256 → f_X2_hasPair 0 (nI p) (nI n) = some (zI (okB n p)) := by decide +kernel
theorem isPair_tab : ∀ n, n < 5 → ∀ p, p < 256 → f_X10_isPair 0 (nI p) (nI n) = some (zI (okB n p)) := by decide +kernel
def pz (y : Int32) (n : Nat) : Int32 := if 0 ≤ y.toInt ∧ y.toInt < 256 ∧ okB n y.toInt.toNat = true then 1 else 0
theorem pz_nI {p n : Nat} (hp : p < 256) : pz (nI p) n = zI (okB n p) := by
  unfold pz
  rw [nI_toInt (by omega), Int.toNat_natCast]
  cases h : okB n p with
  | false =>
    rw [if_neg (fun z => by have := z.2.2; cases this)]
    rfl
  | true =>
    rw [if_pos ⟨by omega, by omega, rfl⟩]
    rfl
theorem hasPair_eq (N : Nat) (y : Int32) {n : Nat} (hn : n ≤ 4) : f_X2_hasPair N y (nI n) = some (pz y n) := by
  have e0 : (0 : Int32).toInt = 0 := rfl
  have e1 : (256 : Int32).toInt = 256 := rfl
  by_cases h : 0 ≤ y.toInt ∧ y.toInt < 256
  · obtain ⟨p, hp, rfl⟩ := nI_of_rng (y := y) (n := 256) h.1 (by omega) (by decide)
    rw [pz_nI hp]
    exact hasPair_tab n (by omega) p hp
  · unfold pz
    rw [if_neg (fun z => h ⟨z.1, z.2.1⟩), f_X2_hasPair]
    simp only [bnd, fa_lt, fa_le, e0, e1]
    by_cases h1 : y.toInt < 0
    · rw [if_pos h1]
    · rw [if_neg h1, if_pos (by omega)]
theorem isPair_eq (N : Nat) (y : Int32) {n : Nat} (hn : n ≤ 4) : f_X10_isPair N y (nI n) = some (pz y n) := by
  have e0 : (0 : Int64).toInt = 0 := rfl
  have e1 : (255 : Int64).toInt = 255 := rfl
  by_cases h : 0 ≤ y.toInt ∧ y.toInt < 256
  · obtain ⟨p, hp, rfl⟩ := nI_of_rng (y := y) (n := 256) h.1 (by omega) (by decide)
    rw [pz_nI hp]
    exact isPair_tab n (by omega) p hp
  · unfold pz
    rw [if_neg (fun z => h ⟨z.1, z.2.1⟩), f_X10_isPair, in32, e0, e1, if_neg (by omega)]
    rfl
theorem pz_in {y : Int32} {n : Nat} (h : ¬ pz y n = 0) : ∃ p, p < 256 ∧ y = nI p ∧ okB n p = true := by
  unfold pz at h
  rw [zo0] at h
  have h := Classical.not_not.mp h
  obtain ⟨p, hp, rfl⟩ := nI_of_rng (y := y) (n := 256) h.1 (by omega) (by decide)
  have h2 := h.2.2
  rw [nI_toInt (by omega), Int.toNat_natCast] at h2
  exact ⟨p, hp, rfl, h2⟩
-- what stands in the list of paths
theorem rev8_lt (v : Nat) : rev8 v < 256 := by
  unfold rev8
  split <;> split <;> split <;> split <;> split <;> split <;> split <;> split <;> omega
theorem psets_mem {G : Nat} {L R : Nat → Nat} {i set : Nat} : ∀ {v : Nat}, set ∈ psets G L R i v → ∃ q, 1 ≤ q ∧ q ≤ v ∧ set = rev8 q ∧ set / 2 ^ (G - 1) = 1 ∧ (fl L R i set G).2 = true
  | 0, h => by cases h
  | v + 1, h => by
    rw [psets, List.mem_append] at h
    rcases h with h | h
    · by_cases hc : rev8 (v + 1) / 2 ^ (G - 1) = 1 ∧ (fl L R i (rev8 (v + 1)) G).2 = true
      · rw [if_pos hc] at h
        have e := List.mem_singleton.mp h
        subst e
        exact ⟨v + 1, by omega, Nat.le_refl _, rfl, hc⟩
      · rw [if_neg hc] at h
        cases h
    · obtain ⟨q, h1, h2, h3⟩ := psets_mem h
      exact ⟨q, h1, by omega, h3⟩
theorem PLn_mem {G : Nat} {L R : Nat → Nat} {i set : Nat} : ∀ {n : Nat}, (i, set) ∈ PLn G L R n → i < n ∧ set ∈ psets G L R i 255
  | 0, h => by cases h
  | n + 1, h => by
    rw [PLn, List.mem_append] at h
    rcases h with h | h
    · have := PLn_mem h
      exact ⟨by omega, this.2⟩
    · obtain ⟨x, h1, h2⟩ := List.mem_map.mp h
      cases h2
      exact ⟨by omega, h1⟩
theorem PL_in {n G : Nat} {L R : Nat → Nat} {p i set : Nat} (h : (PL n G L R)[p]? = some (i, set)) : i < n ∧ set < 256 ∧ set / 2 ^ (G - 1) = 1 ∧ (fl L R i set G).2 = true := by
  obtain ⟨h1, h2⟩ := PLn_mem (List.mem_of_getElem? h)
  obtain ⟨q, -, -, h3, h4, h5⟩ := psets_mem h2
  exact ⟨h1, by rw [h3]; exact rev8_lt q, h4, h5⟩
theorem sm_value {N : Nat} (hN : 1000 ≤ N) (y1 y2 : Int32) {n G : Nat} {L R nx : Nat → Nat} {nt : Nat → Bool} {κ d : Nat → Nat} {i1 i2 i3 : Int32} {a1 a2 a3 a4 a5 a6 a7 : Nat → Int32} {j1 j2 j3 : Int32} {b1 b2 b3 b4 b5 : Nat → Int32} {kinds delays now : Nat → Int32} (l0 s0 : Int32) (of0 bf af va : Nat → Int32) (hNet : RNet n G L R nx nt i1 i2 i3 a1 a2 a3 a4 a5 a6 a7 j1 j2 j3 b1 b2 b3 b4 b5) (hNow : RNow G nt κ d kinds delays now) :
    ∃ r l' s' of' bf' af' va', f_X9_value N y1 y2 i1 i2 l0 s0 kinds a1 of0 a2 = some (r, l', s', of') ∧ f_X10_value N y1 y2 j1 j2 now b2 b1 bf af va = some (r, bf', af', va') := by
  obtain ⟨hn, hG, rfl, rfl, rfl, rfl⟩ := hNet.c
  rw [f_X9_value, f_X10_value, hasGate_eq N y1 (by omega), isGate_eq N y1 (by omega)]
  simp only [obd1]
  by_cases hz : gz y1 G = 0
  · rw [if_pos hz, if_pos hz]
    exact ⟨_, _, _, _, _, _, _, rfl, rfl⟩
  · rw [if_neg hz, if_neg hz, hasPair_eq N y2 hn, isPair_eq N y2 hn]
    simp only [obd1]
    by_cases hq : pz y2 n = 0
    · rw [if_pos hq, if_pos hq]
      exact ⟨_, _, _, _, _, _, _, rfl, rfl⟩
    · rw [if_neg hq, if_neg hq]
      obtain ⟨g, hg, rfl⟩ := gz_in (by omega) hz
      obtain ⟨p, hp, rfl, -⟩ := pz_in hq
      rw [settle_eq hN hNet.1 hNow.1.1 hNet.2.2.1 (fun g h => (hNow.2.1 g h).1) hp, show (0 : Int32) = nI 0 from rfl, findPair_eq hN hNet.1 hNow.1.1 hNet.2.2.2.1 (lv := 0) (by decide) (fun g h => by have := (hNow.2.2 g h).1; rw [Nat.zero_add] at this; rw [Nat.mul_zero, Nat.zero_add]; exact this) hp]
      simp only [obd3]
      rw [show (10 : Int32) + nI g = nI (10 + g) from nI_add 10 g, l4, grd_nI (show 10 + g < 18 by omega) (by decide), grd_nI (show 4 + g < 12 by omega) (by decide), nI_clamp (show 10 + g < 2 ^ 31 by omega), nI_clamp (show 4 + g < 2 ^ 31 by omega)]
      have hs : Sg n G (4 + g) := Or.inr ⟨by omega, by omega⟩
      have r1 := ofC_at (L := L) (R := R) (κ := κ) (pair := p) (base := of0) hs hn
      have r2 := vaM_at (L := L) (R := R) (κ := κ) (pair := p) (base := va) hs hn
      rw [show cs (4 + g) = 10 + g by unfold cs; rw [if_neg (by omega)]; omega] at r1
      rw [r1, r2]
      exact ⟨_, _, _, _, _, _, _, rfl, rfl⟩
theorem sm_tests {N : Nat} (hN : 1000 ≤ N) (y1 y2 : Int32) {n G : Nat} {L R nx : Nat → Nat} {nt : Nat → Bool} {κ d : Nat → Nat} {i1 i2 i3 : Int32} {a1 a2 a3 a4 a5 a6 a7 : Nat → Int32} {j1 j2 j3 : Int32} {b1 b2 b3 b4 b5 : Nat → Int32} {kinds delays now : Nat → Int32} (l0 s0 : Int32) (of0 bf af va : Nat → Int32) (hNet : RNet n G L R nx nt i1 i2 i3 a1 a2 a3 a4 a5 a6 a7 j1 j2 j3 b1 b2 b3 b4 b5) (hNow : RNow G nt κ d kinds delays now) :
    ∃ r l' s' of' bf' af' va', f_X9_tests N y1 y2 i1 i2 i3 l0 s0 kinds a1 of0 a2 a4 a7 = some (r, l', s', of') ∧ f_X10_tests N y1 y2 j1 j2 j3 now b2 b1 bf af va b4 b5 = some (r, bf', af', va') := by
  obtain ⟨hn, hG, rfl, rfl, rfl, rfl⟩ := hNet.c
  obtain ⟨hC, hnx, hNC, hNM, hPC, hPM⟩ := hNet
  have e3 := hPC.1
  have f3 := hPM.1
  have h55 := hPC.2.1
  subst e3
  subst f3
  rw [f_X9_tests, f_X10_tests, hasPath_eq N y1 (by omega), isPath_eq N y1 (by omega)]
  simp only [obd1]
  by_cases hz : gz y1 (PL n G L R).length = 0
  · rw [if_pos hz, if_pos hz]
    exact ⟨_, _, _, _, _, _, _, rfl, rfl⟩
  · rw [if_neg hz, if_neg hz, hasPair_eq N y2 hn, isPair_eq N y2 hn]
    simp only [obd1]
    by_cases hq : pz y2 n = 0
    · rw [if_pos hq, if_pos hq]
      exact ⟨_, _, _, _, _, _, _, rfl, rfl⟩
    · rw [if_neg hq, if_neg hq]
      obtain ⟨p, hp, rfl⟩ := gz_in (by omega) hz
      obtain ⟨q, hq9, rfl, -⟩ := pz_in hq
      obtain ⟨⟨i, set⟩, hel⟩ : ∃ x, (PL n G L R)[p]? = some x := ⟨_, List.getElem?_eq_getElem hp⟩
      obtain ⟨hi, hset, -, hfl⟩ := PL_in hel
      obtain ⟨m1, m2⟩ := hPM.2.2 p i set hel
      have hK : ∀ g, g < G → now (16 * 0 + g) = nI (κ g) := fun g h => by have := (hNow.2.2 g h).1; rw [Nat.zero_add] at this; rw [Nat.mul_zero, Nat.zero_add]; exact this
      rw [settle_eq hN hC hNow.1.1 hNC (fun g h => (hNow.2.1 g h).1) hq9, show (0 : Int32) = nI 0 from rfl, findPair_eq hN hC hNow.1.1 hNM (lv := 0) (by decide) hK hq9]
      simp only [obd3]
      rw [howFar_eq hn hG hPC hel hi, grd_nI (show p < 64 by omega) (by decide), grd_nI (show p < 64 by omega) (by decide), nI_clamp (show p < 2 ^ 31 by omega), m1, m2, testsOf_eq hN hC hNow.1.1 hNM (lv := 0) (by decide) hK hq9 bf af va hi hset hfl]
      simp only [obd1]
      exact ⟨_, _, _, _, _, _, _, rfl, rfl⟩
