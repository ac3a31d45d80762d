-- wave and late
def tz (y : Int32) : Int32 := if 0 ≤ y.toInt ∧ y.toInt ≤ 99 then 1 else 0
theorem tz_in {y : Int32} (h : ¬ tz y = 0) : ∃ t, t < 100 ∧ y = nI t := by
  rw [tz, zo0] at h
  have h := Classical.not_not.mp h
  exact nI_of_rng h.1 (n := 100) (by omega) (by decide)
theorem tzM (N : Nat) (y : Int32) : f_X10_in N (y.toInt64) 0 99 = some (tz y) := by
  rw [in_spec, tz, Int32.toInt_toInt64]
  rfl
theorem tzC {ρ : Type} (y : Int32) (a b : ρ) : (if y < 0 then a else if y ≤ 99 then b else a) = if tz y = 0 then a else b := by
  have e0 : (0 : Int32).toInt = 0 := rfl
  have e1 : (99 : Int32).toInt = 99 := rfl
  rw [tz]
  simp only [zo0, fa_lt, fa_le, e0, e1]
  by_cases h1 : y.toInt < 0
  · rw [if_pos h1, if_pos (by omega)]
  · by_cases h2 : y.toInt ≤ 99
    · rw [if_neg h1, if_pos h2, if_neg (by omega)]
    · rw [if_neg h1, if_neg h2, if_pos (by omega)]
theorem sm_wave {N : Nat} (hN : 1000 ≤ N) (y1 y2 y3 : Int32) {n G : Nat} {L R nx : Nat → Nat} {nt : Nat → Bool} {κ d : Nat → Nat} {i1 i2 i3 : Int32} {a1 a2 a3 a4 a5 a6 a7 : Nat → Int32} {j1 j2 j3 : Int32} {b1 b2 b3 b4 b5 : Nat → Int32} {kinds delays now : Nat → Int32} (c1 c2 c3 c4 : Nat → Int64) (bf af va W : Nat → Int32) (hNet : RNet n G L R nx nt i1 i2 i3 a1 a2 a3 a4 a5 a6 a7 j1 j2 j3 b1 b2 b3 b4 b5) (hNow : RNow G nt κ d kinds delays now) :
    ∃ r c1' c2' c3' c4' bf' af' va' W', f_X9_wave N y1 y2 y3 i1 i2 kinds delays a1 a2 c1 c2 c3 c4 = some (r, c1', c2', c3', c4') ∧ f_X10_wave N y1 y2 y3 j1 j2 now b2 b1 bf af va W = some (r, bf', af', va', W') := by
  obtain ⟨hn, hG, rfl, rfl, rfl, rfl⟩ := hNet.c
  rw [f_X9_wave, f_X10_wave, hasGate_eq N y1 (by omega), isGate_eq N y1 (by omega), tzC, tzM]
  simp only [obd1]
  by_cases hz : gz y1 G = 0
  · rw [if_pos hz, if_pos hz]
    exact ⟨_, _, _, _, _, _, _, _, _, rfl, rfl⟩
  · rw [if_neg hz, if_neg hz, hasPair_eq N y2 hn, isPair_eq N y2 hn]
    simp only
    by_cases hq : pz y2 n = 0
    · rw [if_pos hq, if_pos hq]
      exact ⟨_, _, _, _, _, _, _, _, _, rfl, rfl⟩
    · rw [if_neg hq, if_neg hq]
      by_cases ht : tz y3 = 0
      · rw [if_pos ht, if_pos ht]
        exact ⟨_, _, _, _, _, _, _, _, _, rfl, rfl⟩
      · rw [if_neg ht, if_neg ht]
        obtain ⟨g, hg, rfl⟩ := gz_in (by omega) hz
        obtain ⟨p, hp, rfl, -⟩ := pz_in hq
        obtain ⟨t, ht', rfl⟩ := tz_in ht
        have hκ4 : ∀ g, g < G → κ g ≤ 4 := fun g h => (hNow.1.1 g h).1
        have hd : ∀ g, g < G → 1 ≤ d g ∧ d g ≤ 18 := fun g h => ⟨(hNow.1.2 g h).1, by have := (hNow.1.2 g h).2; omega⟩
        obtain ⟨W', w1, w2⟩ := findWaves_eq hN hNet.1 hNow.1.1 hd hNet.2.2.2.1 (now := now) (lv := 0) (by decide) (fun g h => by have := (hNow.2.2 g h).1; rw [Nat.zero_add] at this; rw [Nat.mul_zero, Nat.zero_add]; exact this) (fun g h => by have := (hNow.2.2 g h).2; rw [Nat.mul_zero]; exact this) hp bf af va W
        have hs : Sg n G (4 + g) := Or.inr ⟨by omega, by omega⟩
        have ea : f_X10_waveAt N (nI (4 + g)) (nI t) W' (bfM L R κ (p / 16) n bf G) = some (nI (Ws L R κ d p G (4 + g) t)) := by
          rw [f_X10_waveAt, if_pos (show (0 : Int32) ≤ nI t from le_t (Nat.zero_le _) (by omega)), show (100 : Int32) = nI 100 from rfl, pk_mul, nI_add, grd_nI (show 100 * (4 + g) + t < 1200 by omega) (by decide), nI_clamp (show 100 * (4 + g) + t < 2 ^ 31 by omega), w2 _ _ hs ht']
        rw [run_eq hN hNet.1 hNow.1.1 hd hNet.2.2.1 (fun g h => (hNow.2.1 g h).1) (fun g h => (hNow.2.1 g h).2) hp, show (0 : Int32) = nI 0 from rfl, w1]
        simp only [obd4]
        rw [show (10 : Int32) + nI g = nI (10 + g) from nI_add 10 g, show (4 : Int32) + nI g = nI (4 + g) from nI_add 4 g, waveC N hn hG hκ4 hg ht', ea]
        exact ⟨_, _, _, _, _, _, _, _, _, rfl, rfl⟩
theorem sm_late {N : Nat} (hN : 1000 ≤ N) (y1 y2 : Int32) {n G : Nat} {L R nx : Nat → Nat} {nt : Nat → Bool} {κ d : Nat → Nat} {i1 i2 i3 : Int32} {a1 a2 a3 a4 a5 a6 a7 : Nat → Int32} {j1 j2 j3 : Int32} {b1 b2 b3 b4 b5 : Nat → Int32} {kinds delays now : Nat → Int32} (c1 c2 c3 c4 : Nat → Int64) (bf af va W : Nat → Int32) (hNet : RNet n G L R nx nt i1 i2 i3 a1 a2 a3 a4 a5 a6 a7 j1 j2 j3 b1 b2 b3 b4 b5) (hNow : RNow G nt κ d kinds delays now) :
    ∃ r c1' c2' c3' c4' bf' af' va' W', f_X9_late N y1 y2 i1 i2 kinds delays a1 a2 c1 c2 c3 c4 = some (r, c1', c2', c3', c4') ∧ f_X10_late N y1 y2 j1 j2 now b2 b1 bf af va W = some (r, bf', af', va', W') := by
  obtain ⟨hn, hG, rfl, rfl, rfl, rfl⟩ := hNet.c
  rw [f_X9_late, f_X10_late, hasPair_eq N y1 hn, isPair_eq N y1 hn, tzC, tzM]
  simp only [obd1]
  by_cases hq : pz y1 n = 0
  · rw [if_pos hq, if_pos hq]
    exact ⟨_, _, _, _, _, _, _, _, _, rfl, rfl⟩
  · rw [if_neg hq, if_neg hq]
    by_cases ht : tz y2 = 0
    · rw [if_pos ht, if_pos ht]
      exact ⟨_, _, _, _, _, _, _, _, _, rfl, rfl⟩
    · rw [if_neg ht, if_neg ht]
      obtain ⟨p, hp, rfl, -⟩ := pz_in hq
      obtain ⟨t, ht', rfl⟩ := tz_in ht
      by_cases h0 : nI G = 0
      · rw [if_pos h0, if_pos h0]
        exact ⟨_, _, _, _, _, _, _, _, _, rfl, rfl⟩
      · rw [if_neg h0, if_neg h0]
        have hG0 : 0 < G := by
          rcases Nat.eq_zero_or_pos G with h | h
          · exact absurd (h ▸ rfl) h0
          · exact h
        have hκ4 : ∀ g, g < G → κ g ≤ 4 := fun g h => (hNow.1.1 g h).1
        have hd : ∀ g, g < G → 1 ≤ d g ∧ d g ≤ 18 := fun g h => ⟨(hNow.1.2 g h).1, by have := (hNow.1.2 g h).2; omega⟩
        obtain ⟨W', w1⟩ := lateM hN hNet.1 hG0 hNow.1.1 hd hNet.2.2.2.1 (now := now) (lv := 0) (by decide) (fun g h => by have := (hNow.2.2 g h).1; rw [Nat.zero_add] at this; rw [Nat.mul_zero, Nat.zero_add]; exact this) (fun g h => by have := (hNow.2.2 g h).2; rw [Nat.mul_zero]; exact this) hp ht' bf af va W
        have w2 : f_X10_isLate N 0 (nI p) (nI t) (nI n) (nI G) now b2 b1 bf af va W = _ := w1
        rw [run_eq hN hNet.1 hNow.1.1 hd hNet.2.2.1 (fun g h => (hNow.2.1 g h).1) (fun g h => (hNow.2.1 g h).2) hp, w2]
        simp only [obd4, obd5]
        rw [lateC N hn hG hG0 hκ4 ht']
        simp only
        by_cases hl : zI (ltE L R κ d G p t) = 0
        · rw [if_pos hl, if_pos hl]
          exact ⟨_, _, _, _, _, _, _, _, _, rfl, rfl⟩
        · rw [if_neg hl, if_neg hl]
          exact ⟨_, _, _, _, _, _, _, _, _, rfl, rfl⟩
