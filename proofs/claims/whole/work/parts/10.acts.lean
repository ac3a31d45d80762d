-- gates by number
def gz (y : Int32) (G : Nat) : Int32 := if 0 ≤ y.toInt ∧ y.toInt < (G : Int) then 1 else 0
theorem hasGate_eq (N : Nat) (y : Int32) {G : Nat} (hG : G < 2 ^ 30) : f_X2_hasGate N y (nI G) = some (gz y G) := by
  rw [f_X2_hasGate, gz]
  have e0 : (0 : Int32).toInt = 0 := rfl
  simp only [bnd, fa_lt, fa_le, e0, nI_toInt (show G < 2 ^ 31 by omega)]
  by_cases h1 : y.toInt < 0
  · rw [if_pos h1, if_neg (by omega)]
  · rw [if_neg h1]
    by_cases h2 : (G : Int) ≤ y.toInt
    · rw [if_pos h2, if_neg (by omega)]
    · rw [if_neg h2, if_pos (by omega)]
theorem isZ_ite (c : Prop) [Decidable c] : isZ (if c then (1 : Int32) else 0) = true := by
  by_cases h : c
  · rw [if_pos h]; rfl
  · rw [if_neg h]; rfl
theorem isGate_eq (N : Nat) (y : Int32) {G : Nat} (hG : G < 2 ^ 30) : f_X10_isGate N y (nI G) = some (gz y G) := by
  have e1 : (nI G - 1).toInt = (G : Int) - 1 := pk_sub_toInt (b := 1) hG (by decide)
  have e0 : (0 : Int64).toInt = 0 := rfl
  rw [f_X10_isGate, in32, Int32.toInt_toInt64, e1, e0]
  simp only [obd1]
  rw [grd_t (isZ_ite _), gz]
  by_cases h : 0 ≤ y.toInt ∧ y.toInt < (G : Int)
  · rw [if_pos h, if_pos (by omega)]
  · rw [if_neg h, if_neg (by omega)]
theorem gz_in {y : Int32} {G : Nat} (hG : G < 2 ^ 30) (h : ¬ gz y G = 0) : ∃ g, g < G ∧ y = nI g := by
  rw [gz, zo0] at h
  have h := Classical.not_not.mp h
  exact nI_of_rng h.1 (by omega) (by omega)
theorem gz_nI {g G : Nat} (h : g < G) (hG : G < 2 ^ 30) : gz (nI g) G = 1 := by
  rw [gz, nI_toInt (by omega), if_pos (by omega)]
theorem cs_lt {s : Nat} (h : s < 100) : cs s < 200 := by unfold cs; split <;> omega
theorem told_nI (N : Nat) {s : Nat} (hs : s < 1000) : f_X10_told N (nI s) = some (nI (cs s)) := by
  have e4 : (4 : Int32).toInt = 4 := rfl
  have e9 : (-9 : Int32).toInt = -9 := rfl
  rw [f_X10_told, if_neg (by rw [fa_eq, e9, nI_toInt (by omega)]; omega)]
  simp only [fa_le, e4, nI_toInt (show s < 2 ^ 31 by omega)]
  unfold cs
  by_cases h : s < 4
  · rw [if_neg (by omega), if_pos h]
  · rw [if_pos (by omega), if_neg h]
    exact congrArg some (nI_add s 6)
theorem told_9 (N : Nat) : f_X10_told N (-9) = some (-9) := by
  rw [f_X10_told, if_pos rfl]
theorem Sg_lt {n g s : Nat} (h : Sg n g s) (hn : n ≤ 4) : s < 4 + g := by
  rcases h with h | h <;> omega
theorem told_other (N : Nat) (b : Bool) {s : Nat} (hs : s < 1000) : f_X10_told N (if b then -9 else nI s) = some (if b then -9 else nI (cs s)) := by
  cases b
  · exact told_nI N hs
  · exact told_9 N
theorem s_add0 (x : Int32) : (0 : Int32) + x = x := Int32.zero_add x
theorem l8_add (g : Nat) : (8 : Int32) + nI g = nI (8 + g) := nI_add 8 g
theorem RNet.c {n G : Nat} {L R nx : Nat → Nat} {nt : Nat → Bool} {i1 i2 i3 : Int32} {a1 a2 a3 a4 a5 a6 a7 : Nat → Int32} {j1 j2 j3 : Int32} {b1 b2 b3 b4 b5 : Nat → Int32} (h : RNet n G L R nx nt i1 i2 i3 a1 a2 a3 a4 a5 a6 a7 j1 j2 j3 b1 b2 b3 b4 b5) : n ≤ 4 ∧ G ≤ 8 ∧ i1 = nI n ∧ i2 = nI G ∧ j1 = nI n ∧ j2 = nI G := ⟨h.1.1, h.1.2.1, h.2.2.1.1, h.2.2.1.2.1, h.2.2.2.1.1, h.2.2.2.1.2.1⟩
theorem sm_gate (N : Nat) (y1 y2 : Int32) {n G : Nat} {L R nx : Nat → Nat} {nt : Nat → Bool} {κ d : Nat → Nat} {i1 i2 i3 : Int32} {a1 a2 a3 a4 a5 a6 a7 : Nat → Int32} {j1 j2 j3 : Int32} {b1 b2 b3 b4 b5 : Nat → Int32} {kinds delays now : Nat → Int32} (hNet : RNet n G L R nx nt i1 i2 i3 a1 a2 a3 a4 a5 a6 a7 j1 j2 j3 b1 b2 b3 b4 b5) (hNow : RNow G nt κ d kinds delays now) : ∃ r, f_X9_gate N y1 y2 i2 kinds a1 a2 delays = some r ∧ f_X10_gate N y1 y2 j2 now b1 b2 = some r := by
  obtain ⟨hn, hG, -, rfl, -, rfl⟩ := hNet.c
  obtain ⟨hC, -, ⟨-, -, hlr, -⟩, ⟨-, -, hoo, -⟩, -⟩ := hNet
  obtain ⟨-, hSC, hSM⟩ := hNow
  rw [f_X9_gate, f_X10_gate, hasGate_eq N y1 (by omega), isGate_eq N y1 (by omega)]
  simp only [obd1]
  by_cases hz : gz y1 G = 0
  · rw [if_pos hz, if_pos hz]
    exact ⟨_, rfl, rfl⟩
  · rw [if_neg hz, if_neg hz]
    obtain ⟨g, hg, rfl⟩ := gz_in (by omega) hz
    obtain ⟨hL, hR⟩ := hlr g hg
    obtain ⟨hO, hP⟩ := hoo g hg
    obtain ⟨hc1, hc2, hc3, hc4⟩ := hC.2.2.2.2 g hg
    have hl1 := Sg_lt hc1 hn
    have hl2 := Sg_lt hc2 hn
    have hs := hSM g hg
    rw [Nat.zero_add] at hs
    rw [s_add0, l8_add]
    simp only [grd_nI (show g < 8 by omega) (show 8 ≤ 2 ^ 31 by decide), grd_nI (show g < 32 by omega) (show 32 ≤ 2 ^ 31 by decide), grd_nI (show 8 + g < 32 by omega) (show 32 ≤ 2 ^ 31 by decide), nI_clamp (show g < 2 ^ 31 by omega), nI_clamp (show 8 + g < 2 ^ 31 by omega), (hSC g hg).1, (hSC g hg).2, hL, hR, hO, hP, hs.1, hs.2, told_nI N (show L g < 1000 by omega), told_other N (nt g) (show R g < 1000 by omega)]
    by_cases q0 : y2 = 0
    · simp only [if_pos q0]
      exact ⟨_, rfl, rfl⟩
    · simp only [if_neg q0]
      by_cases q1 : y2 = 1
      · simp only [if_pos q1]
        exact ⟨_, rfl, rfl⟩
      · simp only [if_neg q1]
        by_cases q2 : y2 = 2
        · simp only [if_pos q2]
          exact ⟨_, rfl, rfl⟩
        · simp only [if_neg q2]
          by_cases q3 : y2 = 3
          · simp only [if_pos q3]
            exact ⟨_, rfl, rfl⟩
          · simp only [if_neg q3]
            exact ⟨_, rfl, rfl⟩
