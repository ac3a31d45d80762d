-- slower: both answers
theorem sm_slower {N : Nat} (hN : 1000 ≤ N) (y1 : Int32) {n G : Nat} {L R nx : Nat → Nat} {nt : Nat → Bool} {κ d : Nat → Nat} {i1 i2 i3 : Int32} {a1 a2 a3 a4 a5 a6 a7 : Nat → Int32} {j1 j2 j3 : Int32} {b1 b2 b3 b4 b5 : Nat → Int32} {kinds delays now : Nat → Int32} {size seen : Int32} {pairs times lates sp sq sl : Nat → Int32} (tk td : Nat → Int32) (c1 c2 c3 c4 : Nat → Int64) (bf af va W : Nat → Int32) (hNet : RNet n G L R nx nt i1 i2 i3 a1 a2 a3 a4 a5 a6 a7 j1 j2 j3 b1 b2 b3 b4 b5) (hNow : RNow G nt κ d kinds delays now) (hSeen : RSeen size pairs times lates seen sp sq sl) :
    ∃ r tk' td' c1' c2' c3' c4' now' bf' af' va' W', f_X9_slower N y1 i1 i2 size kinds tk delays td pairs a1 a2 c1 c2 c3 c4 times lates = some (r, tk', td', c1', c2', c3', c4') ∧ f_X10_slower N y1 j1 j2 seen now sp sq b2 b1 bf af va W sl = some (r, now', bf', af', va', W') ∧ RNow G nt κ d kinds delays now' := by
  obtain ⟨hn, hG, rfl, rfl, rfl, rfl⟩ := hNet.c
  obtain ⟨k, hk, rfl, rfl, hj⟩ := hSeen
  have e0 : (0 : Int32).toInt = 0 := rfl
  have e1 : (1 : Int32).toInt = 1 := rfl
  have f0 : (0 : Int64).toInt = 0 := rfl
  have f1 : (1 : Int64).toInt = 1 := rfl
  rw [f_X9_slower, f_X10_slower, in_spec, Int32.toInt_toInt64, f0, f1]
  simp only [obd1, zo0, fa_lt, fa_le, e0, e1]
  by_cases h1 : y1.toInt < 0
  · rw [if_pos h1, if_pos (by omega)]
    exact ⟨_, _, _, _, _, _, _, _, _, _, _, _, rfl, rfl, hNow⟩
  · by_cases h2 : y1.toInt ≤ 1
    · rw [if_neg h1, if_pos h2, if_neg (by omega), copy_eq hN]
      simp only [obd2, bnd]
      have hS : ∃ P T B : Nat → Nat, ∀ j, j < k → ((P j < 256 ∧ pairs j = nI (P j)) ∧ (T j < 100 ∧ times j = nI (T j)) ∧ B j < 2 ∧ lates j = nI (B j)) ∧ ((P j < 256 ∧ sp j = nI (P j)) ∧ (T j < 100 ∧ sq j = nI (T j)) ∧ B j < 2 ∧ sl j = nI (B j)) := by
        have hc : ∀ j, ∃ x : Nat × Nat × Nat, j < k → ((x.1 < 256 ∧ pairs j = nI x.1) ∧ (x.2.1 < 100 ∧ times j = nI x.2.1) ∧ x.2.2 < 2 ∧ lates j = nI x.2.2) ∧ ((x.1 < 256 ∧ sp j = nI x.1) ∧ (x.2.1 < 100 ∧ sq j = nI x.2.1) ∧ x.2.2 < 2 ∧ sl j = nI x.2.2) := by
          intro j
          by_cases h : j < k
          · obtain ⟨⟨p, p1, p2, p3⟩, ⟨t, t1, t2, t3⟩, b, q1, q2, q3⟩ := hj j h
            exact ⟨(p, t, b), fun _ => ⟨⟨⟨p1, p2⟩, ⟨t1, t2⟩, q1, q2⟩, ⟨p1, p3⟩, ⟨t1, t3⟩, q1, q3⟩⟩
          · exact ⟨(0, 0, 0), fun z => absurd z h⟩
        exact ⟨fun j => (Classical.choose (hc j)).1, fun j => (Classical.choose (hc j)).2.1, fun j => (Classical.choose (hc j)).2.2, fun j h => Classical.choose_spec (hc j) h⟩
      obtain ⟨P, T, B, hS⟩ := hS
      have hcp : ∀ (src base : Nat → Int32) (g : Nat), g < G → cpN src 0 base 8 g = src g := by
        intro src base g hg
        unfold cpN
        rw [if_pos (by omega), Nat.zero_add]
      obtain ⟨x1, x2, x3, x4, x5, hx⟩ := slC_G hN hNet.1 hNow.1.1 hNow.1.2 hNet.2.2.1 (kinds := cpN kinds 0 tk 8) (nowd := delays) (fun g h => by rw [hcp _ _ g h]; exact (hNow.2.1 g h).1) (fun g h => (hNow.2.1 g h).2) hk (fun j h => (hS j h).1) (fun x2 x3 w a b c e => if y1 = 0 then some (x3, cpN kinds 0 tk 8, w, a, b, c, e) else some (x2, cpN kinds 0 tk 8, w, a, b, c, e)) G 0 N (-9, 0) (cpN delays 0 td 8) c1 c2 c3 c4 (by omega) (by omega) (by decide) (fun g h => by rw [hcp _ _ g h]; exact (hNow.2.1 g h).2)
      obtain ⟨z1, z2, z3, z4, z5, hz, hM⟩ := slM_G hN hNet.1 hNow.1.1 hNow.1.2 hNet.2.2.2.1 hk (fun j h => (hS j h).2) (fun x2 x3 w a b c e => if y1 = 0 then some (x2, w, a, b, c, e) else some (x3, w, a, b, c, e)) G 0 N (-9, 0) now bf af va W (by omega) (by omega) (by decide) hNow.2.2
      by_cases hy : y1 = 0
      · rw [if_pos hy] at hx hz
        exact ⟨_, _, _, _, _, _, _, _, _, _, _, _, hx, hz, hNow.1, hNow.2.1, hM⟩
      · rw [if_neg hy] at hx hz
        exact ⟨_, _, _, _, _, _, _, _, _, _, _, _, hx, hz, hNow.1, hNow.2.1, hM⟩
    · rw [if_neg h1, if_neg h2, if_pos (by omega)]
      exact ⟨_, _, _, _, _, _, _, _, _, _, _, _, rfl, rfl, hNow⟩
