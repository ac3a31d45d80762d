-- reading the text, in both
def ltr (t : Nat → Nat) (k at' : Nat) : Int32 := if at' < k then nI (t at') else -9
def sgO (t : Nat → Nat) (k n g at' : Nat) : Option Nat := if at' < k then (if 97 ≤ t at' ∧ t at' < 97 + n then some (t at' - 97) else if 48 ≤ t at' ∧ t at' < 48 + g then some (4 + (t at' - 48)) else none) else none
def sgC (o : Option Nat) : Int32 := match o with
  | some s => nI (cs s)
  | none => -9
def sgM (o : Option Nat) : Int32 := match o with
  | some s => nI s
  | none => -9
theorem letter_eq (N : Nat) {t : Nat → Nat} {k at' : Nat} {letters : Nat → Int32} (hk : k ≤ 40) (hat : at' < 1000) (hl : ∀ j, j < k → letters j = nI (t j)) : f_X4_letter N (nI k) (nI at') letters = some (ltr t k at') := by
  rw [f_X4_letter]
  simp only [bnd]
  unfold ltr
  by_cases h : at' < k
  · rw [if_neg (le_f h (by omega)), if_neg (show ¬ (40 : Int32) ≤ nI at' from le_f (a := 40) (by omega) (by decide)), grd_nI (show at' < 40 by omega) (by decide), nI_clamp (by omega), hl at' h, if_pos h]
  · rw [if_pos (le_t (by omega) (by omega)), if_neg h]
theorem sgO_in {t : Nat → Nat} {k n g at' s : Nat} (hn : n ≤ 4) (h : sgO t k n g at' = some s) : Sg n g s ∧ at' < k := by
  unfold sgO at h
  by_cases h1 : at' < k
  · rw [if_pos h1] at h
    refine ⟨?_, h1⟩
    by_cases h2 : 97 ≤ t at' ∧ t at' < 97 + n
    · rw [if_pos h2] at h
      have := Option.some.inj h
      exact Or.inl (by omega)
    · rw [if_neg h2] at h
      by_cases h3 : 48 ≤ t at' ∧ t at' < 48 + g
      · rw [if_pos h3] at h
        have := Option.some.inj h
        exact Or.inr ⟨by omega, by omega⟩
      · rw [if_neg h3] at h
        cases h
  · rw [if_neg h1] at h
    cases h
theorem cs_4 (g : Nat) : cs (4 + g) = 10 + g := by
  unfold cs
  rw [if_neg (by omega)]
  omega
theorem cs_low {s : Nat} (h : s < 4) : cs s = s := by
  unfold cs
  rw [if_pos h]
theorem readSig_eq (N : Nat) {t : Nat → Nat} {k n g at' : Nat} {letters : Nat → Int32} (hk : k ≤ 40) (hn : n ≤ 4) (hg : g ≤ 8) (hat : at' < 1000) (hl : ∀ j, j < k → letters j = nI (t j) ∧ t j < 256) (but : Int32) : f_X4_readSignal N but (nI k) (nI at') (nI n) (nI g) letters = match sgO t k n g at' with
    | none => some (-9, nI at')
    | some s => if nI (cs s) = but then some (-9, nI at') else some (nI (cs s), nI (at' + 1)) := by
  rw [f_X4_readSignal, letter_eq N hk hat (fun j hj => (hl j hj).1)]
  simp only [obd1, bnd, nI_1]
  have e0 : (if (-9 : Int32) = but then some (-9, nI at') else if (-9 : Int32) = -9 then some ((-9 : Int32), nI at') else some (-9, nI (at' + 1))) = some (-9, nI at') := by
    by_cases h : (-9 : Int32) = but
    · rw [if_pos h]
    · rw [if_neg h, if_pos rfl]
  unfold ltr sgO
  by_cases h1 : at' < k
  · have ht := (hl at' h1).2
    rw [if_pos h1, if_pos h1, show (97 : Int32) + nI n = nI (97 + n) from nI_add 97 n, show (48 : Int32) + nI g = nI (48 + g) from nI_add 48 g]
    by_cases a1 : t at' < 97
    · rw [if_pos (show nI (t at') < (97 : Int32) from nI_lt (b := 97) a1 (by decide)), if_neg (show ¬ (97 ≤ t at' ∧ t at' < 97 + n) by omega)]
      by_cases b1 : t at' < 48
      · rw [if_pos (show nI (t at') < (48 : Int32) from nI_lt (b := 48) b1 (by decide)), if_neg (show ¬ (48 ≤ t at' ∧ t at' < 48 + g) by omega)]
        exact e0
      · rw [if_neg (show ¬ nI (t at') < (48 : Int32) from fun z => b1 ((nI_ltI (b := 48) (by omega) (by decide)).mp z))]
        by_cases b2 : 48 + g ≤ t at'
        · rw [if_pos (le_t b2 (by omega)), if_neg (show ¬ (48 ≤ t at' ∧ t at' < 48 + g) by omega)]
          exact e0
        · have e1 : (10 : Int32) + nI (t at') - 48 = nI (cs (4 + (t at' - 48))) := by
            rw [cs_4, show (10 : Int32) + nI (t at') = nI (10 + t at') from nI_add 10 _, show nI (10 + t at') - (48 : Int32) = nI (10 + t at' - 48) from pk_sub (b := 48) (by omega), show 10 + t at' - 48 = 10 + (t at' - 48) by omega]
          rw [if_neg (le_f (by omega) (by omega)), if_pos (show 48 ≤ t at' ∧ t at' < 48 + g by omega), e1, if_neg (neq_9 (show cs (4 + (t at' - 48)) < 1000 by rw [cs_4]; omega))]
    · rw [if_neg (show ¬ nI (t at') < (97 : Int32) from fun z => a1 ((nI_ltI (b := 97) (by omega) (by decide)).mp z))]
      by_cases a2 : 97 + n ≤ t at'
      · rw [if_pos (le_t a2 (by omega)), if_neg (show ¬ (97 ≤ t at' ∧ t at' < 97 + n) by omega), if_neg (show ¬ nI (t at') < (48 : Int32) from fun z => by have := (nI_ltI (b := 48) (by omega) (by decide)).mp z; omega), if_pos (le_t (show 48 + g ≤ t at' by omega) (by omega)), if_neg (show ¬ (48 ≤ t at' ∧ t at' < 48 + g) by omega)]
        exact e0
      · have e1 : nI (t at') - (97 : Int32) = nI (cs (t at' - 97)) := by
          rw [cs_low (by omega)]
          exact pk_sub (b := 97) (by omega)
        rw [if_neg (le_f (by omega) (by omega)), if_pos (show 97 ≤ t at' ∧ t at' < 97 + n by omega), e1, if_neg (neq_9 (show cs (t at' - 97) < 1000 by rw [cs_low (by omega)]; omega))]
  · rw [if_neg h1, if_neg h1, if_pos (show (-9 : Int32) < 97 by decide), if_pos (show (-9 : Int32) < 48 by decide)]
    exact e0
theorem sigAt_eq (N : Nat) {t : Nat → Nat} {k n g at' : Nat} {text : Nat → Int32} (hk : k ≤ 40) (hn : n ≤ 4) (hg : g ≤ 8) (hat : at' < 1000) (hl : ∀ j, j < k → text j = nI (t j) ∧ t j < 256) : f_X10_signalAt N (nI at') (nI n) (nI g) (nI k) text = some (sgM (sgO t k n g at')) := by
  have g97 : (97 : Int64).toInt = 97 := rfl
  have g48 : (48 : Int64).toInt = 48 := rfl
  rw [f_X10_signalAt]
  simp only [bnd]
  unfold sgO
  by_cases h1 : at' < k
  · obtain ⟨hl1, ht⟩ := hl at' h1
    rw [if_neg (le_f h1 (by omega)), if_neg (le_f h1 (by omega)), if_pos h1, nI_clamp (by omega), hl1, show (96 : Int32) + nI n = nI (96 + n) from nI_add 96 n, show (47 : Int32) + nI g = nI (47 + g) from nI_add 47 g]
    simp only [grd_nI (show at' < 40 by omega) (show 40 ≤ 2 ^ 31 by decide), in_spec, Int32.toInt_toInt64, g97, g48, nI_toInt (show t at' < 2 ^ 31 by omega), nI_toInt (show 96 + n < 2 ^ 31 by omega), nI_toInt (show 47 + g < 2 ^ 31 by omega), obd1, zo0]
    by_cases a1 : 97 ≤ t at' ∧ t at' < 97 + n
    · rw [if_neg (by omega), if_pos a1]
      exact congrArg some (pk_sub (b := 97) (by omega))
    · rw [if_pos (by omega), if_neg a1]
      by_cases b1 : 48 ≤ t at' ∧ t at' < 48 + g
      · rw [if_neg (by omega), if_pos b1, show (4 : Int32) + nI (t at') = nI (4 + t at') from nI_add 4 _, show nI (4 + t at') - (48 : Int32) = nI (4 + t at' - 48) from pk_sub (b := 48) (by omega), show 4 + t at' - 48 = 4 + (t at' - 48) by omega]
        rfl
      · rw [if_pos (by omega), if_neg b1]
        rfl
  · rw [if_pos (le_t (by omega) (by omega)), if_pos (le_t (by omega) (by omega)), if_neg h1]
    rfl
def kdI (y : Int32) : Int32 := if y = 38 then 0 else if y = 110 then 2 else if y = 111 then 3 else if y = 124 then 1 else if y = 126 then 4 else -9
theorem kdC (N : Nat) (y : Int32) : f_X4_kindOf N y = some (kdI y) := by
  rw [f_X4_kindOf]
  unfold kdI
  split
  · rfl
  · split
    · rfl
    · split
      · rfl
      · split
        · rfl
        · split <;> rfl
theorem kdM (N : Nat) (y : Int32) : f_X10_kindOf N y = some (kdI y) := by
  rw [f_X10_kindOf]
  unfold kdI
  split
  · rfl
  · split
    · rfl
    · split
      · rfl
      · split
        · rfl
        · split <;> rfl
theorem kd_or (y : Int32) : kdI y = -9 ∨ ∃ q, q ≤ 4 ∧ kdI y = nI q := by
  unfold kdI
  split
  · exact Or.inr ⟨0, by decide, rfl⟩
  · split
    · exact Or.inr ⟨2, by decide, rfl⟩
    · split
      · exact Or.inr ⟨3, by decide, rfl⟩
      · split
        · exact Or.inr ⟨1, by decide, rfl⟩
        · split
          · exact Or.inr ⟨4, by decide, rfl⟩
          · exact Or.inl rfl
theorem kd_9 : kdI (-9) = -9 := by decide
theorem kd_62 : kdI 62 = -9 := by decide
/-- the gates read so far -/
def GRel (n g : Nat) (κ L R : Nat → Nat) (nt : Nat → Bool) (told lefts rights now one other : Nat → Int32) : Prop := ∀ q, q < g → (κ q ≤ 4 ∧ (κ q = 4 ↔ nt q = true)) ∧ (Sg n q (L q) ∧ Sg n q (R q) ∧ (nt q = true → R q = L q) ∧ (nt q = false → R q ≠ L q)) ∧ told q = nI (κ q) ∧ (lefts q = nI (cs (L q)) ∧ rights q = if nt q then -9 else nI (cs (R q))) ∧ now (16 + q) = nI (κ q) ∧ one q = nI (L q) ∧ other q = if nt q then -9 else nI (R q)
theorem GRel_add {n g : Nat} {κ L R : Nat → Nat} {nt : Nat → Bool} {told lefts rights now one other : Nat → Int32} (h : GRel n g κ L R nt told lefts rights now one other) {kk s1 s2 : Nat} {b : Bool} (hk : kk ≤ 4) (hb : kk = 4 ↔ b = true) (h1 : Sg n g s1) (h2 : Sg n g s2) (h3 : b = true → s2 = s1) (h4 : b = false → s2 ≠ s1) : GRel n (g + 1) (upN κ g kk) (upN L g s1) (upN R g s2) (fun q => if q = g then b else nt q) (upd told g (nI kk)) (upd lefts g (nI (cs s1))) (upd rights g (if b then -9 else nI (cs s2))) (upd now (16 + g) (nI kk)) (upd one g (nI s1)) (upd other g (if b then -9 else nI s2)) := by
  intro q hq
  by_cases e : q = g
  · subst e
    simp only [upN_s, updEq, if_pos]
    exact ⟨⟨hk, hb⟩, ⟨h1, h2, h3, h4⟩, trivial, ⟨trivial, trivial⟩, trivial, trivial, trivial⟩
  · have := h q (by omega)
    simp only [upN_n e, updNe e, updNe (show 16 + q ≠ 16 + g by omega), if_neg e]
    exact this
