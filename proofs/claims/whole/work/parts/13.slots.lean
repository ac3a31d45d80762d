-- slots: keep and again
theorem cpN_s0 (src now : Nat → Int32) (i : Nat) : upd (cpN src 0 now i) i (src i) = cpN src 0 now (i + 1) := by
  have e := cpN_s src 0 now i
  rw [Nat.zero_add] at e
  exact e
theorem copy_L (N : Nat) (k1 d1 k0 d0 : Nat → Int32) (j : (Nat → Int32) → (Nat → Int32) → Option ((Nat → Int32) × (Nat → Int32))) : ∀ (m i nf : Nat), i + m = 8 → m < nf → f_X5_copyFrom_L2 N k1 d1 j nf (nI i) (cpN k1 0 k0 i) (cpN d1 0 d0 i) = j (cpN k1 0 k0 8) (cpN d1 0 d0 8) := by
  intro m
  induction m with
  | zero =>
    intro i nf hi hf
    obtain ⟨nf, rfl⟩ : ∃ q, nf = q + 1 := ⟨nf - 1, by omega⟩
    have hi : i = 8 := by omega
    subst hi
    rw [f_X5_copyFrom_L2, if_pos (show (8 : Int32) ≤ nI 8 from show nI 8 ≤ nI 8 from (nI_leI (by decide) (by decide)).mpr (Nat.le_refl _))]
  | succ m ih =>
    intro i nf hi hf
    obtain ⟨nf, rfl⟩ : ∃ q, nf = q + 1 := ⟨nf - 1, by omega⟩
    rw [f_X5_copyFrom_L2, if_neg (show ¬ (8 : Int32) ≤ nI i from show ¬ nI 8 ≤ nI i from fun h => by have := (nI_leI (by decide) (by omega)).mp h; omega)]
    simp only [grd_nI (show i < 8 by omega) (show 8 ≤ 2 ^ 31 by decide), bnd, nI_clamp (show i < 2 ^ 31 by omega), nI_1, cpN_s0]
    exact ih (i + 1) nf (by omega) (by omega)
theorem copy_eq {N : Nat} (hN : 1000 ≤ N) (k1 k0 d1 d0 : Nat → Int32) : f_X5_copyFrom N k1 k0 d1 d0 = some (cpN k1 0 k0 8, cpN d1 0 d0 8) := by
  rw [f_X5_copyFrom]
  simp only [bnd]
  have e := copy_L N k1 d1 k0 d0 (fun a b => some (a, b)) 8 0 N (by omega) (by omega)
  rw [cpN_0, cpN_0] at e
  exact e
theorem SetC_copy {G : Nat} (hG : G ≤ 8) {κ d : Nat → Nat} {k1 k0 d1 d0 : Nat → Int32} (h : SetC G κ d k1 d1) : SetC G κ d (cpN k1 0 k0 8) (cpN d1 0 d0 8) := by
  intro g hg
  unfold cpN
  rw [if_pos (by omega), if_pos (by omega), Nat.zero_add]
  exact h g hg
theorem keepM_L (N t : Nat) (ht : t < 2) (now kept : Nat → Int32) (j : (Nat → Int32) → Option (Int32 × (Nat → Int32) × (Nat → Int32))) : ∀ (m i nf : Nat), i + m = 16 → m < nf → f_X10_keep_L21 N (nI t) now j nf (nI i) (cpR now kept t i) = j (cpR now kept t 16) := by
  intro m
  induction m with
  | zero =>
    intro i nf hi hf
    obtain ⟨nf, rfl⟩ : ∃ q, nf = q + 1 := ⟨nf - 1, by omega⟩
    have hi : i = 16 := by omega
    subst hi
    rw [f_X10_keep_L21, if_pos (show (16 : Int32) ≤ nI 16 from show nI 16 ≤ nI 16 from (nI_leI (by decide) (by decide)).mpr (Nat.le_refl _))]
  | succ m ih =>
    intro i nf hi hf
    obtain ⟨nf, rfl⟩ : ∃ q, nf = q + 1 := ⟨nf - 1, by omega⟩
    rw [f_X10_keep_L21, if_neg (show ¬ (16 : Int32) ≤ nI i from show ¬ nI 16 ≤ nI i from fun h => by have := (nI_leI (by decide) (by omega)).mp h; omega), l16]
    rw [grd_nI (show i < 32 by omega) (by decide), grd_nI (show 16 * t + i < 32 by omega) (by decide), nI_clamp (show i < 2 ^ 31 by omega), nI_clamp (show 16 * t + i < 2 ^ 31 by omega), cpR_s]
    simp only [bnd, nI_1]
    exact ih (i + 1) nf (by omega) (by omega)
theorem keepM_eq {N : Nat} (hN : 1000 ≤ N) {t : Nat} (ht : t < 2) (gates : Int32) (isKept now kept : Nat → Int32) : f_X10_keep N (nI t) gates isKept now kept = some (gates, upd isKept t 1, cpR now kept t 16) := by
  have e0 : (0 : Int64).toInt = 0 := rfl
  have e1 : (1 : Int64).toInt = 1 := rfl
  rw [f_X10_keep, in32, nI_toInt (by omega), e0, e1, if_pos (by omega)]
  simp only [obd1]
  rw [if_neg one_ne, grd_nI ht (by decide), nI_clamp (by omega)]
  simp only [bnd, nar1]
  have e := keepM_L N t ht now kept (fun k => some (gates, upd isKept t 1, k)) 16 0 N (by omega) (by omega)
  rw [cpR_0] at e
  exact e
theorem againM_L (N t : Nat) (ht : t < 2) (now kept : Nat → Int32) (j : (Nat → Int32) → Option (Int32 × Int32 × (Nat → Int32))) : ∀ (m i nf : Nat), i + m = 16 → m < nf → f_X10_again_L26 N (nI t) kept j nf (nI i) (cpN kept (16 * t) now i) = j (cpN kept (16 * t) now 16) := by
  intro m
  induction m with
  | zero =>
    intro i nf hi hf
    obtain ⟨nf, rfl⟩ : ∃ q, nf = q + 1 := ⟨nf - 1, by omega⟩
    have hi : i = 16 := by omega
    subst hi
    rw [f_X10_again_L26, if_pos (show (16 : Int32) ≤ nI 16 from show nI 16 ≤ nI 16 from (nI_leI (by decide) (by decide)).mpr (Nat.le_refl _))]
  | succ m ih =>
    intro i nf hi hf
    obtain ⟨nf, rfl⟩ : ∃ q, nf = q + 1 := ⟨nf - 1, by omega⟩
    rw [f_X10_again_L26, if_neg (show ¬ (16 : Int32) ≤ nI i from show ¬ nI 16 ≤ nI i from fun h => by have := (nI_leI (by decide) (by omega)).mp h; omega), l16]
    rw [grd_nI (show 16 * t + i < 32 by omega) (by decide), grd_nI (show i < 32 by omega) (by decide), nI_clamp (show i < 2 ^ 31 by omega), nI_clamp (show 16 * t + i < 2 ^ 31 by omega), cpN_s]
    simp only [bnd, nI_1]
    exact ih (i + 1) nf (by omega) (by omega)
theorem againM_eq {N : Nat} (hN : 1000 ≤ N) {t : Nat} (ht : t < 2) (gates acts : Int32) (isKept kept now : Nat → Int32) : f_X10_again N (nI t) gates acts isKept kept now = if isKept t = 0 then some (-3, acts, now) else some (gates, 0, cpN kept (16 * t) now 16) := by
  have e0 : (0 : Int64).toInt = 0 := rfl
  have e1 : (1 : Int64).toInt = 1 := rfl
  rw [f_X10_again, in32, nI_toInt (by omega), e0, e1, if_pos (by omega)]
  simp only [obd1]
  rw [if_neg one_ne, grd_nI ht (by decide), nI_clamp (by omega)]
  simp only [bnd]
  have e := againM_L N t ht now kept (fun k => some (gates, 0, k)) 16 0 N (by omega) (by omega)
  rw [cpN_0] at e
  exact congrArg (fun z => if isKept t = 0 then some (-3, acts, now) else z) e
theorem slot_cases (y : Int32) : (y.toInt < 0 ∨ 2 ≤ y.toInt) ∨ y = nI 0 ∨ y = nI 1 := by
  by_cases h : 0 ≤ y.toInt ∧ y.toInt < 2
  · obtain ⟨j, hj, rfl⟩ := nI_of_rng (y := y) (n := 2) h.1 (by omega) (by decide)
    rcases (show j = 0 ∨ j = 1 by omega) with rfl | rfl
    · exact Or.inr (Or.inl rfl)
    · exact Or.inr (Or.inr rfl)
  · exact Or.inl (by omega)
theorem slotM_out {N : Nat} {y : Int32} (h : y.toInt < 0 ∨ 2 ≤ y.toInt) (gates acts : Int32) (isKept kept now : Nat → Int32) : f_X10_keep N y gates isKept now kept = some (-1, isKept, kept) ∧ f_X10_again N y gates acts isKept kept now = some (-1, acts, now) := by
  have e0 : (0 : Int64).toInt = 0 := rfl
  have e1 : (1 : Int64).toInt = 1 := rfl
  rw [f_X10_keep, f_X10_again, in32, e0, e1, if_neg (by omega)]
  exact ⟨rfl, rfl⟩
theorem RSlot_keep {G : Nat} (hG : G ≤ 8) {nt : Nat → Bool} {κ d : Nat → Nat} {kinds delays now : Nat → Int32} (hNow : RNow G nt κ d kinds delays now) {k : Nat} {k0 d0 isKept kept : Nat → Int32} : RSlot G nt k 1 (cpN kinds 0 k0 8) (cpN delays 0 d0 8) (upd isKept k 1) (cpR now kept k 16) :=
  Or.inr ⟨rfl, pk_us, κ, d, hNow.1, SetC_copy hG hNow.2.1, SetM_at hG hNow.2.2⟩
theorem RSlot_other {G : Nat} (hG : G ≤ 8) {nt : Nat → Bool} {k q : Nat} (hq : k ≠ q) {held : Int32} {kinds delays isKept kept now : Nat → Int32} {v : Int32} (h : RSlot G nt k held kinds delays isKept kept) : RSlot G nt k held kinds delays (upd isKept q v) (cpR now kept q 16) := by
  rcases h with ⟨h1, h2⟩ | ⟨h1, h2, κ, d, h3, h4, h5⟩
  · exact Or.inl ⟨h1, by rw [pk_un hq]; exact h2⟩
  · exact Or.inr ⟨h1, by rw [pk_un hq]; exact h2, κ, d, h3, h4, SetM_keep hG hq h5⟩
theorem sm_keep {N : Nat} (hN : 1000 ≤ N) (y1 : Int32) {n G : Nat} {L R nx : Nat → Nat} {nt : Nat → Bool} {κ d : Nat → Nat} {i1 i2 i3 : Int32} {a1 a2 a3 a4 a5 a6 a7 : Nat → Int32} {j1 j2 j3 : Int32} {b1 b2 b3 b4 b5 : Nat → Int32} {kinds delays now : Nat → Int32} {h0 h1 : Int32} {k0 d0 k1 d1 isKept kept : Nat → Int32} (hNet : RNet n G L R nx nt i1 i2 i3 a1 a2 a3 a4 a5 a6 a7 j1 j2 j3 b1 b2 b3 b4 b5) (hNow : RNow G nt κ d kinds delays now) (hS0 : RSlot G nt 0 h0 k0 d0 isKept kept) (hS1 : RSlot G nt 1 h1 k1 d1 isKept kept) :
    ∃ r h0' h1' k0' d0' k1' d1' isKept' kept', f_X9_keep N y1 i2 h0 kinds delays h1 k0 d0 k1 d1 = some (r, h0', h1', k0', d0', k1', d1') ∧ f_X10_keep N y1 j2 isKept now kept = some (r, isKept', kept') ∧ RSlot G nt 0 h0' k0' d0' isKept' kept' ∧ RSlot G nt 1 h1' k1' d1' isKept' kept' := by
  obtain ⟨hn, hG, -, rfl, -, rfl⟩ := hNet.c
  have e0 : (0 : Int32).toInt = 0 := rfl
  have e2 : (2 : Int32).toInt = 2 := rfl
  rcases slot_cases y1 with h | rfl | rfl
  · rw [(slotM_out (N := N) h (nI G) 0 isKept kept now).1, f_X9_keep]
    simp only [fa_lt, e0, e2]
    by_cases hy : y1.toInt < 0
    · rw [if_pos hy]
      exact ⟨_, _, _, _, _, _, _, _, _, rfl, rfl, hS0, hS1⟩
    · rw [if_neg hy, if_neg (by omega)]
      exact ⟨_, _, _, _, _, _, _, _, _, rfl, rfl, hS0, hS1⟩
  · rw [keepM_eq hN (by decide), f_X9_keep, if_neg (show ¬ nI 0 < 0 by decide), if_pos (show nI 0 < 2 by decide), if_pos (show nI 0 = 0 from rfl), copy_eq hN]
    simp only [obd2]
    rw [if_pos (show nI 0 = 0 from rfl)]
    exact ⟨_, _, _, _, _, _, _, _, _, rfl, rfl, RSlot_keep hG hNow, RSlot_other hG (by decide) hS1⟩
  · rw [keepM_eq hN (by decide), f_X9_keep, if_neg (show ¬ nI 1 < 0 by decide), if_pos (show nI 1 < 2 by decide), if_neg (show ¬ nI 1 = 0 by decide), grd_t (show decide (nI 1 = 1) = true from rfl), copy_eq hN]
    simp only [obd2]
    rw [if_neg (show ¬ nI 1 = 0 by decide), grd_t (show decide (nI 1 = 1) = true from rfl)]
    exact ⟨_, _, _, _, _, _, _, _, _, rfl, rfl, RSlot_other hG (by decide) hS0, RSlot_keep hG hNow⟩
theorem RActs_0 {G : Nat} {nt : Nat → Bool} {κ d κ' d' : Nat → Nat} {size acts turn : Int32} {gates turned olds row : Nat → Int32} (h : RActs G nt κ d size gates turned olds acts turn row) : RActs G nt κ' d' 0 gates turned olds 0 turn row := by
  obtain ⟨a, t, K, E, ha, ht, -, -, rfl, -, -⟩ := h
  exact ⟨0, t, fun _ => κ', fun _ => d', by omega, ht, rfl, rfl, rfl, fun g _ => ⟨rfl, rfl⟩, fun j hj => by omega⟩
theorem sm_again {N : Nat} (hN : 1000 ≤ N) (y1 : Int32) {n G : Nat} {L R nx : Nat → Nat} {nt : Nat → Bool} {κ d : Nat → Nat} {i1 i2 i3 : Int32} {a1 a2 a3 a4 a5 a6 a7 : Nat → Int32} {j1 j2 j3 : Int32} {b1 b2 b3 b4 b5 : Nat → Int32} {kinds delays now : Nat → Int32} {size acts turn : Int32} {gates turned olds row : Nat → Int32} {h0 h1 : Int32} {k0 d0 k1 d1 isKept kept : Nat → Int32} (hNet : RNet n G L R nx nt i1 i2 i3 a1 a2 a3 a4 a5 a6 a7 j1 j2 j3 b1 b2 b3 b4 b5) (hNow : RNow G nt κ d kinds delays now) (hA : RActs G nt κ d size gates turned olds acts turn row) (hS0 : RSlot G nt 0 h0 k0 d0 isKept kept) (hS1 : RSlot G nt 1 h1 k1 d1 isKept kept) :
    ∃ r size' kinds' delays' acts' now' κ' d', f_X9_again N y1 size i2 h0 kinds delays h1 k0 d0 k1 d1 = some (r, size', kinds', delays') ∧ f_X10_again N y1 j2 acts isKept kept now = some (r, acts', now') ∧ RNow G nt κ' d' kinds' delays' now' ∧ RActs G nt κ' d' size' gates turned olds acts' turn row := by
  obtain ⟨hn, hG, -, rfl, -, rfl⟩ := hNet.c
  have e0 : (0 : Int32).toInt = 0 := rfl
  have e2 : (2 : Int32).toInt = 2 := rfl
  rcases slot_cases y1 with h | rfl | rfl
  · rw [(slotM_out (N := N) h (nI G) acts isKept kept now).2, f_X9_again]
    simp only [fa_lt, e0, e2]
    by_cases hy : y1.toInt < 0
    · rw [if_pos hy]
      exact ⟨_, _, _, _, _, _, κ, d, rfl, rfl, hNow, hA⟩
    · rw [if_neg hy, if_neg (by omega)]
      exact ⟨_, _, _, _, _, _, κ, d, rfl, rfl, hNow, hA⟩
  · rw [againM_eq hN (by decide), f_X9_again, if_neg (show ¬ nI 0 < 0 by decide), if_pos (show nI 0 < 2 by decide), if_pos (show nI 0 = 0 from rfl)]
    rcases hS0 with ⟨z1, z2⟩ | ⟨z1, z2, κ', d', z3, z4, z5⟩
    · rw [z1, z2, if_pos rfl, if_pos rfl]
      exact ⟨_, _, _, _, _, _, κ, d, rfl, rfl, hNow, hA⟩
    · rw [z1, z2, if_neg one_ne, if_neg one_ne, if_pos (show nI 0 = 0 from rfl), copy_eq hN]
      simp only [obd2]
      exact ⟨_, _, _, _, _, _, κ', d', rfl, rfl, ⟨z3, SetC_copy hG z4, SetM_cpN hG z5⟩, RActs_0 hA⟩
  · rw [againM_eq hN (by decide), f_X9_again, if_neg (show ¬ nI 1 < 0 by decide), if_pos (show nI 1 < 2 by decide), if_neg (show ¬ nI 1 = 0 by decide), grd_t (show decide (nI 1 = 1) = true from rfl)]
    rcases hS1 with ⟨z1, z2⟩ | ⟨z1, z2, κ', d', z3, z4, z5⟩
    · rw [z1, z2, if_pos rfl, if_pos rfl]
      exact ⟨_, _, _, _, _, _, κ, d, rfl, rfl, hNow, hA⟩
    · rw [z1, z2, if_neg one_ne, if_neg one_ne, if_neg (show ¬ nI 1 = 0 by decide), grd_t (show decide (nI 1 = 1) = true from rfl), copy_eq hN]
      simp only [obd2]
      exact ⟨_, _, _, _, _, _, κ', d', rfl, rfl, ⟨z3, SetC_copy hG z4, SetM_cpN hG z5⟩, RActs_0 hA⟩
