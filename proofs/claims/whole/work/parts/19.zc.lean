-- a new circuit
theorem begin5_eq {N : Nat} (hN : 1000 ≤ N) (told kinds delays : Nat → Int32) : ∃ kinds' delays', f_X5_begin N told kinds delays = some (kinds', delays') ∧ ∀ g, g < 8 → kinds' g = told g ∧ delays' g = 1 := by
  have e := forL (fun nf q s => f_X5_begin_L2 N told (fun a b => some (a, b)) nf (nI q) s.1 s.2) 8 (fun q => (stA 0 told kinds q, stA 0 (fun _ => (1 : Int32)) delays q)) (some (stA 0 told kinds 8, stA 0 (fun _ => (1 : Int32)) delays 8)) (fun nf => by
    try dsimp only
    rw [f_X5_begin_L2, if_pos (show (8 : Int32) ≤ nI 8 from le_t (a := 8) (Nat.le_refl _) (by decide))]) (fun q nf hq => by
    try dsimp only
    rw [f_X5_begin_L2, if_neg (show ¬ (8 : Int32) ≤ nI q from le_f (a := 8) (by omega) (by decide))]
    simp only [bnd, grd_nI hq (show 8 ≤ 2 ^ 31 by decide), nI_clamp (show q < 2 ^ 31 by omega), nI_1, stA_s0, stA_s0 (fun _ => (1 : Int32))]) 8 0 N (by omega) (by omega)
  simp only [stA_0] at e
  rw [f_X5_begin]
  simp only [bnd]
  refine ⟨_, _, e, fun g hg => ?_⟩
  have r1 := stA_in (lo := 0) (val := told) (base := kinds) (i := 8) (k := g) hg
  have r2 := stA_in (lo := 0) (val := fun _ => (1 : Int32)) (base := delays) (i := 8) (k := g) hg
  rw [Nat.zero_add] at r1 r2
  exact ⟨r1, r2⟩
theorem lay30 {N : Nat} (ro rr w : Nat → Int32) (J : (Nat → Int32) → (Nat → Int32) → (Nat → Int32) → Option (Int32 × Int32 × Int32 × Int32 × Int32 × Int32 × Int32 × (Nat → Int32) × (Nat → Int32) × (Nat → Int32) × (Nat → Int32) × (Nat → Int32) × (Nat → Int32) × (Nat → Int32) × (Nat → Int32) × (Nat → Int32) × (Nat → Int32))) : ∀ (m q nf : Nat) (now one other : Nat → Int32), q + m = 8 → m < nf → (∀ j, j < q → now j = w (16 + j) ∧ now (8 + j) = 1 ∧ one j = ro j ∧ other j = rr j) → (∀ j, 16 ≤ j → now j = w j) → ∃ now' one' other', f_X10_circuit_L30 N ro rr J nf (nI q) now one other = J now' one' other' ∧ ∀ j, j < 8 → now' j = w (16 + j) ∧ now' (8 + j) = 1 ∧ one' j = ro j ∧ other' j = rr j := by
  intro m
  induction m with
  | zero =>
    intro q nf now one other hq hnf h1 h2
    obtain ⟨nf, rfl⟩ : ∃ z, nf = z + 1 := ⟨nf - 1, by omega⟩
    obtain rfl : q = 8 := by omega
    refine ⟨now, one, other, ?_, h1⟩
    rw [f_X10_circuit_L30, if_pos (show (8 : Int32) ≤ nI 8 from le_t (a := 8) (Nat.le_refl _) (by decide))]
  | succ m ih =>
    intro q nf now one other hq hnf h1 h2
    obtain ⟨nf, rfl⟩ : ∃ z, nf = z + 1 := ⟨nf - 1, by omega⟩
    rw [f_X10_circuit_L30, if_neg (show ¬ (8 : Int32) ≤ nI q from le_f (a := 8) (by omega) (by decide)), show (16 : Int32) + nI q = nI (16 + q) from nI_add 16 q, show (8 : Int32) + nI q = nI (8 + q) from nI_add 8 q, show (0 : Int32) + nI q = nI q by rw [Int32.zero_add]]
    simp only [bnd, grd_nI (show q < 8 by omega) (show 8 ≤ 2 ^ 31 by decide), grd_nI (show q < 32 by omega) (show 32 ≤ 2 ^ 31 by decide), grd_nI (show 16 + q < 32 by omega) (show 32 ≤ 2 ^ 31 by decide), grd_nI (show 8 + q < 32 by omega) (show 32 ≤ 2 ^ 31 by decide), nI_clamp (show q < 2 ^ 31 by omega), nI_clamp (show 16 + q < 2 ^ 31 by omega), nI_clamp (show 8 + q < 2 ^ 31 by omega), nI_1]
    refine ih (q + 1) nf _ _ _ (by omega) (by omega) (fun j hj => ?_) (fun j hj => ?_)
    · by_cases e : j = q
      · subst e
        rw [updNe (show j ≠ 8 + j by omega), updEq, updEq, updEq, updEq, h2 (16 + j) (by omega)]
        exact ⟨rfl, rfl, rfl, rfl⟩
      · rw [updNe (show j ≠ 8 + q by omega), updNe e, updNe (show 8 + j ≠ 8 + q by omega), updNe (show 8 + j ≠ q by omega), updNe e, updNe e]
        exact h1 j (by omega)
    · rw [updNe (by omega), updNe (by omega)]
      exact h2 j hj
theorem lay95 {N : Nat} (rn : Nat → Int32) (J : (Nat → Int32) → Option (Int32 × Int32 × Int32 × Int32 × Int32 × Int32 × Int32 × (Nat → Int32) × (Nat → Int32) × (Nat → Int32) × (Nat → Int32) × (Nat → Int32) × (Nat → Int32) × (Nat → Int32) × (Nat → Int32) × (Nat → Int32) × (Nat → Int32))) (hN : 1000 ≤ N) (next : Nat → Int32) : ∃ next', f_X10_circuit_L95 N rn J N 0 next = J next' ∧ ∀ j, j < 4 → next' j = rn j := by
  have e := forL (fun nf q s => f_X10_circuit_L95 N rn J nf (nI q) s) 4 (fun q => stA 0 rn next q) (J (stA 0 rn next 4)) (fun nf => by
    rw [f_X10_circuit_L95, if_pos (show (4 : Int32) ≤ nI 4 from le_t (a := 4) (Nat.le_refl _) (by decide))]) (fun q nf hq => by
    rw [f_X10_circuit_L95, if_neg (show ¬ (4 : Int32) ≤ nI q from le_f (a := 4) (by omega) (by decide))]
    simp only [bnd, grd_nI hq (show 4 ≤ 2 ^ 31 by decide), nI_clamp (show q < 2 ^ 31 by omega), nI_1, stA_s0]) 4 0 N (by omega) (by omega)
  rw [stA_0] at e
  refine ⟨_, e, fun j hj => ?_⟩
  have r1 := stA_in (lo := 0) (val := rn) (base := next) (i := 4) (k := j) hj
  rw [Nat.zero_add] at r1
  exact r1
theorem RActs_new {G G' : Nat} {nt nt' : Nat → Bool} {κ d κ' d' : Nat → Nat} {size acts turn : Int32} {gates turned olds row : Nat → Int32} (h : RActs G nt κ d size gates turned olds acts turn row) : RActs G' nt' κ' d' 0 gates turned olds 0 turn row := by
  obtain ⟨a, t, K, E, ha, ht, -, -, rfl, -, -⟩ := h
  exact ⟨0, t, fun _ => κ', fun _ => d', by omega, ht, rfl, rfl, rfl, fun g _ => ⟨rfl, rfl⟩, fun j hj => by omega⟩
