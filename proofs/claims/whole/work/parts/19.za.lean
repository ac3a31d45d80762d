-- the gates of the text
section RG
variable {t : Nat → Nat} {k n : Nat}
theorem rgC (N : Nat) {letters : Nat → Int32} (hk : k ≤ 40) {g at' : Nat} (hg : g ≤ 8) (hat : at' < 1000) (hl : ∀ j, j < k → letters j = nI (t j) ∧ t j < 256) (J : Int32 → Int32 → (Nat → Int32) → (Nat → Int32) → (Nat → Int32) → Option (Int32 × Int32 × Int32 × (Nat → Int32) × (Nat → Int32) × (Nat → Int32))) (nf : Nat) (told lefts rights : Nat → Int32) : f_X4_readGates_L2 N (nI k) (nI n) letters J (nf + 1) (nI g) (nI at') (nI g) told lefts rights = if 0 < g ∧ ltr t k at' = 62 then some (1, nI (at' + 1), nI g, told, lefts, rights) else if g = 8 then some (0, nI at', nI g, told, lefts, rights) else obd5 (f_X4_readGate N (nI g) (nI k) (nI at') (nI n) (nI g) letters told lefts rights) fun r a told' lefts' rights' => if r = 0 then some (0, a, nI g, told', lefts', rights') else f_X4_readGates_L2 N (nI k) (nI n) letters J nf (nI (g + 1)) a (nI (g + 1)) told' lefts' rights' := by
  rw [f_X4_readGates_L2, if_neg (by rw [fa_lt, nI_toInt (by omega)]; show ¬ (8 : Int) < _; omega), letter_eq N hk hat (fun j hj => (hl j hj).1)]
  simp only [bnd, obd1, nI_1]
  have h8 : ∀ {ρ : Type} (X Y : ρ), (if nI g = 8 then X else Y) = if g = 8 then X else Y := by
    intro ρ X Y
    by_cases h : g = 8
    · subst h
      rfl
    · rw [if_neg (show ¬ nI g = 8 from fun z => h ((nI_eq (b := 8) (by omega) (by decide)).mp z)), if_neg h]
  rw [h8]
  by_cases h0 : 0 < g
  · rw [if_neg (show ¬ nI g ≤ 0 from le_f (b := 0) h0 (by omega))]
    by_cases h62 : ltr t k at' = 62
    · rw [if_pos h62, if_pos ⟨h0, h62⟩]
    · rw [if_neg h62, if_neg (show ¬ (0 < g ∧ ltr t k at' = 62) from fun z => h62 z.2)]
  · rw [if_pos (show nI g ≤ 0 from le_t (b := 0) (by omega) (by decide)), if_neg (show ¬ (0 < g ∧ ltr t k at' = 62) from fun z => h0 z.1)]
theorem obd5_0 {α β γ δ ε ρ : Type} (a : α) (b : β) (c : γ) (d : δ) (e : ε) (K : α → β → γ → δ → ε → Option ρ) : obd5 (some (a, b, c, d, e)) K = K a b c d e := rfl
theorem gates_L {N : Nat} {letters text : Nat → Int32} (hk : k ≤ 40) (hn : n ≤ 4) (hl : ∀ j, j < k → letters j = nI (t j) ∧ t j < 256) (hl2 : ∀ j, j < k → text j = nI (t j) ∧ t j < 256) (rn : Nat → Int32) (JC : Int32 → Int32 → (Nat → Int32) → (Nat → Int32) → (Nat → Int32) → Option (Int32 × Int32 × Int32 × (Nat → Int32) × (Nat → Int32) × (Nat → Int32))) : ∀ (d g nfC nfM at' : Nat) (told lefts rights now one other : Nat → Int32) (κ L R : Nat → Nat) (nt : Nat → Bool), g + d = 8 → d < nfC → d < nfM → at' ≤ 2 + 3 * g → GRel n g κ L R nt told lefts rights now one other →
    ∃ (ok : Bool) (a' g' : Nat) (told' lefts' rights' now' one' other' : Nat → Int32) (κ' L' R' : Nat → Nat) (nt' : Nat → Bool), f_X4_readGates_L2 N (nI k) (nI n) letters JC nfC (nI g) (nI at') (nI g) told lefts rights = some (zI ok, nI a', nI g', told', lefts', rights') ∧ f_X10_readText_L74 N (nI k) text rn (nI n) (fun x1 gg now one other => if nI k ≤ x1 then some (x1, nI n, gg, rn, now, one, other) else if gg = 0 then some (x1, nI n, gg, rn, now, one, other) else obd2 (f_X10_readEnd N (x1 + 1) (nI n) gg (nI k) text rn) fun r rn' => some (r, nI n, gg, rn', now, one, other)) nfM (nI at') (nI g) now one other = (if ok = true then obd2 (f_X10_readEnd N (nI a') (nI n) (nI g') (nI k) text rn) fun r rn' => some (r, nI n, nI g', rn', now', one', other') else some (nI a', nI n, nI g', rn, now', one', other')) ∧ (∀ i, i < 16 → now' i = now i) ∧ (g' ≤ 8 ∧ a' < 100) ∧ (ok = true → 1 ≤ g' ∧ a' ≤ 30 ∧ GRel n g' κ' L' R' nt' told' lefts' rights' now' one' other') := by
  intro d
  induction d using Nat.strongRecOn with
  | _ d ih =>
    intro g nfC nfM at' told lefts rights now one other κ L R nt hg hC1 hM1 hat hR
    obtain ⟨nfC, rfl⟩ : ∃ z, nfC = z + 1 := ⟨nfC - 1, by omega⟩
    obtain ⟨nfM, rfl⟩ : ∃ z, nfM = z + 1 := ⟨nfM - 1, by omega⟩
    have hg8 : g ≤ 8 := by omega
    rw [rgC N hk hg8 (by omega) hl, f_X10_readText_L74]
    -- a reading that stops at this letter
    have stopC : kdI (ltr t k at') = -9 ∨ (¬ kdI (ltr t k at') = 4 ∧ n + g < 2) → (if g = 8 then some ((0 : Int32), nI at', nI g, told, lefts, rights) else obd5 (f_X4_readGate N (nI g) (nI k) (nI at') (nI n) (nI g) letters told lefts rights) fun r a told' lefts' rights' => if r = 0 then some (0, a, nI g, told', lefts', rights') else f_X4_readGates_L2 N (nI k) (nI n) letters JC nfC (nI (g + 1)) a (nI (g + 1)) told' lefts' rights') = some (0, nI at', nI g, told, lefts, rights) := by
      intro h
      by_cases h8 : g = 8
      · rw [if_pos h8]
      · rw [if_neg h8, f_X4_readGate, letter_eq N hk (by omega) (fun j hj => (hl j hj).1)]
        simp only [obd1, bnd, kdC]
        by_cases h9 : kdI (ltr t k at') = -9
        · rw [if_pos h9]
          rfl
        · rcases h with h | h
          · exact absurd h h9
          · rw [if_neg h9, if_neg h.1, show nI n + nI g = nI (n + g) from nI_add n g, if_neg (show ¬ (2 : Int32) ≤ nI (n + g) from le_f (a := 2) h.2 (by decide))]
            rfl
    by_cases hA : at' < k
    · have htx := hl2 at' hA
      have hlt : ltr t k at' = nI (t at') := by
        unfold ltr
        rw [if_pos hA]
      rw [if_neg (le_f hA (by omega)), grd_nI (show at' < 40 by omega) (by decide), grd_nI (show at' < 40 by omega) (by decide), nI_clamp (show at' < 2 ^ 31 by omega), htx.1, kdM]
      rw [hlt] at stopC ⊢
      simp only [obd1, bnd]
      by_cases h62 : nI (t at') = 62
      · rw [if_pos h62]
        by_cases h0 : 0 < g
        · rw [if_pos ⟨h0, h62⟩, if_neg (le_f hA (by omega)), if_neg (show ¬ nI g = 0 from fun z => by have := (c0 (by omega)).mp z; omega), nI_1]
          exact ⟨true, at' + 1, g, told, lefts, rights, now, one, other, κ, L, R, nt, rfl, rfl, fun _ _ => rfl, ⟨hg8, by omega⟩, fun _ => ⟨h0, by omega, hR⟩⟩
        · rw [if_neg (fun z => h0 z.1), stopC (Or.inl (by rw [h62]; exact kd_62)), if_neg (le_f hA (by omega)), if_pos (show nI g = 0 from (c0 (by omega)).mpr (by omega))]
          exact ⟨false, at', g, told, lefts, rights, now, one, other, κ, L, R, nt, rfl, rfl, fun _ _ => rfl, ⟨hg8, by omega⟩, fun z => by cases z⟩
      · rw [if_neg h62, if_neg (fun z => h62 z.2)]
        by_cases h9 : kdI (nI (t at')) = -9
        · rw [stopC (Or.inl h9)]
          simp only [if_pos h9]
          refine ⟨false, at', g, told, lefts, rights, now, one, other, κ, L, R, nt, rfl, ?_, fun _ _ => rfl, ⟨hg8, by omega⟩, fun z => by cases z⟩
          split
          · rfl
          · split <;> rfl
        · obtain ⟨kk, hk4, hkd⟩ : ∃ q, q ≤ 4 ∧ kdI (nI (t at')) = nI q := by
            rcases kd_or (nI (t at')) with w | w
            · exact absurd w h9
            · exact w
          have hk9 : ¬ nI kk = (-9 : Int32) := neq_9 (by omega)
          rw [hkd] at stopC ⊢
          rw [show nI n + nI g = nI (n + g) from nI_add n g, show nI at' + 2 = nI (at' + 2) from nI_add at' 2, show nI at' + 3 = nI (at' + 3) from nI_add at' 3, nI_1, sigAt_eq N hk hn hg8 (by omega) hl2, show (16 : Int32) + nI g = nI (16 + g) from nI_add 16 g, sigAt_eq N hk hn hg8 (by omega) hl2]
          simp only [if_neg hk9, if_neg one_ne, ↓reduceIte]
          by_cases hfew : ¬ kk = 4 ∧ n + g < 2
          · rw [stopC (Or.inr ⟨fun z => hfew.1 ((nI4 hk4).mp z), hfew.2⟩), if_neg (fun z => hfew.1 ((nI4 hk4).mp z)), if_neg (show ¬ (2 : Int32) ≤ nI (n + g) from le_f (a := 2) hfew.2 (by decide))]
            exact ⟨false, at', g, told, lefts, rights, now, one, other, κ, L, R, nt, rfl, rfl, fun _ _ => rfl, ⟨hg8, by omega⟩, fun z => by cases z⟩
          · have hM2 : ∀ {ρ : Type} (X Y : ρ), (if nI kk = 4 then X else if (2 : Int32) ≤ nI (n + g) then X else Y) = X := by
              intro ρ X Y
              by_cases h4 : kk = 4
              · rw [if_pos ((nI4 hk4).mpr h4)]
              · rw [if_neg (fun z => h4 ((nI4 hk4).mp z)), if_pos (show (2 : Int32) ≤ nI (n + g) from le_t (a := 2) (by omega) (by omega))]
            rw [hM2]
            by_cases h8 : g = 8
            · subst h8
              rw [if_pos rfl, if_pos (show nI 8 = 8 from rfl)]
              exact ⟨false, at', 8, told, lefts, rights, now, one, other, κ, L, R, nt, rfl, rfl, fun _ _ => rfl, ⟨hg8, by omega⟩, fun z => by cases z⟩
            · rw [if_neg h8, if_neg (show ¬ nI g = 8 from fun z => h8 ((nI_eq (b := 8) (by omega) (by decide)).mp z)), f_X4_readGate, letter_eq N hk (by omega) (fun j hj => (hl j hj).1), hlt]
              simp only [obd1, bnd, kdC, hkd]
              rw [if_neg hk9, show nI n + nI g = nI (n + g) from nI_add n g, hM2, nI_1, readSig_eq N hk hn hg8 (by omega) hl]
              cases hs1 : sgO t k n g (at' + 1) with
              | none =>
                simp only [sgM, obd2, ↓reduceIte]
                exact ⟨false, at' + 1, g, told, lefts, rights, now, one, other, κ, L, R, nt, rfl, rfl, fun _ _ => rfl, ⟨hg8, by omega⟩, fun z => by cases z⟩
              | some s1 =>
                obtain ⟨hS1, ha1⟩ := sgO_in hn hs1
                have hs12 := Sg_lt hS1 hn
                have hcs1 := cs_bd (show s1 < 12 by omega)
                have n1 : ¬ nI (cs s1) = (-9 : Int32) := neq_9 (by omega)
                have n2 : ¬ nI s1 = (-9 : Int32) := neq_9 (by omega)
                rw [show sgM (some s1) = nI s1 from rfl]
                simp only [obd2, if_neg n1, if_neg n2]
                by_cases h4 : kk = 4
                · subst h4
                  rw [if_pos (show nI 4 = 4 from rfl), if_pos (show nI 4 = 4 from rfl), if_pos (show nI 4 = 4 from rfl)]
                  simp only [grd_nI (show g < 8 by omega) (show 8 ≤ 2 ^ 31 by decide), nI_clamp (show g < 2 ^ 31 by omega), grd_nI (show 16 + g < 32 by omega) (show 32 ≤ 2 ^ 31 by decide), nI_clamp (show 16 + g < 2 ^ 31 by omega), obd5_0, if_neg one_ne, if_pos (show nI 4 = 4 from rfl)]
                  have hR' := GRel_add hR (kk := 4) (s1 := s1) (s2 := s1) (b := true) (by decide) (by decide) hS1 hS1 (fun _ => rfl) (fun z => by cases z)
                  obtain ⟨ok, a', g', x1, x2, x3, x4, x5, x6, x7, x8, x9, x10, y1, y2, y3, y4, y5⟩ := ih (d - 1) (by omega) (g + 1) nfC nfM (at' + 2) _ _ _ _ _ _ _ _ _ _ (by omega) (by omega) (by omega) (by omega) hR'
                  refine ⟨ok, a', g', x1, x2, x3, x4, x5, x6, x7, x8, x9, x10, y1, ?_, fun i hi => by rw [y3 i hi, updNe (by omega)], y4, y5⟩
                  rw [nI_1]
                  exact y2
                · have h4' : ¬ nI kk = 4 := fun z => h4 ((nI4 hk4).mp z)
                  rw [if_neg h4', if_neg h4', if_neg h4', readSig_eq N hk hn hg8 (by omega) hl]
                  cases hs2 : sgO t k n g (at' + 2) with
                  | none =>
                    rw [show sgM none = -9 from rfl]
                    simp only [obd2, ↓reduceIte]
                    exact ⟨false, at' + 2, g, told, lefts, rights, now, one, other, κ, L, R, nt, rfl, rfl, fun _ _ => rfl, ⟨hg8, by omega⟩, fun z => by cases z⟩
                  | some s2 =>
                    obtain ⟨hS2, ha2⟩ := sgO_in hn hs2
                    have hs22 := Sg_lt hS2 hn
                    have hcs2 := cs_bd (show s2 < 12 by omega)
                    have m1 : ¬ nI (cs s2) = (-9 : Int32) := neq_9 (by omega)
                    have m2 : ¬ nI s2 = (-9 : Int32) := neq_9 (by omega)
                    rw [show sgM (some s2) = nI s2 from rfl]
                    try dsimp only
                    by_cases h12 : s2 = s1
                    · subst h12
                      rw [if_neg m2]
                      simp only [obd2, ↓reduceIte]
                      exact ⟨false, at' + 2, g, told, lefts, rights, now, one, other, κ, L, R, nt, rfl, rfl, fun _ _ => rfl, ⟨hg8, by omega⟩, fun z => by cases z⟩
                    · rw [if_neg (show ¬ nI (cs s2) = nI (cs s1) from fun z => h12 (cs_inj ((nI_eq (by omega) (by omega)).mp z)))]
                      simp only [obd2, if_neg m1, if_neg m2, if_neg (show ¬ nI s2 = nI s1 from fun z => h12 ((nI_eq (by omega) (by omega)).mp z)), grd_nI (show g < 8 by omega) (show 8 ≤ 2 ^ 31 by decide), nI_clamp (show g < 2 ^ 31 by omega), grd_nI (show 16 + g < 32 by omega) (show 32 ≤ 2 ^ 31 by decide), nI_clamp (show 16 + g < 2 ^ 31 by omega), obd5_0, if_neg one_ne, if_neg h4']
                      have hR' := GRel_add hR (kk := kk) (s1 := s1) (s2 := s2) (b := false) hk4 ⟨fun z => absurd z h4, fun z => by cases z⟩ hS1 hS2 (fun z => by cases z) (fun _ => h12)
                      obtain ⟨ok, a', g', x1, x2, x3, x4, x5, x6, x7, x8, x9, x10, y1, y2, y3, y4, y5⟩ := ih (d - 1) (by omega) (g + 1) nfC nfM (at' + 2 + 1) _ _ _ _ _ _ _ _ _ _ (by omega) (by omega) (by omega) (by omega) hR'
                      refine ⟨ok, a', g', x1, x2, x3, x4, x5, x6, x7, x8, x9, x10, y1, ?_, fun i hi => by rw [y3 i hi, updNe (by omega)], y4, y5⟩
                      rw [nI_1]
                      exact y2
    · have hlt : ltr t k at' = -9 := by
        unfold ltr
        rw [if_neg hA]
      rw [hlt] at stopC ⊢
      rw [if_pos (le_t (show k ≤ at' by omega) (by omega)), if_neg (fun z => absurd z.2 (by decide)), stopC (Or.inl kd_9), if_pos (le_t (show k ≤ at' by omega) (by omega))]
      exact ⟨false, at', g, told, lefts, rights, now, one, other, κ, L, R, nt, rfl, rfl, fun _ _ => rfl, ⟨hg8, by omega⟩, fun z => by cases z⟩
end RG
