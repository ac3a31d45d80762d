-- the end of the text, and the whole of it
section RE
variable {t : Nat → Nat} {k n : Nat}
def GN (n G i : Nat) (nx : Nat → Nat) (nexts rn : Nat → Int32) : Prop := ∀ q, q < i → Sg n G (nx q) ∧ nexts q = nI (cs (nx q)) ∧ rn q = nI (nx q)
theorem nexts_L {N : Nat} {letters text : Nat → Int32} (hk : k ≤ 40) (hn : n ≤ 4) (hn1 : 1 ≤ n) (hl : ∀ j, j < k → letters j = nI (t j) ∧ t j < 256) (hl2 : ∀ j, j < k → text j = nI (t j) ∧ t j < 256) {G a : Nat} (hG : G ≤ 8) (ha : a ≤ 30) : ∀ (d i nfC nfM : Nat) (nx : Nat → Nat) (nexts rn : Nat → Int32), i + d = n → d < nfC → d < nfM → (i = 0 ∨ a + i ≤ k) → GN n G i nx nexts rn →
    ∃ (ok : Bool) (a' : Nat) (nexts' rn' : Nat → Int32) (nx' : Nat → Nat), f_X4_readNexts_L2 N (nI n) (nI G) (nI k) letters (fun x y => some (1, x, y)) nfC (nI i) (nI (a + i)) nexts = some (zI ok, nI a', nexts') ∧ f_X10_readEnd_L2 N (nI a) (nI n) (nI G) (nI k) text (fun rn => if nI k ≤ nI a + nI n then some (-9, rn) else some (nI a + nI n, rn)) nfM (nI i) rn = (if ok = true then (if a' = k then some (-9, rn') else some (nI a', rn')) else some (nI a', rn')) ∧ a' < 100 ∧ (ok = true → GN n G n nx' nexts' rn') := by
  intro d
  induction d with
  | zero =>
    intro i nfC nfM nx nexts rn hi hC hM hik hG'
    obtain ⟨nfC, rfl⟩ : ∃ z, nfC = z + 1 := ⟨nfC - 1, by omega⟩
    obtain ⟨nfM, rfl⟩ : ∃ z, nfM = z + 1 := ⟨nfM - 1, by omega⟩
    obtain rfl : i = n := by omega
    refine ⟨true, a + i, nexts, rn, nx, ?_, ?_, by omega, fun _ => hG'⟩
    · rw [f_X4_readNexts_L2, if_pos (le_t (Nat.le_refl _) (by omega))]
      rfl
    · rw [f_X10_readEnd_L2, if_pos (le_t (Nat.le_refl _) (by omega)), if_pos rfl, nI_add]
      by_cases h : a + i = k
      · rw [if_pos (le_t (by omega) (by omega)), if_pos h]
      · rw [if_neg (le_f (by omega) (by omega)), if_neg h]
  | succ d ih =>
    intro i nfC nfM nx nexts rn hi hC hM hik hG'
    obtain ⟨nfC, rfl⟩ : ∃ z, nfC = z + 1 := ⟨nfC - 1, by omega⟩
    obtain ⟨nfM, rfl⟩ : ∃ z, nfM = z + 1 := ⟨nfM - 1, by omega⟩
    rw [f_X4_readNexts_L2, if_neg (le_f (by omega) (by omega)), if_neg (show ¬ (4 : Int32) ≤ nI i from le_f (a := 4) (by omega) (by decide)), readSig_eq N hk hn hG (by omega) hl, f_X10_readEnd_L2, if_neg (le_f (by omega) (by omega)), nI_add, sigAt_eq N hk hn hG (by omega) hl2]
    simp only [obd1, bnd, grd_nI (show i < 4 by omega) (show 4 ≤ 2 ^ 31 by decide), nI_clamp (show i < 2 ^ 31 by omega), updEq, nI_1]
    cases hs : sgO t k n G (a + i) with
    | none =>
      rw [show sgM none = -9 from rfl]
      simp only [obd2, ↓reduceIte]
      exact ⟨false, a + i, nexts, upd rn i (-9), nx, rfl, rfl, by omega, fun z => by cases z⟩
    | some s =>
      obtain ⟨hS, hak⟩ := sgO_in hn hs
      have hs12 := Sg_lt hS hn
      have hcs := cs_bd (show s < 12 by omega)
      have n1 : ¬ nI (cs s) = (-9 : Int32) := neq_9 (by omega)
      have n2 : ¬ nI s = (-9 : Int32) := neq_9 (by omega)
      rw [show sgM (some s) = nI s from rfl]
      simp only [obd2, if_neg n1, if_neg n2]
      obtain ⟨ok, a', nexts', rn', nx', y1, y2, y3, y4⟩ := ih (i + 1) nfC nfM (upN nx i s) (upd nexts i (nI (cs s))) (upd rn i (nI s)) (by omega) (by omega) (by omega) (Or.inr (by omega)) (fun q hq => by
        by_cases e : q = i
        · subst e
          rw [upN_s, updEq, updEq]
          exact ⟨hS, rfl, rfl⟩
        · rw [upN_n e, updNe e, updNe e]
          exact hG' q (by omega))
      exact ⟨ok, a', nexts', rn', nx', y1, y2, y3, y4⟩
end RE
/-- what a whole text tells -/
def Told (n G : Nat) (κ L R nx : Nat → Nat) (nt : Nat → Bool) (told lefts rights nexts now one other rn : Nat → Int32) : Prop := 1 ≤ n ∧ n ≤ 4 ∧ 1 ≤ G ∧ G ≤ 8 ∧ GRel n G κ L R nt told lefts rights now one other ∧ GN n G n nx nexts rn
theorem readBoth {N : Nat} (hN : 1000 ≤ N) {size len : Int32} {letters text : Nat → Int32} (hT : RText size letters len text) (at0 in0 ga0 pa0 ri0 rg0 : Int32) (told lefts rights nexts rn now one other : Nat → Int32) :
    ∃ (r at' inp gat : Int32) (told' lefts' rights' nexts' : Nat → Int32) (ri rg : Int32) (rn' now' one' other' : Nat → Int32), f_X4_readInto N size at0 in0 ga0 pa0 letters told lefts rights nexts = some (r, at', inp, gat, 0, told', lefts', rights', nexts') ∧ f_X10_readText N ri0 rg0 len text rn now one other = some (r, ri, rg, rn', now', one', other') ∧ (∀ i, i < 16 → now' i = now i) ∧ (r = -9 → ∃ (n G : Nat) (κ L R nx : Nat → Nat) (nt : Nat → Bool), inp = nI n ∧ gat = nI G ∧ ri = nI n ∧ rg = nI G ∧ Told n G κ L R nx nt told' lefts' rights' nexts' now' one' other' rn') := by
  obtain ⟨k, hk, rfl, rfl, ht⟩ := hT
  obtain ⟨t, htt⟩ : ∃ t : Nat → Nat, ∀ j, t j = (text j).toInt.toNat := ⟨_, fun _ => rfl⟩
  have hl2 : ∀ j, j < k → text j = nI (t j) ∧ t j < 256 := by
    intro j hj
    obtain ⟨-, h1, h2⟩ := ht j hj
    have : t j < 256 := by rw [htt]; omega
    refine ⟨?_, this⟩
    rw [fa_eq, nI_toInt (by omega), htt]
    omega
  have hl : ∀ j, j < k → letters j = nI (t j) ∧ t j < 256 := by
    intro j hj
    rw [(ht j hj).1]
    exact hl2 j hj
  have neg : ∀ {r : Int32} {m : Nat}, m < 100 → r = nI m → ¬ r = -9 := by
    intro r m hm e z
    rw [e] at z
    exact neq_9 (by omega) z
  have e49 : (49 : Int64).toInt = 49 := rfl
  have e52 : (52 : Int64).toInt = 52 := rfl
  have i0 : inb 0 40 = true := by decide
  have i1 : inb 1 40 = true := by decide
  have hL0 : f_X4_letter N (nI k) 0 letters = some (ltr t k 0) := letter_eq N hk (at' := 0) (by decide) (fun j hj => (hl j hj).1)
  have hL1 : f_X4_letter N (nI k) (nI 1) letters = some (ltr t k 1) := letter_eq N hk (by decide) (fun j hj => (hl j hj).1)
  rw [f_X4_readInto, f_X10_readText, f_X4_readHead, hL0, show (0 : Int32) + 1 = nI 1 from rfl]
  simp only [obd1, bnd]
  by_cases h0 : k = 0
  · subst h0
    rw [show ltr t 0 0 = -9 from rfl, if_neg (show ¬ (-9 : Int32) = 67 by decide), if_pos (show nI 0 = 0 from rfl)]
    simp only [obd3, ↓reduceIte]
    exact ⟨0, _, _, _, _, _, _, _, _, _, _, _, _, _, rfl, rfl, fun _ _ => rfl, fun z => absurd z (neg (m := 0) (by decide) rfl)⟩
  rw [if_neg (show ¬ nI k = 0 from fun z => h0 ((c0 (by omega)).mp z)), show ltr t k 0 = nI (t 0) by unfold ltr; rw [if_pos (by omega)], show (0 : Int32).toNatClampNeg = 0 from rfl, (hl2 0 (by omega)).1, grd_t i0]
  by_cases h67 : nI (t 0) = 67
  · rw [if_pos h67, if_pos h67, hL1]
    simp only
    by_cases h1 : k = 1
    · subst h1
      rw [show ltr t 1 1 = -9 from rfl, if_pos (show (-9 : Int32) - 48 < 1 by decide), if_pos (show nI 1 = 1 from rfl)]
      simp only [obd3, ↓reduceIte]
      exact ⟨nI 1, _, _, _, _, _, _, _, _, _, _, _, _, _, rfl, rfl, fun _ _ => rfl, fun z => absurd z (neg (m := 1) (by decide) rfl)⟩
    · obtain ⟨hx1, hx2⟩ := hl2 1 (by omega)
      rw [if_neg (show ¬ nI k = 1 from fun z => h1 ((nI_eq (b := 1) (by omega) (by decide)).mp z)), show ltr t k 1 = nI (t 1) by unfold ltr; rw [if_pos (by omega)], grd_t i1, show ((1 : Int32)).toNatClampNeg = 1 from rfl, hx1]
      simp only [in_spec, Int32.toInt_toInt64, e49, e52, nI_toInt (show t 1 < 2 ^ 31 by omega), zo0, grd_t i1]
      by_cases hin : 49 ≤ t 1 ∧ t 1 ≤ 52
      · obtain ⟨n, hn⟩ : ∃ n, t 1 - 48 = n := ⟨_, rfl⟩
        have hn48 : nI (t 1) - 48 = nI n := by
          rw [← hn]
          exact pk_sub (b := 48) (by omega)
        rw [if_neg (show ¬ ¬ ((49 : Int) ≤ ↑(t 1) ∧ (↑(t 1) : Int) ≤ 52) by omega), hn48, if_neg (show ¬ nI n < 1 from fun z => by have := (nI_ltI (b := 1) (by omega) (by decide)).mp z; omega), if_pos (show nI n ≤ 4 from le_t (b := 4) (by omega) (by decide)), nI_1]
        simp only [obd3, if_neg one_ne]
        obtain ⟨ok, a', g', x1, x2, x3, x4, x5, x6, κ, L, R, nt, y1, y2, y3, ⟨y4, y6⟩, y5⟩ := gates_L (N := N) (n := n) hk (by omega) hl hl2 rn (fun x y u v w => some (0, x, y, u, v, w)) 8 0 N N 2 told lefts rights now one other (fun _ => 0) (fun _ => 0) (fun _ => 0) (fun _ => false) (by omega) (by omega) (by omega) (by omega) (fun q hq => absurd hq (Nat.not_lt_zero _))
        have y1' : f_X4_readGates N (nI k) (nI (1 + 1)) (nI n) 0 letters told lefts rights = some (zI ok, nI a', nI g', x1, x2, x3) := by
          rw [f_X4_readGates]
          exact y1
        have y2' : f_X10_readText_L74 N (nI k) text rn (nI n) (fun x1 gg now one other => if nI k ≤ x1 then some (x1, nI n, gg, rn, now, one, other) else if gg = 0 then some (x1, nI n, gg, rn, now, one, other) else obd2 (f_X10_readEnd N (x1 + 1) (nI n) gg (nI k) text rn) fun r rn' => some (r, nI n, gg, rn', now, one, other)) N 2 0 now one other = _ := y2
        rw [y1', y2']
        simp only [obd6, zI_0]
        cases ok with
        | false =>
          rw [if_pos (show false = false from rfl), if_neg (show ¬ false = true by decide)]
          exact ⟨nI a', _, _, _, _, _, _, _, _, _, _, _, _, _, rfl, rfl, y3, fun z => absurd z (neg y6 rfl)⟩
        | true =>
          obtain ⟨z1, z2, z3⟩ := y5 rfl
          rw [if_neg (show ¬ true = false by decide), if_pos rfl, f_X4_readNexts, f_X10_readEnd]
          obtain ⟨ok2, b', nexts', rn', nx, u1, u2, u3, u4⟩ := nexts_L (N := N) (n := n) hk (by omega) (by omega) hl hl2 (G := g') y4 z2 n 0 N N (fun _ => 0) nexts rn (by omega) (by omega) (by omega) (Or.inl rfl) (fun q hq => absurd hq (Nat.not_lt_zero _))
          simp only [bnd]
          have u1' : f_X4_readNexts_L2 N (nI n) (nI g') (nI k) letters (fun x y => some (1, x, y)) N 0 (nI a') nexts = _ := u1
          have u2' : f_X10_readEnd_L2 N (nI a') (nI n) (nI g') (nI k) text (fun rn => if nI k ≤ nI a' + nI n then some (-9, rn) else some (nI a' + nI n, rn)) N 0 rn = _ := u2
          rw [u1', u2']
          simp only [zI_0]
          cases ok2 with
          | false =>
            rw [if_pos (show false = false from rfl), if_neg (show ¬ false = true by decide)]
            exact ⟨nI b', _, _, _, _, _, _, _, _, _, _, _, _, _, rfl, rfl, y3, fun z => absurd z (neg u3 rfl)⟩
          | true =>
            rw [if_neg (show ¬ true = false by decide), if_pos rfl]
            by_cases hb : b' = k
            · rw [if_pos (show nI b' = nI k by rw [hb]), if_pos hb]
              exact ⟨-9, _, _, _, _, _, _, _, _, _, _, _, _, _, rfl, rfl, y3, fun _ => ⟨n, g', κ, L, R, nx, nt, rfl, rfl, rfl, rfl, by omega, by omega, z1, y4, z3, u4 rfl⟩⟩
            · rw [if_neg (show ¬ nI b' = nI k from fun z => hb ((nI_eq (by omega) (by omega)).mp z)), if_neg hb]
              exact ⟨nI b', _, _, _, _, _, _, _, _, _, _, _, _, _, rfl, rfl, y3, fun z => absurd z (neg u3 rfl)⟩
      · rw [if_pos (show ¬ ((49 : Int) ≤ ↑(t 1) ∧ (↑(t 1) : Int) ≤ 52) by omega)]
        have hlo : (nI (t 1) - 48).toInt = (t 1 : Int) - 48 := pk_sub_toInt (b := 48) (by omega) (by decide)
        have e1 : (1 : Int32).toInt = 1 := rfl
        have e4 : (4 : Int32).toInt = 4 := rfl
        by_cases hlt : nI (t 1) - 48 < 1
        · rw [if_pos hlt]
          simp only [obd3, ↓reduceIte]
          exact ⟨nI 1, _, _, _, _, _, _, _, _, _, _, _, _, _, rfl, rfl, fun _ _ => rfl, fun z => absurd z (neg (m := 1) (by decide) rfl)⟩
        · rw [if_neg hlt, if_neg (by rw [fa_lt, hlo, e1] at hlt; rw [fa_le, hlo, e4]; omega)]
          simp only [obd3, ↓reduceIte]
          exact ⟨nI 1, _, _, _, _, _, _, _, _, _, _, _, _, _, rfl, rfl, fun _ _ => rfl, fun z => absurd z (neg (m := 1) (by decide) rfl)⟩
  · rw [if_neg h67, if_neg h67]
    simp only [obd3, ↓reduceIte]
    exact ⟨0, _, _, _, _, _, _, _, _, _, _, _, _, _, rfl, rfl, fun _ _ => rfl, fun z => absurd z (neg (m := 0) (by decide) rfl)⟩
