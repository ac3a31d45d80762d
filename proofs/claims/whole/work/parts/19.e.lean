-- WAVES: the class has a bit a time in longs, the reference a row of a hundred
def mkL (f : Nat → Nat) : Int64 := lN (bsum (fun t => decide (f t = 1)) 64)
theorem bsum_lt (f : Nat → Bool) : ∀ m, bsum f m < 2 ^ m
  | 0 => Nat.zero_lt_one
  | m + 1 => by
    have h := bsum_lt f m
    rw [bsum, Nat.pow_succ]
    split <;> omega
theorem bsum_tb (f : Nat → Bool) (t : Nat) : ∀ m, (bsum f m).testBit t = (decide (t < m) && f t)
  | 0 => by
    rw [bsum, Nat.zero_testBit]
    simp
  | m + 1 => by
    have h := bsum_lt f m
    have e : bsum f (m + 1) = bsum f m + (if f m then 1 else 0) * 2 ^ m := by
      rw [bsum]
      split <;> omega
    rw [e, tb_add h]
    by_cases h1 : t < m
    · rw [if_pos h1, bsum_tb f t m]
      have h2 : t < m + 1 := by omega
      simp [h1, h2]
    · rw [if_neg h1]
      by_cases h2 : t = m
      · subst h2
        rw [Nat.sub_self]
        have h3 : t < t + 1 := by omega
        cases hf : f t with
        | true => simp [hf]
        | false => simp [hf]
      · have h3 : ¬ t < m + 1 := by omega
        have h4 : (if f m then 1 else 0).testBit (t - m) = false := by
          apply Nat.testBit_lt_two_pow
          have : 2 ≤ 2 ^ (t - m) := by
            have := Nat.pow_le_pow_right (n := 2) (by decide) (show 1 ≤ t - m by omega)
            simpa using this
          split <;> omega
        rw [h4]
        simp [h3]
theorem lN_bit {n t : Nat} (ht : t < 64) : (lN n).toBitVec.getLsbD t = n.testBit t := by
  show (BitVec.ofNat 64 n).getLsbD t = _
  rw [BitVec.getLsbD_ofNat]
  simp [ht]
theorem mkL_bit {f : Nat → Nat} {t : Nat} (ht : t < 64) : (mkL f).toBitVec.getLsbD t = decide (f t = 1) := by
  unfold mkL
  rw [lN_bit ht, bsum_tb]
  simp [ht]
theorem eq_mkL {x : Int64} {f : Nat → Nat} (h : ∀ t, t < 64 → x.toBitVec.getLsbD t = decide (f t = 1)) : x = mkL f := by
  apply Int64.toBitVec_inj.mp
  apply BitVec.eq_of_getLsbD_eq
  intro t ht
  rw [h t ht, mkL_bit ht]
/-- the wave of a signal at a time, with the first so many gates made -/
def Ws (L R κ d : Nat → Nat) (pair : Nat) : Nat → Nat → Int → Nat
  | 0, s, t => if t < 0 then bitN (pair / 16) s else bitN (pair % 16) s
  | g + 1, s, t => if s = 4 + g then mk1 (κ g) (Ws L R κ d pair g (L g) (t - d g)) (Ws L R κ d pair g (R g) (t - d g)) else Ws L R κ d pair g s t
section WV
variable {n G : Nat} {L R nx κ d : Nat → Nat} {nt : Nat → Bool}
theorem Ws_lt (hκ : ∀ g, g < G → κ g ≤ 4) (pair : Nat) : ∀ g, g ≤ G → ∀ s t, Ws L R κ d pair g s t < 2
  | 0, _, s, t => by
    rw [Ws]
    split
    · exact bitN_lt _ _
    · exact bitN_lt _ _
  | g + 1, h, s, t => by
    rw [Ws]
    split
    · exact mk1_lt _ (by have := hκ g (by omega); omega) _ (Ws_lt hκ pair g (by omega) _ _) _ (Ws_lt hκ pair g (by omega) _ _)
    · exact Ws_lt hκ pair g (by omega) s t
theorem Ws_neg (pair : Nat) : ∀ g s (t : Int), t < 0 → Ws L R κ d pair g s t = Bs L R κ (pair / 16) g s
  | 0, s, t, h => by
    rw [Ws, if_pos h]
    rfl
  | g + 1, s, t, h => by
    rw [Ws, Bs, Ws_neg pair g _ _ (by omega), Ws_neg pair g _ _ (by omega), Ws_neg pair g _ _ h]
theorem Ws_stay (pair : Nat) {g : Nat} : ∀ k s t, s < 4 + g → Ws L R κ d pair (g + k) s t = Ws L R κ d pair g s t
  | 0, _, _, _ => rfl
  | k + 1, s, t, h => by
    rw [← Nat.add_assoc, Ws, if_neg (by omega)]
    exact Ws_stay pair k s t h
theorem Ws_top {pair g : Nat} {t : Int} : Ws L R κ d pair (g + 1) (4 + g) t = mk1 (κ g) (Ws L R κ d pair g (L g) (t - d g)) (Ws L R κ d pair g (R g) (t - d g)) := by
  rw [Ws, if_pos rfl]
end WV
-- a gate over longs
theorem madeL_bit (N : Nat) {k : Nat} (hk : k ≤ 4) (f g : Nat → Nat) (hf : ∀ t, f t < 2) (hg : ∀ t, g t < 2) : f_X8_made N (nI k) (mkL f) (mkL g) = some (mkL (fun t => mk1 k (f t) (g t))) := by
  have tab : ∀ k, k < 5 → ∀ a, a < 2 → ∀ b, b < 2 → decide (mk1 k a b = 1) = (if k = 0 then (decide (a = 1) && decide (b = 1)) else if k = 1 then (decide (a = 1) || decide (b = 1)) else if k = 2 then !(decide (a = 1) && decide (b = 1)) else if k = 3 then !(decide (a = 1) || decide (b = 1)) else !decide (a = 1)) := by decide
  have h1 : ∀ t, t < 64 → (-1 : Int64).toBitVec.getLsbD t = true := by
    intro t ht
    rw [show (-1 : Int64).toBitVec = BitVec.allOnes 64 from rfl, BitVec.getLsbD_allOnes]
    simp [ht]
  rcases (show k = 0 ∨ k = 1 ∨ k = 2 ∨ k = 3 ∨ k = 4 by omega) with rfl | rfl | rfl | rfl | rfl
  · refine congrArg some (eq_mkL (fun t ht => ?_))
    rw [tab 0 (by decide) _ (hf t) _ (hg t)]
    show ((mkL f).toBitVec &&& (mkL g).toBitVec).getLsbD t = _
    rw [BitVec.getLsbD_and, mkL_bit ht, mkL_bit ht]
    rfl
  · refine congrArg some (eq_mkL (fun t ht => ?_))
    rw [tab 1 (by decide) _ (hf t) _ (hg t)]
    show ((mkL f).toBitVec ||| (mkL g).toBitVec).getLsbD t = _
    rw [BitVec.getLsbD_or, mkL_bit ht, mkL_bit ht]
    rfl
  · refine congrArg some (eq_mkL (fun t ht => ?_))
    rw [tab 2 (by decide) _ (hf t) _ (hg t)]
    show (((mkL f).toBitVec &&& (mkL g).toBitVec) ^^^ (-1 : Int64).toBitVec).getLsbD t = _
    rw [BitVec.getLsbD_xor, BitVec.getLsbD_and, mkL_bit ht, mkL_bit ht, h1 t ht, Bool.xor_true]
    rfl
  · refine congrArg some (eq_mkL (fun t ht => ?_))
    rw [tab 3 (by decide) _ (hf t) _ (hg t)]
    show (((mkL f).toBitVec ||| (mkL g).toBitVec) ^^^ (-1 : Int64).toBitVec).getLsbD t = _
    rw [BitVec.getLsbD_xor, BitVec.getLsbD_or, mkL_bit ht, mkL_bit ht, h1 t ht, Bool.xor_true]
    rfl
  · refine congrArg some (eq_mkL (fun t ht => ?_))
    rw [tab 4 (by decide) _ (hf t) _ (hg t)]
    show ((mkL f).toBitVec ^^^ (-1 : Int64).toBitVec).getLsbD t = _
    rw [BitVec.getLsbD_xor, mkL_bit ht, h1 t ht, Bool.xor_true]
    rfl
/-- a long moved on by a delay, what lay ahead coming in -/
theorem later_bit {dl : Nat} (h1 : 1 ≤ dl) (h2 : dl ≤ 18) (f g : Nat → Nat) : (mkL f <<< ((nI dl).toInt64 &&& 63)) ||| (((mkL g).toUInt64 >>> (((64 : Int32) - nI dl).toInt64.toUInt64 &&& Int64.toUInt64 63)).toInt64) = mkL (fun t => if t < dl then g (64 - dl + t) else f (t - dl)) := by
  have s1 : ∀ q, q < 19 → ((nI q).toInt64 &&& 63).toBitVec.smod 64 = BitVec.ofNat 64 q := by decide
  have s2 : ∀ q, q < 19 → 0 < q → (((64 : Int32) - nI q).toInt64.toUInt64 &&& Int64.toUInt64 63).toNat = 64 - q := by decide
  apply eq_mkL
  intro t ht
  have e1 : (mkL f <<< ((nI dl).toInt64 &&& 63)).toBitVec = (mkL f).toBitVec <<< dl := by
    show (mkL f).toBitVec <<< (((nI dl).toInt64 &&& 63).toBitVec.smod 64) = _
    rw [s1 dl (by omega)]
    show (mkL f).toBitVec <<< (BitVec.ofNat 64 dl).toNat = _
    rw [BitVec.toNat_ofNat, Nat.mod_eq_of_lt (by omega)]
  have e2 : ((((mkL g).toUInt64 >>> (((64 : Int32) - nI dl).toInt64.toUInt64 &&& Int64.toUInt64 63)).toInt64)).toBitVec = (mkL g).toBitVec >>> (64 - dl) := by
    show ((mkL g).toUInt64 >>> (((64 : Int32) - nI dl).toInt64.toUInt64 &&& Int64.toUInt64 63)).toBitVec = _
    have z := s2 dl (by omega) (by omega)
    generalize (((64 : Int32) - nI dl).toInt64.toUInt64 &&& Int64.toUInt64 63) = u at z
    show (mkL g).toBitVec >>> (u.toBitVec % 64#64) = _
    show (mkL g).toBitVec >>> (u.toBitVec % 64#64).toNat = _
    rw [BitVec.toNat_umod]
    show (mkL g).toBitVec >>> (u.toNat % 64) = _
    rw [z, Nat.mod_eq_of_lt (by omega)]
  show ((mkL f <<< ((nI dl).toInt64 &&& 63)).toBitVec ||| (((mkL g).toUInt64 >>> (((64 : Int32) - nI dl).toInt64.toUInt64 &&& Int64.toUInt64 63)).toInt64).toBitVec).getLsbD t = _
  rw [e1, e2, BitVec.getLsbD_or, BitVec.getLsbD_shiftLeft, BitVec.getLsbD_ushiftRight]
  by_cases h : t < dl
  · have hz : (mkL f).toBitVec.getLsbD (t - dl) = (mkL f).toBitVec.getLsbD (t - dl) := rfl
    rw [if_pos h, mkL_bit (show 64 - dl + t < 64 by omega)]
    simp [h, ht]
  · rw [if_neg h, BitVec.getLsbD_of_ge _ _ (show 64 ≤ 64 - dl + t by omega), mkL_bit (show t - dl < 64 by omega)]
    simp [h, ht]
