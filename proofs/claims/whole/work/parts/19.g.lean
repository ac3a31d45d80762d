-- reading the class's waves
theorem low1 (y : Int64) : (y &&& 1).toInt32 = nI (if y.toBitVec.getLsbD 0 then 1 else 0) := by
  have key : y &&& 1 = if y.toBitVec.getLsbD 0 then 1 else 0 := by
    apply Int64.toBitVec_inj.mp
    apply BitVec.eq_of_getLsbD_eq
    intro t ht
    show (y.toBitVec &&& 1#64).getLsbD t = _
    rw [BitVec.getLsbD_and, BitVec.getLsbD_one]
    by_cases h : t = 0
    · subst h
      cases hb : y.toBitVec.getLsbD 0 <;> simp
    · cases hb : y.toBitVec.getLsbD 0
      · simp [h]
      · show _ = (1#64).getLsbD t
        rw [BitVec.getLsbD_one]
        simp [h]
  rw [key]
  split <;> rfl
theorem shr_bit {t : Nat} (ht : t < 64) (x : Int64) (u : Int32) (hu : u = nI t) : (((x.toUInt64 >>> (u.toInt64.toUInt64 &&& Int64.toUInt64 63)).toInt64) &&& 1).toInt32 = nI (if x.toBitVec.getLsbD t then 1 else 0) := by
  subst hu
  have s2 : ∀ q, q < 64 → ((nI q).toInt64.toUInt64 &&& Int64.toUInt64 63).toNat = q := by decide +kernel
  have e2 : ((x.toUInt64 >>> ((nI t).toInt64.toUInt64 &&& Int64.toUInt64 63)).toInt64).toBitVec = x.toBitVec >>> t := by
    show (x.toUInt64 >>> ((nI t).toInt64.toUInt64 &&& Int64.toUInt64 63)).toBitVec = _
    have z := s2 t ht
    generalize ((nI t).toInt64.toUInt64 &&& Int64.toUInt64 63) = u at z
    show x.toBitVec >>> (u.toBitVec % 64#64).toNat = _
    rw [BitVec.toNat_umod]
    show x.toBitVec >>> (u.toNat % 64) = _
    rw [z, Nat.mod_eq_of_lt (by omega)]
  rw [low1, e2, BitVec.getLsbD_ushiftRight, Nat.add_zero]
theorem sel2 {b : Nat} (h : b < 2) : (if decide (b = 1) = true then 1 else 0) = b := by
  rcases (show b = 0 ∨ b = 1 by omega) with rfl | rfl <;> rfl
theorem at_eq (N : Nat) {s t : Nat} (hs : s < 18) (ht : t < 100) {w : Int → Nat} (hw : ∀ u, w u < 2) {lo hi0 : Nat → Int64} (h0 : lo s = mkL (fun u => w (((0 : Nat) : Int) + u))) (h1 : hi0 s = mkL (fun u => w (((64 : Nat) : Int) + u))) : f_X8_at N (nI s) (nI t) hi0 lo = some (nI (w t)) := by
  rw [f_X8_at]
  simp only [bnd, grd_nI hs (show 18 ≤ 2 ^ 31 by decide), nI_clamp (show s < 2 ^ 31 by omega), h0, h1]
  by_cases h : 64 ≤ t
  · rw [if_pos (show (64 : Int32) ≤ nI t from le_t h (by omega))]
    have e : nI t - 64 = nI (t - 64) := by
      have z := nI_add (t - 64) 64
      rw [show t - 64 + 64 = t by omega] at z
      rw [← z]
      exact Int32.add_sub_cancel _ _
    rw [shr_bit (t := t - 64) (by omega) _ _ e, mkL_bit (show t - 64 < 64 by omega), sel2 (hw _)]
    exact congrArg (fun v => some (nI (w v))) (by omega)
  · rw [if_neg (show ¬ (64 : Int32) ≤ nI t from le_f (a := 64) (by omega) (by decide)), shr_bit (t := t) (by omega) _ _ rfl, mkL_bit (show t < 64 by omega), sel2 (hw _)]
    exact congrArg (fun v => some (nI (w v))) (by omega)
theorem low_mk {b : Nat} (hb : b < 2) : ((mkL fun _ => b) &&& 1).toInt32 = nI b := by
  rw [low1, mkL_bit (by decide), sel2 hb]
section WM
variable {n G : Nat} {L R nx κ d : Nat → Nat} {nt : Nat → Bool}
theorem waveC (N : Nat) (hn : n ≤ 4) (hG : G ≤ 8) (hκ : ∀ g, g < G → κ g ≤ 4) {pair g t : Nat} (hg : g < G) (ht : t < 100) (lo hi0 : Nat → Int64) : f_X8_at N (nI (10 + g)) (nI t) (wvL L R κ d pair n 64 hi0 G) (wvL L R κ d pair n 0 lo G) = some (nI (Ws L R κ d pair G (4 + g) t)) := by
  have hs : Sg n G (4 + g) := Or.inr ⟨by omega, by omega⟩
  have ec : cs (4 + g) = 10 + g := by
    unfold cs
    rw [if_neg (by omega)]
    omega
  have r1 := wvL_at (L := L) (R := R) (κ := κ) (d := d) (pair := pair) (off := 0) (base := lo) hs hn
  have r2 := wvL_at (L := L) (R := R) (κ := κ) (d := d) (pair := pair) (off := 64) (base := hi0) hs hn
  rw [ec] at r1 r2
  exact at_eq N (by omega) ht (w := fun u => Ws L R κ d pair G (4 + g) u) (fun u => Ws_lt hκ pair G (Nat.le_refl _) _ _) r1 r2
/-- late: the output is not yet what it comes to -/
def ltE (L R κ d : Nat → Nat) (G pair t : Nat) : Bool := decide (Ws L R κ d pair G (4 + (G - 1)) t ≠ Bs L R κ (pair % 16) G (4 + (G - 1)))
theorem lateC (N : Nat) (hn : n ≤ 4) (hG : G ≤ 8) (h0 : 0 < G) (hκ : ∀ g, g < G → κ g ≤ 4) {pair t : Nat} (ht : t < 100) (af lo hi0 : Nat → Int64) : f_X8_isLate N (nI t) (nI G) (wvL L R κ d pair n 64 hi0 G) (wvL L R κ d pair n 0 lo G) (bfL L R κ (pair % 16) n af G) = some (zI (ltE L R κ d G pair t)) := by
  have hs : Sg n G (4 + (G - 1)) := Or.inr ⟨by omega, by omega⟩
  have ec : cs (4 + (G - 1)) = 10 + (G - 1) := by
    unfold cs
    rw [if_neg (by omega)]
    omega
  have e : (10 : Int32) + nI G - 1 = nI (10 + (G - 1)) := by
    have z := nI_add (10 + (G - 1)) 1
    rw [show 10 + (G - 1) + 1 = 10 + G by omega] at z
    rw [show (10 : Int32) + nI G = nI (10 + G) from nI_add 10 G, ← z]
    exact Int32.add_sub_cancel _ _
  have r3 := bfL_at (L := L) (R := R) (κ := κ) (pat := pair % 16) (base := af) hs hn
  rw [ec] at r3
  rw [f_X8_isLate]
  simp only [bnd, e, waveC N hn hG hκ (show G - 1 < G by omega) ht, obd1, grd_nI (show 10 + (G - 1) < 18 by omega) (show 18 ≤ 2 ^ 31 by decide), nI_clamp (show 10 + (G - 1) < 2 ^ 31 by omega), r3, low_mk (Bs_lt hκ (pair % 16) G (Nat.le_refl _) _)]
  have hw := Ws_lt (L := L) (R := R) (d := d) hκ pair G (Nat.le_refl _) (4 + (G - 1)) t
  have hb := Bs_lt (L := L) (R := R) hκ (pair % 16) G (Nat.le_refl _) (4 + (G - 1))
  unfold ltE
  by_cases h : Ws L R κ d pair G (4 + (G - 1)) t = Bs L R κ (pair % 16) G (4 + (G - 1))
  · rw [h, if_pos rfl]
    simp [zI]
  · rw [if_neg (fun z => h ((nI_eq (by omega) (by omega)).mp z))]
    simp [zI, h]
end WM
