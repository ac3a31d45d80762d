-- longs: rows of the kit's BITS (wb_, pf_), then Long.bitCount
theorem wb_tb (n : Nat) : (lN n).toBitVec = BitVec.ofNat 64 n := rfl
theorem wb_inj {a b : Int64} (h : a.toBitVec = b.toBitVec) : a = b := Int64.toBitVec_inj.mp h
theorem wb_tn {n : Nat} (h : n < 2 ^ 64) : (lN n).toBitVec.toNat = n := by rw [wb_tb, BitVec.toNat_ofNat, Nat.mod_eq_of_lt h]
theorem wb_c : ∀ k, k < 64 → ((nI k).toInt64 &&& 63) = lN k := by decide +kernel
theorem wb_cu : ∀ k, k < 64 → ((nI k).toInt64.toUInt64 &&& Int64.toUInt64 63) = UInt64.ofNat k := by decide +kernel
theorem wb_sm : ∀ k, k < 64 → (BitVec.ofNat 64 k).smod 64 = BitVec.ofNat 64 k := by decide +kernel
theorem wb_lt2 {a b : Nat} (h : a < b) : 2 ^ a < 2 ^ b := Nat.pow_lt_pow_right (by decide) h
theorem wb_shr {n k : Nat} (hn : n < 2 ^ 64) (hk : k < 64) : ((lN n).toUInt64 >>> ((nI k).toInt64.toUInt64 &&& Int64.toUInt64 63)).toInt64 = lN (n / 2 ^ k) := by
  rw [wb_cu k hk]
  apply wb_inj
  apply BitVec.eq_of_toNat_eq
  show ((lN n).toUInt64 >>> UInt64.ofNat k).toNat = (BitVec.ofNat 64 _).toNat
  have h1 : (UInt64.ofNat k).toNat = k := by
    show (BitVec.ofNat 64 k).toNat = k
    rw [BitVec.toNat_ofNat, Nat.mod_eq_of_lt (by omega)]
  have h2 : (lN n).toUInt64.toNat = n := wb_tn hn
  rw [UInt64.toNat_shiftRight, h1, h2, Nat.mod_eq_of_lt hk, Nat.shiftRight_eq_div_pow, BitVec.toNat_ofNat, Nat.mod_eq_of_lt (Nat.lt_of_le_of_lt (Nat.div_le_self _ _) hn)]
theorem wb_shl (n : Nat) {k : Nat} (hk : k < 64) : lN n <<< ((nI k).toInt64 &&& 63) = lN (n * 2 ^ k) := by
  rw [wb_c k hk]
  apply wb_inj
  rw [Int64.toBitVec_shiftLeft, wb_tb, wb_tb, wb_tb, wb_sm k hk]
  apply BitVec.eq_of_toNat_eq
  rw [BitVec.shiftLeft_eq', BitVec.toNat_shiftLeft, BitVec.toNat_ofNat, BitVec.toNat_ofNat, BitVec.toNat_ofNat, Nat.mod_eq_of_lt (show k < 2 ^ 64 by omega), Nat.shiftLeft_eq, Nat.mul_mod, Nat.mod_mod, ← Nat.mul_mod]
theorem wb_and {a b : Nat} (ha : a < 2 ^ 64) (hb : b < 2 ^ 64) : lN a &&& lN b = lN (a &&& b) := by
  apply wb_inj
  rw [Int64.toBitVec_and, wb_tb, wb_tb, wb_tb]
  apply BitVec.eq_of_toNat_eq
  rw [BitVec.toNat_and, BitVec.toNat_ofNat, BitVec.toNat_ofNat, BitVec.toNat_ofNat, Nat.mod_eq_of_lt ha, Nat.mod_eq_of_lt hb, Nat.mod_eq_of_lt (Nat.and_lt_two_pow _ hb)]
theorem wb_or {a b : Nat} (ha : a < 2 ^ 64) (hb : b < 2 ^ 64) : lN a ||| lN b = lN (a ||| b) := by
  apply wb_inj
  rw [Int64.toBitVec_or, wb_tb, wb_tb, wb_tb]
  apply BitVec.eq_of_toNat_eq
  rw [BitVec.toNat_or, BitVec.toNat_ofNat, BitVec.toNat_ofNat, BitVec.toNat_ofNat, Nat.mod_eq_of_lt ha, Nat.mod_eq_of_lt hb, Nat.mod_eq_of_lt (Nat.or_lt_two_pow ha hb)]
theorem wb_mask {n k : Nat} (hn : n < 2 ^ 64) (hk : k < 64) : lN n &&& lN (2 ^ k - 1) = lN (n % 2 ^ k) := by
  rw [wb_and hn (by have := wb_lt2 hk; omega), Nat.and_two_pow_sub_one_eq_mod]
theorem wb_a1 {n : Nat} (hn : n < 2 ^ 64) : lN n &&& 1 = lN (n % 2) := wb_mask (k := 1) hn (by decide)
theorem wb_bit {n k : Nat} (hn : n < 2 ^ 64) (hk : k < 64) : ((lN n).toUInt64 >>> ((nI k).toInt64.toUInt64 &&& Int64.toUInt64 63)).toInt64 &&& 1 = lN (n / 2 ^ k % 2) := by
  rw [wb_shr hn hk, wb_a1 (Nat.lt_of_le_of_lt (Nat.div_le_self _ _) hn)]
theorem pf_lI {a : Nat} (h : a < 2 ^ 63) : (lN a).toInt = (a : Int) := lg_ofNat_toInt h
theorem pf_shr {a d : Nat} {D : Int64} (hD : (D.toBitVec.smod 64).toNat = d) (h : a < 2 ^ 62) : lN a >>> D = lN (a / 2 ^ d) := by
  have hd : a / 2 ^ d ≤ a := Nat.div_le_self _ _
  apply Int64.toInt_inj.mp
  have e : (lN a >>> D).toInt = (lN a).toInt >>> d := by
    rw [← hD]
    exact BitVec.toInt_sshiftRight ..
  rw [e, Int.shiftRight_eq_div_pow, pf_lI (by omega), pf_lI (by omega)]
  rfl
def repN (m : Nat) : Nat → Nat
  | 0 => 0
  | k + 1 => m + 256 * repN m k
theorem and_split {b m w m' : Nat} (hb : b < 256) (hm : m < 256) : (b + 256 * w) &&& (m + 256 * m') = (b &&& m) + 256 * (w &&& m') := by
  have hbm : b &&& m < 256 := Nat.and_lt_two_pow (n := 8) b hm
  have t : ∀ (x y j : Nat), x < 256 → (x + 256 * y).testBit j = if j < 8 then x.testBit j else y.testBit (j - 8) := by
    intro x y j hx
    rw [Nat.add_comm]
    exact Nat.testBit_two_pow_mul_add (i := 8) y hx j
  apply Nat.eq_of_testBit_eq
  intro j
  rw [Nat.testBit_and, t _ _ _ hb, t _ _ _ hm, t _ _ _ hbm]
  by_cases h : j < 8
  · rw [if_pos h, if_pos h, if_pos h, Nat.testBit_and]
  · rw [if_neg h, if_neg h, if_neg h, Nat.testBit_and]
def pq1 (k v : Nat) : Nat := v - ((v / 2) &&& repN 85 k)
def pq2 (k v : Nat) : Nat := (v &&& repN 51 k) + ((v / 4) &&& repN 51 k)
def pq3 (k v : Nat) : Nat := (v + v / 16) &&& repN 15 k
def pt1 (b : Nat) : Nat := b - (b / 2 &&& 85)
def pt2 (b : Nat) : Nat := (b &&& 51) + (b / 4 &&& 51)
def pt3 (b : Nat) : Nat := (b + b / 16) &&& 15
theorem pt1_tab : ∀ b, b < 256 → pt1 b < 256 ∧ (b / 2 &&& 85) ≤ b ∧ (b / 2 + 128 * 0) &&& 85 = b / 2 &&& 85 ∧ (b / 2 + 128 * 1) &&& 85 = b / 2 &&& 85 := by decide +kernel
theorem pt2_tab : ∀ b, b < 256 → (b / 4 + 64 * 0) &&& 51 = b / 4 &&& 51 ∧ (b / 4 + 64 * 1) &&& 51 = b / 4 &&& 51 ∧ (b / 4 + 64 * 2) &&& 51 = b / 4 &&& 51 ∧ (b / 4 + 64 * 3) &&& 51 = b / 4 &&& 51 := by decide +kernel
theorem pt12_tab : ∀ b, b < 256 → pt2 (pt1 b) ≤ 68 ∧ pt2 (pt1 b) % 16 ≤ 4 ∧ pt3 (pt2 (pt1 b)) = ones b 8 := by decide +kernel
theorem pt3_tab : ∀ b, b ≤ 68 → ∀ c, c ≤ 4 → (b + b / 16 + 16 * c) &&& 15 = pt3 b := by
  have h : ∀ b, b < 69 → ∀ c, c < 5 → (b + b / 16 + 16 * c) &&& 15 = pt3 b := by decide +kernel
  exact fun b hb c hc => h b (by omega) c (by omega)
theorem pq1_s {k b w : Nat} (hb : b < 256) : pq1 (k + 1) (b + 256 * w) = pt1 b + 256 * pq1 k w := by
  obtain ⟨t1, t2, t3, t4⟩ := pt1_tab b hb
  have hw : (w / 2 &&& repN 85 k) ≤ w := Nat.le_trans Nat.and_le_left (Nat.div_le_self _ _)
  have e : (b + 256 * w) / 2 = (b / 2 + 128 * (w % 2)) + 256 * (w / 2) := by omega
  unfold pq1
  rw [repN, e, and_split (by omega) (by decide)]
  have e2 : (b / 2 + 128 * (w % 2)) &&& 85 = b / 2 &&& 85 := by
    rcases (show w % 2 = 0 ∨ w % 2 = 1 by omega) with h | h
    · rw [h]
      exact t3
    · rw [h]
      exact t4
  rw [e2]
  unfold pt1
  omega
theorem pq2_s {k b w : Nat} (hb : b < 256) : pq2 (k + 1) (b + 256 * w) = pt2 b + 256 * pq2 k w := by
  obtain ⟨t1, t2, t3, t4⟩ := pt2_tab b hb
  have e : (b + 256 * w) / 4 = (b / 4 + 64 * (w % 4)) + 256 * (w / 4) := by omega
  unfold pq2
  rw [repN, e, and_split hb (by decide), and_split (by omega) (by decide)]
  have e2 : (b / 4 + 64 * (w % 4)) &&& 51 = b / 4 &&& 51 := by
    rcases (show w % 4 = 0 ∨ w % 4 = 1 ∨ w % 4 = 2 ∨ w % 4 = 3 by omega) with h | h | h | h
    · rw [h]
      exact t1
    · rw [h]
      exact t2
    · rw [h]
      exact t3
    · rw [h]
      exact t4
  rw [e2]
  unfold pt2
  omega
theorem pq3_s {k b w : Nat} (hb : b ≤ 68) (hw : w % 16 ≤ 4) : pq3 (k + 1) (b + 256 * w) = pt3 b + 256 * pq3 k w := by
  have e : b + 256 * w + (b + 256 * w) / 16 = (b + b / 16 + 16 * (w % 16)) + 256 * (w + w / 16) := by omega
  unfold pq3
  rw [repN, e, and_split (by omega) (by decide), pt3_tab b hb _ hw]
def pcN (k v : Nat) : Nat := pq3 k (pq2 k (pq1 k v))
theorem pq2_low {k v : Nat} (hv : v < 256 ^ k) : pq2 k (pq1 k v) % 16 ≤ 4 := by
  cases k with
  | zero =>
    have : v = 0 := by
      rw [Nat.pow_zero] at hv
      omega
    subst this
    decide
  | succ k =>
    obtain ⟨t1, -, -, -⟩ := pt1_tab (v % 256) (Nat.mod_lt _ (by decide))
    obtain ⟨-, t2, -⟩ := pt12_tab (v % 256) (Nat.mod_lt _ (by decide))
    rw [show v = v % 256 + 256 * (v / 256) by omega, pq1_s (Nat.mod_lt _ (by decide)), pq2_s t1]
    omega
theorem pcN_s {k b w : Nat} (hb : b < 256) (hw : w < 256 ^ k) : pcN (k + 1) (b + 256 * w) = ones b 8 + 256 * pcN k w := by
  obtain ⟨t1, -, -, -⟩ := pt1_tab b hb
  obtain ⟨u1, u2, u3⟩ := pt12_tab b hb
  unfold pcN
  rw [pq1_s hb, pq2_s t1, pq3_s u1 (pq2_low hw), u3]
theorem ones_split {b w : Nat} (hb : b < 256) : ∀ k, ones (b + 256 * w) (8 + k) = ones b 8 + ones w k := by
  have t : ∀ j, (b + 256 * w).testBit j = if j < 8 then b.testBit j else w.testBit (j - 8) := by
    intro j
    rw [Nat.add_comm]
    exact Nat.testBit_two_pow_mul_add (i := 8) w hb j
  have low : ∀ k, k ≤ 8 → ones (b + 256 * w) k = ones b k := by
    intro k
    induction k with
    | zero => intro _; rfl
    | succ k ih =>
      intro h
      have tk := t k
      rw [if_pos (show k < 8 by omega)] at tk
      rw [ones, ones, ih (by omega), tk]
  intro k
  induction k with
  | zero => exact low 8 (by decide)
  | succ k ih =>
    have tk := t (8 + k)
    rw [if_neg (show ¬ 8 + k < 8 by omega), Nat.add_sub_cancel_left] at tk
    show ones (b + 256 * w) (8 + k) + (if (b + 256 * w).testBit (8 + k) then 1 else 0) = ones b 8 + (ones w k + if w.testBit k then 1 else 0)
    rw [ih, tk, Nat.add_assoc]
theorem ones8 (b : Nat) : ones b 8 ≤ 8 := ones_le b 8
theorem bitCount_eq (N : Nat) {v : Nat} (hv : v < 2 ^ 62) : f_J13_bitCount_95d88 N (lN v) = some (nI (ones v 64)) := by
  have hd : ∃ b0 b1 b2 b3 b4 b5 b6 b7, b0 < 256 ∧ b1 < 256 ∧ b2 < 256 ∧ b3 < 256 ∧ b4 < 256 ∧ b5 < 256 ∧ b6 < 256 ∧ b7 < 256 ∧ v = b0 + 256 * (b1 + 256 * (b2 + 256 * (b3 + 256 * (b4 + 256 * (b5 + 256 * (b6 + 256 * (b7 + 256 * 0))))))) :=
    ⟨v % 256, v / 256 % 256, v / 65536 % 256, v / 16777216 % 256, v / 4294967296 % 256, v / 1099511627776 % 256, v / 281474976710656 % 256, v / 72057594037927936 % 256, by omega, by omega, by omega, by omega, by omega, by omega, by omega, by omega, by omega⟩
  obtain ⟨b0, b1, b2, b3, b4, b5, b6, b7, h0, h1, h2, h3, h4, h5, h6, h7, hE⟩ := hd
  have hp : pcN 8 v = ones b0 8 + 256 * (ones b1 8 + 256 * (ones b2 8 + 256 * (ones b3 8 + 256 * (ones b4 8 + 256 * (ones b5 8 + 256 * (ones b6 8 + 256 * (ones b7 8 + 256 * 0))))))) := by
    rw [hE, pcN_s h0 (by omega), pcN_s h1 (by omega), pcN_s h2 (by omega), pcN_s h3 (by omega), pcN_s h4 (by omega), pcN_s h5 (by omega), pcN_s h6 (by omega), pcN_s h7 (by decide)]
    rfl
  have ho : ones v 64 = ones b0 8 + (ones b1 8 + (ones b2 8 + (ones b3 8 + (ones b4 8 + (ones b5 8 + (ones b6 8 + (ones b7 8 + 0))))))) := by
    rw [hE, ones_split h0 56, ones_split h1 48, ones_split h2 40, ones_split h3 32, ones_split h4 24, ones_split h5 16, ones_split h6 8, ones_split h7 0]
    rfl
  have o0 := ones8 b0
  have o1 := ones8 b1
  have o2 := ones8 b2
  have o3 := ones8 b3
  have o4 := ones8 b4
  have o5 := ones8 b5
  have o6 := ones8 b6
  have o7 := ones8 b7
  have m1 : (6148914691236517205 : Int64) = lN (repN 85 8) := by decide
  have m2 : (3689348814741910323 : Int64) = lN (repN 51 8) := by decide
  have m3 : (1085102592571150095 : Int64) = lN (repN 15 8) := by decide
  have r1 : repN 85 8 < 2 ^ 64 := by decide
  have r2 : repN 51 8 < 2 ^ 62 := by decide
  have r3 : repN 15 8 < 2 ^ 62 := by decide
  have sh : ∀ (x : Nat) (k : Nat) (y : Int32), y = nI k → x < 2 ^ 64 → k < 64 → ((lN x).toUInt64 >>> (y.toInt64.toUInt64 &&& Int64.toUInt64 63)).toInt64 = lN (x / 2 ^ k) := by
    intro x k y hy hx hk
    subst hy
    exact wb_shr hx hk
  have a1 : (v / 2 &&& repN 85 8) ≤ v := Nat.le_trans Nat.and_le_left (Nat.div_le_self _ _)
  have l1 : pq1 8 v < 2 ^ 62 := Nat.lt_of_le_of_lt (Nat.sub_le _ _) hv
  have l2a : (pq1 8 v &&& repN 51 8) < 2 ^ 62 := Nat.and_lt_two_pow _ r2
  have l2b : (pq1 8 v / 4 &&& repN 51 8) < 2 ^ 62 := Nat.and_lt_two_pow _ r2
  have l2 : pq2 8 (pq1 8 v) < 2 ^ 63 := by
    unfold pq2
    omega
  have l3 : pcN 8 v < 2 ^ 60 := by omega
  rw [f_J13_bitCount_95d88]
  simp only [bnd]
  rw [m1, m2, m3]
  rw [sh v 1 1 rfl (by omega) (by decide), wb_and (show v / 2 ^ 1 < 2 ^ 64 by omega) r1, lN_sub (show (v / 2 ^ 1 &&& repN 85 8) ≤ v from a1), show lN (v - (v / 2 ^ 1 &&& repN 85 8)) = lN (pq1 8 v) from rfl]
  rw [sh (pq1 8 v) 2 2 rfl (by omega) (by decide), wb_and (show pq1 8 v < 2 ^ 64 by omega) (by omega), wb_and (show pq1 8 v / 2 ^ 2 < 2 ^ 64 by omega) (by omega), lN_add, show lN ((pq1 8 v &&& repN 51 8) + (pq1 8 v / 2 ^ 2 &&& repN 51 8)) = lN (pq2 8 (pq1 8 v)) from rfl]
  rw [sh (pq2 8 (pq1 8 v)) 4 4 rfl (by omega) (by decide), lN_add, wb_and (show pq2 8 (pq1 8 v) + pq2 8 (pq1 8 v) / 2 ^ 4 < 2 ^ 64 by omega) (by omega), show lN (pq2 8 (pq1 8 v) + pq2 8 (pq1 8 v) / 2 ^ 4 &&& repN 15 8) = lN (pcN 8 v) from rfl]
  generalize pcN 8 v = x3 at hp l3
  rw [sh x3 8 8 rfl (by omega) (by decide), lN_add]
  obtain ⟨x4, hx4⟩ : ∃ x4, x4 = x3 + x3 / 2 ^ 8 := ⟨_, rfl⟩
  rw [← hx4, sh x4 16 16 rfl (by omega) (by decide), lN_add]
  obtain ⟨x5, hx5⟩ : ∃ x5, x5 = x4 + x4 / 2 ^ 16 := ⟨_, rfl⟩
  rw [← hx5, sh x5 32 32 rfl (by omega) (by decide), lN_add]
  obtain ⟨x6, hx6⟩ : ∃ x6, x6 = x5 + x5 / 2 ^ 32 := ⟨_, rfl⟩
  rw [← hx6, lN_i]
  have hand : nI x6 &&& 127 = nI (x6 % 128) := by
    have e := pk_and (nI x6) (m := 127) 7 (by decide)
    rw [e]
    have : (nI x6).toBitVec.toNat = x6 % 2 ^ 32 := BitVec.toNat_ofNat ..
    rw [this]
    exact congrArg nI (by omega)
  rw [hand, ho]
  refine congrArg (fun z => some (nI z)) ?_
  clear hand ho hE h0 h1 h2 h3 h4 h5 h6 h7 m1 m2 m3 r1 r2 r3 sh a1 l1 l2a l2b l2 l3 hv
  generalize ones b0 8 = c0 at *
  generalize ones b1 8 = c1 at *
  generalize ones b2 8 = c2 at *
  generalize ones b3 8 = c3 at *
  generalize ones b4 8 = c4 at *
  generalize ones b5 8 = c5 at *
  generalize ones b6 8 = c6 at *
  generalize ones b7 8 = c7 at *
  have q3 : x3 / 2 ^ 8 = c1 + 256 * (c2 + 256 * (c3 + 256 * (c4 + 256 * (c5 + 256 * (c6 + 256 * c7))))) := by omega
  have q4 : x4 = (c0 + c1) + 256 * ((c1 + c2) + 256 * ((c2 + c3) + 256 * ((c3 + c4) + 256 * ((c4 + c5) + 256 * ((c5 + c6) + 256 * ((c6 + c7) + 256 * c7)))))) := by omega
  clear q3 hx4 hp
  have q5 : x4 / 2 ^ 16 = (c2 + c3) + 256 * ((c3 + c4) + 256 * ((c4 + c5) + 256 * ((c5 + c6) + 256 * ((c6 + c7) + 256 * c7)))) := by omega
  have q6 : x5 = (c0 + c1 + c2 + c3) + 256 * ((c1 + c2 + c3 + c4) + 256 * ((c2 + c3 + c4 + c5) + 256 * ((c3 + c4 + c5 + c6) + 256 * ((c4 + c5 + c6 + c7) + 256 * ((c5 + c6 + c7) + 256 * ((c6 + c7) + 256 * c7)))))) := by omega
  clear q4 q5 hx5
  have q7 : x5 / 2 ^ 32 = (c4 + c5 + c6 + c7) + 256 * ((c5 + c6 + c7) + 256 * ((c6 + c7) + 256 * c7)) := by omega
  omega
-- counts
def ctB (f : Nat → Bool) : Nat → Nat
  | 0 => 0
  | p + 1 => ctB f p + if f p then 1 else 0
theorem ctB_cong {f g : Nat → Bool} : ∀ {m : Nat}, (∀ p, p < m → f p = g p) → ctB f m = ctB g m
  | 0, _ => rfl
  | m + 1, h => by
    rw [ctB, ctB, ctB_cong (fun p hp => h p (by omega)), h m (by omega)]
theorem ctB_le (f : Nat → Bool) : ∀ m, ctB f m ≤ m
  | 0 => Nat.le_refl _
  | m + 1 => by
    have := ctB_le f m
    rw [ctB]
    split <;> omega
theorem ones_ct (v : Nat) : ∀ k, ones v k = ctB (fun p => v.testBit p) k
  | 0 => rfl
  | k + 1 => by
    rw [ones, ctB, ones_ct v k]
theorem ctB_cut {f : Nat → Bool} {m : Nat} : ∀ k, ctB (fun p => decide (p < m) && f p) (m + k) = ctB f m
  | 0 => ctB_cong (fun p hp => by
      show (decide (p < m) && f p) = f p
      simp [show p < m by omega])
  | k + 1 => by
    rw [← Nat.add_assoc, ctB, ctB_cut k]
    simp [show ¬ m + k < m by omega]
theorem ones_bsum {f : Nat → Bool} {m : Nat} (hm : m ≤ 64) : ones (bsum f m) 64 = ctB f m := by
  rw [ones_ct, ctB_cong (g := fun p => decide (p < m) && f p) (fun p _ => bsum_tb f p m)]
  have := ctB_cut (f := f) (m := m) (64 - m)
  rw [show m + (64 - m) = 64 by omega] at this
  exact this
