-- share: the reference's greatest, both loops
def facN : Nat → Nat
  | 0 => 1
  | k + 1 => facN k * (k + 1)
theorem fac_tab : ∀ a, a < 9 → 0 < facN a ∧ facN a ≤ 40320 := by decide
theorem fac2_tab : ∀ a, a < 8 → ∀ b, b < 8 → a + b < 8 → facN a * facN b ≤ 5040 := by decide
theorem orders_tab : ∀ k, k < 9 → f_X9_ordersOf 0 (nI k) = some (nI (facN k)) := by decide +kernel
theorem orders_eq (N : Nat) {k : Nat} (hk : k ≤ 8) : f_X9_ordersOf N (nI k) = some (nI (facN k)) := orders_tab k (by omega)
theorem bc_tab : ∀ v, v < 256 → f_J6_bitCount_0f7a4 0 (nI v) = some (nI (ones v 8)) := by decide +kernel
theorem bc_eq (N : Nat) {v : Nat} (h : v < 256) : f_J6_bitCount_0f7a4 N (nI v) = some (nI (ones v 8)) := bc_tab v h
theorem fact_eq {N : Nat} (hN : 1000 ≤ N) {k : Nat} (hk : k ≤ 8) : f_X10_factorial N (nI k) = some (nI (facN k)) := by
  rw [f_X10_factorial]
  simp only [bnd]
  have e := forL (fun nf q s => f_X10_factorial_L4 N (nI k) (fun x => some x) nf s (nI (q + 2))) (k - 1) (fun q => nI (facN (q + 1))) (some (nI (facN k))) (fun nf => by
    rw [f_X10_factorial_L4, if_pos (nI_lt (by omega) (by omega))]
    rcases Nat.eq_zero_or_pos k with w | w
    · subst w
      rfl
    · rw [show k - 1 + 1 = k by omega]) (fun q nf hq => by
    rw [f_X10_factorial_L4, if_neg (fun z => by have := (nI_ltI (by omega) (by omega)).mp z; omega)]
    simp only [bnd, nI_1]
    rw [pk_mul]
    rfl) (k - 1) 0 N (by omega) (by omega)
  exact e
theorem ones_lt {set g : Nat} (hb : set.testBit g = false) : ∀ {G : Nat}, g < G → ones set G + 1 ≤ G
  | 0, h => by omega
  | G + 1, h => by
    rw [ones]
    have h1 := ones_le set G
    rcases Nat.lt_or_ge g G with w | w
    · have := ones_lt hb w
      split <;> omega
    · have : g = G := by omega
      subst this
      rw [hb, if_neg (by decide)]
      omega
theorem slwA_bd {w : Nat → Nat} {l : Nat → Bool} {B : Nat} : ∀ {q : Nat}, (∀ z, z < q → l z = true → w z ≤ B) → slwA w l q ≤ q * B
  | 0, _ => Nat.zero_le _
  | q + 1, h => by
    have h1 := slwA_bd (q := q) (fun z hz => h z (by omega))
    rw [slwA, Nat.succ_mul]
    by_cases hl : l q = true
    · have := h q (by omega) hl
      rw [if_pos hl]
      omega
    · rw [if_neg hl]
      omega
section SH
variable {n G : Nat} {L R nx κ d : Nat → Nat} {nt : Nat → Bool}
theorem gbL {N : Nat} (hG : G ≤ 8) {come : Nat} (hc : come < 256) (w0 : Nat → Int32) (h8 : ∀ g, g < G → w0 (8 + g) = nI (d g)) (J : (Nat → Int32) → Option (Int32 × (Nat → Int32))) : ∀ (m g nf : Nat) (now : Nat → Int32), g + m = G → m < nf → (∀ i, i < 24 → now i = w0 i) → (∀ h, h < g → now (24 + h) = nI (cmN d come h)) → ∃ now', f_X10_greatestBy_L6 N (nI come) (nI G) J nf (nI g) now = J now' ∧ (∀ i, i < 24 → now' i = w0 i) ∧ ∀ h, h < G → now' (24 + h) = nI (cmN d come h) := by
  intro m
  induction m with
  | zero =>
    intro g nf now hg hnf h1 h2
    obtain ⟨nf, rfl⟩ : ∃ z, nf = z + 1 := ⟨nf - 1, by omega⟩
    obtain rfl : g = G := by omega
    refine ⟨now, ?_, h1, h2⟩
    rw [f_X10_greatestBy_L6, if_pos (le_t (Nat.le_refl _) (by omega))]
  | succ m ih =>
    intro g nf now hg hnf h1 h2
    obtain ⟨nf, rfl⟩ : ∃ z, nf = z + 1 := ⟨nf - 1, by omega⟩
    rw [f_X10_greatestBy_L6, if_neg (le_f (by omega) (by omega)), has_eq N (by omega) (by omega), show (24 : Int32) + nI g = nI (24 + g) from nI_add 24 g, show (8 : Int32) + nI g = nI (8 + g) from nI_add 8 g]
    simp only [obd1, bnd, nI_1, zI_0, grd_nI (show 24 + g < 32 by omega) (show 32 ≤ 2 ^ 31 by decide), nI_clamp (show 24 + g < 2 ^ 31 by omega), grd_nI (show 8 + g < 32 by omega) (show 32 ≤ 2 ^ 31 by decide), nI_clamp (show 8 + g < 2 ^ 31 by omega), h1 (8 + g) (by omega), h8 g (by omega)]
    obtain ⟨now', e1, e2, e3⟩ := ih (g + 1) nf (upd now (24 + g) (nI (cmN d come g))) (by omega) (by omega) (fun i hi => by rw [updNe (by omega)]; exact h1 i hi) (fun h hh => by
      by_cases e : h = g
      · subst e
        rw [updEq]
      · rw [updNe (by omega)]
        exact h2 h (by omega))
    refine ⟨now', ?_, e2, e3⟩
    rw [← e1]
    unfold cmN
    cases hbt : come.testBit g with
    | true => rw [if_neg (by decide), if_pos rfl]
    | false =>
      rw [if_pos rfl, if_neg (by decide)]
      rfl
theorem gby_eq {N : Nat} (hN : 1000 ≤ N) (hC : Circ n G L R nt) (h0 : 0 < G) (hd : ∀ g, g < G → 1 ≤ d g ∧ d g ≤ 9) {mp : Int32} {pin pga : Nat → Int32} (hPM : PathM (PL n G L R) mp pin pga) {come : Nat} (hc : come < 256) {now : Nat → Int32} (hM : SetM G κ d now 0) : ∃ now', f_X10_greatestBy N (nI come) (nI G) (nI (PL n G L R).length) now pga = some (nI (upT L R (cmN d come) G (4 + (G - 1))), now') ∧ SetM G κ d now' 0 := by
  have hG := hC.2.1
  have h55 := hPM.2.1
  obtain ⟨w, hw1, hw2⟩ := lay_eq hN now
  have hM8 : ∀ h, h < G → now (8 + h) = nI (d h) := fun h hh => by have := (hM h hh).2; rw [Nat.zero_add] at this; exact this
  have hM0 : ∀ h, h < G → now h = nI (κ h) := fun h hh => by have := (hM h hh).1; rw [Nat.zero_add] at this; exact this
  obtain ⟨v, v1, v2, v3⟩ := gbL (N := N) (d := d) hG hc w (fun g hg => by rw [(hw2 (8 + g) (by omega)).1, hM8 g hg]) (fun k => obd1 (f_X10_greatest N 1 (nI G) (nI (PL n G L R).length) pga k) fun r => some (r, k)) G 0 N w (by omega) (by omega) (fun _ _ => rfl) (fun h hh => absurd hh (Nat.not_lt_zero _))
  obtain ⟨len, hlenD⟩ : ∃ len : Nat → Nat, ∀ p, len p = match (PL n G L R)[p]? with | some x => plen (cmN d come) x.2 G | none => 0 := ⟨_, fun _ => rfl⟩
  have hcm : ∀ g, g < G → cmN d come g ≤ 9 := by
    intro g h
    have := hd g h
    unfold cmN
    split <;> omega
  have hlb : ∀ q, len q < 2 ^ 31 := by
    intro q
    rw [hlenD]
    split
    · have := plen_le (d := cmN d come) (set := (by assumption : Nat × Nat).2) (b := 9) (G := G) hcm
      omega
    · decide
  have hlen : ∀ p i set, (PL n G L R)[p]? = some (i, set) → len p = plen (cmN d come) set G := by
    intro p i set h
    rw [hlenD, h]
  have hL : ∀ p, p < (PL n G L R).length → f_X10_lengthOf N (nI 1) (nI p) (nI G) pga v = some (nI (len p)) := by
    intro p hp
    obtain ⟨⟨i, set⟩, hel⟩ : ∃ x, (PL n G L R)[p]? = some x := ⟨_, List.getElem?_eq_getElem hp⟩
    rw [hlen p i set hel]
    exact lenM_eq hN hG (lv := 1) (by decide) hPM (fun p i set h => (PL_in h).2.1) (fun g hg => v3 g hg) hel
  have hgr : f_X10_greatest N 1 (nI G) (nI (PL n G L R).length) pga v = _ := greatM_eq (lv := 1) hN h55 hL
  refine ⟨v, ?_, ?_⟩
  · rw [f_X10_greatestBy, hw1]
    simp only [obd1, bnd]
    refine Eq.trans v1 ?_
    try dsimp only
    rw [hgr, great_len hC h0 hlen hlb]
    rfl
  · intro h hh
    rw [Nat.zero_add, Nat.zero_add, v2 h (by omega), v2 (8 + h) (by omega), (hw2 h (by omega)).1, (hw2 (8 + h) (by omega)).1]
    exact ⟨hM0 h hh, hM8 h hh⟩
def shT (U : Nat → Nat) (G g set : Nat) : Nat := (U (set ||| 2 ^ g) - U set) * facN (ones set G) * facN (G - 1 - ones set G)
theorem cmN_mono (d : Nat → Nat) (set g : Nat) : ∀ h, cmN d set h ≤ cmN d (set ||| 2 ^ g) h := by
  intro h
  unfold cmN
  rw [Nat.testBit_or]
  cases set.testBit h with
  | true => exact Nat.le_refl _
  | false => exact Nat.zero_le _
theorem onesG {q : Nat} (hG : G ≤ 8) (hq : q < 2 ^ G) : ones q 8 = ones q G := by
  have := ones_more hq (8 - G)
  rw [show G + (8 - G) = 8 by omega] at this
  exact this
theorem shC {N : Nat} (hN : 1000 ≤ N) (hC : Circ n G L R nt) (hd : ∀ g, g < G → 1 ≤ d g ∧ d g ≤ 9) {inputs : Int32} {lefts rights nexts delays : Nat → Int32} (hNC : NetC n G L R nx nt inputs (nI G) lefts rights nexts) (hD : ∀ g, g < G → delays g = nI (d g)) {g : Nat} (hg : g < G) (J : Int32 → (Nat → Int32) → Option (Int32 × (Nat → Int32))) : ∀ (m q nf : Nat) (up : Nat → Int32), q + m = 2 ^ G → m < nf → ∃ up', f_X9_share_L29 N (nI g) inputs (nI G) delays lefts rights (nI (2 ^ G)) J nf (nI (slwA (shT (fun come => upT L R (cmN d come) G (4 + (G - 1))) G g) (fun set => !set.testBit g) q)) (nI q) up = J (nI (slwA (shT (fun come => upT L R (cmN d come) G (4 + (G - 1))) G g) (fun set => !set.testBit g) (2 ^ G))) up' := by
  have hG := hC.2.1
  have h28 := pow2_8 hG
  intro m
  induction m with
  | zero =>
    intro q nf up hq hnf
    obtain ⟨nf, rfl⟩ : ∃ z, nf = z + 1 := ⟨nf - 1, by omega⟩
    obtain rfl : q = 2 ^ G := by omega
    refine ⟨up, ?_⟩
    rw [f_X9_share_L29, if_pos (le_t (Nat.le_refl _) (by omega))]
  | succ m ih =>
    intro q nf up hq hnf
    obtain ⟨nf, rfl⟩ : ∃ z, nf = z + 1 := ⟨nf - 1, by omega⟩
    have hqG : q < 2 ^ G := by omega
    rw [f_X9_share_L29, if_neg (le_f (by omega) (by omega)), bit_nI (by omega) (by omega)]
    simp only [bnd, nI_1]
    cases hb : q.testBit g with
    | true =>
      obtain ⟨up', he⟩ := ih (q + 1) nf up (by omega) (by omega)
      refine ⟨up', ?_⟩
      rw [(tb_iff q g).mp hb, if_neg (show ¬ nI 1 = 0 by decide), ← he, slwA]
      try dsimp only
      rw [hb, if_neg (by decide)]
      rfl
    | false =>
      have ho := ones_lt hb hg
      have hor : q ||| 2 ^ g < 2 ^ G := Nat.or_lt_two_pow hqG (Nat.pow_lt_pow_right (by decide) hg)
      obtain ⟨up1, u1⟩ := span_eq hN hC (by omega) hd hNC hD (come := q ||| 2 ^ g) (by omega) up
      obtain ⟨up2, u2⟩ := span_eq hN hC (by omega) hd hNC hD (come := q) (by omega) up1
      obtain ⟨up', he⟩ := ih (q + 1) nf up2 (by omega) (by omega)
      refine ⟨up', ?_⟩
      have hmo := upT_mono (L := L) (R := R) (G := G) (fun h _ => cmN_mono d q g h) G (Nat.le_refl _) (4 + (G - 1))
      rw [(tb_iff0 q g).mp hb, if_pos (show nI 0 = 0 from rfl), bc_eq N (by omega), onesG hG hqG, shl1 (by omega), nI_or, u1]
      simp only [obd1, obd2]
      rw [u2]
      simp only
      rw [orders_eq N (by omega), show nI G - 1 = nI (G - 1) from pk_sub (b := 1) (by omega), pk_sub (show ones q G ≤ G - 1 by omega), orders_eq N (by omega)]
      simp only
      rw [pk_sub hmo, pk_mul, pk_mul, nI_add, ← he, slwA]
      try dsimp only
      rw [hb, if_pos (by decide)]
      rfl
theorem shM {N : Nat} (hN : 1000 ≤ N) (hC : Circ n G L R nt) (hd : ∀ g, g < G → 1 ≤ d g ∧ d g ≤ 9) {mp : Int32} {pin pga : Nat → Int32} (hPM : PathM (PL n G L R) mp pin pga) {g : Nat} (hg : g < G) (J : Int32 → (Nat → Int32) → Option (Int32 × (Nat → Int32))) : ∀ (m q nf : Nat) (now : Nat → Int32), q + m = 2 ^ G → m < nf → SetM G κ d now 0 → ∃ now', f_X10_share_L15 N (nI g) (nI G) (nI (PL n G L R).length) pga J nf (nI (slwA (shT (fun come => upT L R (cmN d come) G (4 + (G - 1))) G g) (fun set => !set.testBit g) q)) (nI q) now = J (nI (slwA (shT (fun come => upT L R (cmN d come) G (4 + (G - 1))) G g) (fun set => !set.testBit g) (2 ^ G))) now' ∧ SetM G κ d now' 0 := by
  have hG := hC.2.1
  have h28 := pow2_8 hG
  intro m
  induction m with
  | zero =>
    intro q nf now hq hnf hM
    obtain ⟨nf, rfl⟩ : ∃ z, nf = z + 1 := ⟨nf - 1, by omega⟩
    obtain rfl : q = 2 ^ G := by omega
    refine ⟨now, ?_, hM⟩
    rw [f_X10_share_L15, shl1 hG, if_pos (le_t (Nat.le_refl _) (by omega))]
  | succ m ih =>
    intro q nf now hq hnf hM
    obtain ⟨nf, rfl⟩ : ∃ z, nf = z + 1 := ⟨nf - 1, by omega⟩
    have hqG : q < 2 ^ G := by omega
    rw [f_X10_share_L15, shl1 hG, if_neg (le_f (by omega) (by omega)), has_eq N (by omega) (by omega)]
    simp only [obd1, bnd, nI_1, zI_0]
    cases hb : q.testBit g with
    | true =>
      obtain ⟨now', he, hM'⟩ := ih (q + 1) nf now (by omega) (by omega) hM
      refine ⟨now', ?_, hM'⟩
      rw [if_neg (by decide), ← he, slwA]
      try dsimp only
      rw [hb, if_neg (by decide)]
      rfl
    | false =>
      have ho := ones_lt hb hg
      have hor : q ||| 2 ^ g < 2 ^ G := Nat.or_lt_two_pow hqG (Nat.pow_lt_pow_right (by decide) hg)
      obtain ⟨now1, u1, m1⟩ := gby_eq hN hC (by omega) hd hPM (come := q ||| 2 ^ g) (by omega) hM
      obtain ⟨now2, u2, m2⟩ := gby_eq hN hC (by omega) hd hPM (come := q) (by omega) m1
      obtain ⟨now', he, hM'⟩ := ih (q + 1) nf now2 (by omega) (by omega) m2
      refine ⟨now', ?_, hM'⟩
      have hmo := upT_mono (L := L) (R := R) (G := G) (fun h _ => cmN_mono d q g h) G (Nat.le_refl _) (4 + (G - 1))
      rw [if_pos rfl, onesM_eq hN (by omega), onesG hG hqG]
      simp only
      rw [fact_eq hN (by omega), show nI G - 1 = nI (G - 1) from pk_sub (b := 1) (by omega), pk_sub (show ones q G ≤ G - 1 by omega), fact_eq hN (by omega), shl1 (by omega), nI_or, u1]
      simp only [obd2]
      rw [u2]
      simp only
      rw [pk_sub hmo, pk_mul, pk_mul, nI_add, ← he, slwA]
      try dsimp only
      rw [hb, if_pos (by decide), shT, Nat.mul_comm, Nat.mul_assoc]
end SH
theorem sm_share {N : Nat} (hN : 1000 ≤ N) (y1 y2 : Int32) {n G : Nat} {L R nx : Nat → Nat} {nt : Nat → Bool} {κ d : Nat → Nat} {i1 i2 i3 : Int32} {a1 a2 a3 a4 a5 a6 a7 : Nat → Int32} {j1 j2 j3 : Int32} {b1 b2 b3 b4 b5 : Nat → Int32} {kinds delays now : Nat → Int32} (up : Nat → Int32) (hNet : RNet n G L R nx nt i1 i2 i3 a1 a2 a3 a4 a5 a6 a7 j1 j2 j3 b1 b2 b3 b4 b5) (hNow : RNow G nt κ d kinds delays now) :
    ∃ r up' now', f_X9_share N y1 y2 i1 i2 delays a1 up a2 = some (r, up') ∧ f_X10_share N y1 y2 j2 j3 now b5 = some (r, now') ∧ RNow G nt κ d kinds delays now' := by
  obtain ⟨hn, hG, rfl, rfl, rfl, rfl⟩ := hNet.c
  obtain ⟨hC, hnx, hNC, hNM, hPC, hPM⟩ := hNet
  have f3 := hPM.1
  have h55 := hPC.2.1
  subst f3
  rw [f_X9_share, f_X10_share, hasGate_eq N y1 (by omega), isGate_eq N y1 (by omega)]
  simp only [obd1]
  by_cases hz : gz y1 G = 0
  · rw [if_pos hz, if_pos hz]
    exact ⟨_, _, _, rfl, rfl, hNow⟩
  rw [if_neg hz, if_neg hz]
  obtain ⟨g, hg, rfl⟩ := gz_in (by omega) hz
  have h28 := pow2_8 hG
  rw [shl1 hG]
  simp only [bnd, orders_eq N hG, fact_eq hN hG, obd1]
  obtain ⟨up', hx⟩ := shC hN hC hNow.1.2 hNC (fun g h => (hNow.2.1 g h).2) hg (fun x3 k => obd1 (f_X9_fraction N x3 (nI (facN G)) y2) fun r6 => some (r6, k)) (2 ^ G) 0 N up (by omega) (by omega)
  obtain ⟨now', hm, hM⟩ := shM hN hC hNow.1.2 hPM hg (fun x3 k => obd1 (f_X10_common N x3 (nI (facN G))) fun r5 => if y2 = 0 then grd (nzI r5) (some (nI (facN G) / r5, k)) else grd (nzI r5) (some (x3 / r5, k))) (2 ^ G) 0 N now (by omega) (by omega) hNow.2.2
  have hbd := slwA_bd (w := shT (fun come => upT L R (cmN d come) G (4 + (G - 1))) G g) (l := fun set => !set.testBit g) (B := 362880) (q := 2 ^ G) (fun z hz hl => by
    have hb : z.testBit g = false := by
      cases hb : z.testBit g with
      | false => rfl
      | true =>
        rw [hb] at hl
        cases hl
    have ho := ones_lt hb hg
    have hf := fac2_tab (ones z G) (by omega) (G - 1 - ones z G) (by omega) (by omega)
    have hu := upT_le (L := L) (R := R) (G := G) (e := cmN d (z ||| 2 ^ g)) (b := 9) (fun h hh => by
      have := hNow.1.2 h hh
      unfold cmN
      split <;> omega) G (Nat.le_refl _) (4 + (G - 1))
    unfold shT
    rw [Nat.mul_assoc]
    exact Nat.le_trans (Nat.mul_le_mul (Nat.le_trans (Nat.sub_le _ _) (Nat.le_trans hu (show G * 9 ≤ 72 by omega))) hf) (by decide))
  obtain ⟨hf0, hf1⟩ := fac_tab G (by omega)
  have hlt : slwA (shT (fun come => upT L R (cmN d come) G (4 + (G - 1))) G g) (fun set => !set.testBit g) (2 ^ G) < 2 ^ 31 := by
    have : 2 ^ G * 362880 ≤ 256 * 362880 := Nat.mul_le_mul_right _ h28
    omega
  try dsimp only at hx hm
  rw [fraction_eq hN hlt hf0 (by omega)] at hx
  rw [common_eq hN hlt (by omega)] at hm
  simp only [obd1] at hx hm
  have hg0 : 0 < Nat.gcd (facN G) (slwA (shT (fun come => upT L R (cmN d come) G (4 + (G - 1))) G g) (fun set => !set.testBit g) (2 ^ G)) := Nat.gcd_pos_of_pos_left _ hf0
  have hg31 : Nat.gcd (facN G) (slwA (shT (fun come => upT L R (cmN d come) G (4 + (G - 1))) G g) (fun set => !set.testBit g) (2 ^ G)) < 2 ^ 31 := Nat.lt_of_le_of_lt (Nat.gcd_le_left _ hf0) (by omega)
  rw [grd_t (nzt hg31 (by omega)), grd_t (nzt hg31 (by omega)), pk_div (by omega) hg0 hg31, pk_div (by omega) hg0 hg31] at hm
  by_cases hy : y2 = 0
  · rw [if_pos hy] at hx hm
    exact ⟨_, _, _, hx, hm, hNow.1, hNow.2.1, hM⟩
  · rw [if_neg hy] at hx hm
    exact ⟨_, _, _, hx, hm, hNow.1, hNow.2.1, hM⟩
