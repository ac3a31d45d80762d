-- slows: weights, and both loops over the sets of gates
theorem fraction_eq {N : Nat} (hN : 1000 ≤ N) {a b : Nat} (ha : a < 2 ^ 31) (hb0 : 0 < b) (hb : b < 2 ^ 30) (y : Int32) : f_X9_fraction N (nI a) (nI b) y = some (if y = 0 then nI (b / Nat.gcd b a) else nI (a / Nat.gcd b a)) := by
  have hg : 0 < Nat.gcd b a := Nat.gcd_pos_of_pos_left _ hb0
  have hg31 : Nat.gcd b a < 2 ^ 31 := Nat.lt_of_le_of_lt (Nat.gcd_le_left _ hb0) (by omega)
  rw [f_X9_fraction]
  simp only [bnd]
  refine (euC N _ 30 a b 0 N hb ha (by decide) (by decide) (by omega)).trans ?_
  try dsimp only
  rw [if_neg (nz_nI hg31 (by omega)), grd_t (nzt hg31 (by omega)), grd_t (nzt hg31 (by omega)), pk_div (by omega) hg hg31, pk_div ha hg hg31]
  by_cases hy : y = 0
  · rw [if_pos hy, if_pos hy]
  · rw [if_neg hy, if_neg hy]
theorem common_eq {N : Nat} (hN : 1000 ≤ N) {a b : Nat} (ha : a < 2 ^ 31) (hb : b < 2 ^ 30) : f_X10_common N (nI a) (nI b) = some (nI (Nat.gcd b a)) := by
  rw [f_X10_common]
  simp only [bnd]
  rw [if_pos (show (0 : Int32) ≤ nI a from le_t (a := 0) (Nat.zero_le _) ha)]
  exact euM N _ 30 a b N hb ha (by decide) (by omega)
def wtN (x set : Nat) : Nat → Nat
  | 0 => 1
  | g + 1 => wtN x set g * if set.testBit g then x else 10 - x
def dsN (d : Nat → Nat) (set : Nat) : Nat → Nat := fun g => d g + if set.testBit g then 3 else 0
def slwA (w : Nat → Nat) (l : Nat → Bool) : Nat → Nat
  | 0 => 0
  | q + 1 => slwA w l q + if l q then w q else 0
def slwB (w : Nat → Nat) : Nat → Nat
  | 0 => 0
  | q + 1 => slwB w q + w q
theorem slwA_le (w : Nat → Nat) (l : Nat → Bool) : ∀ q, slwA w l q ≤ slwB w q
  | 0 => Nat.le_refl _
  | q + 1 => by
    have := slwA_le w l q
    rw [slwA, slwB]
    split <;> omega
theorem slwB_add (w : Nat → Nat) (a : Nat) : ∀ b, slwB w (a + b) = slwB w a + slwB (fun q => w (a + q)) b
  | 0 => rfl
  | b + 1 => by
    rw [← Nat.add_assoc, slwB, slwB, slwB_add w a b]
    omega
theorem slwB_cong {w w' : Nat → Nat} : ∀ {q : Nat}, (∀ z, z < q → w z = w' z) → slwB w q = slwB w' q
  | 0, _ => rfl
  | q + 1, h => by
    rw [slwB, slwB, slwB_cong (fun z hz => h z (by omega)), h q (by omega)]
theorem slwB_mul (w : Nat → Nat) (c : Nat) : ∀ q, slwB (fun z => w z * c) q = slwB w q * c
  | 0 => (Nat.zero_mul c).symm
  | q + 1 => by
    rw [slwB, slwB, slwB_mul w c q, Nat.add_mul]
theorem wtN_up {x g set : Nat} : ∀ k, k ≤ g → wtN x (2 ^ g + set) k = wtN x set k
  | 0, _ => rfl
  | k + 1, h => by
    rw [wtN, wtN, wtN_up k (by omega), Nat.testBit_two_pow_add_gt (by omega)]
theorem wt_sum {x : Nat} (hx : x ≤ 10) : ∀ G, slwB (fun set => wtN x set G) (2 ^ G) = 10 ^ G
  | 0 => rfl
  | G + 1 => by
    have h1 : slwB (fun set => wtN x set (G + 1)) (2 ^ G) = slwB (fun set => wtN x set G * (10 - x)) (2 ^ G) := slwB_cong (fun z hz => by
      show wtN x z (G + 1) = wtN x z G * (10 - x)
      rw [wtN, Nat.testBit_lt_two_pow hz, if_neg (by decide)])
    have h2 : slwB (fun q => wtN x (2 ^ G + q) (G + 1)) (2 ^ G) = slwB (fun set => wtN x set G * x) (2 ^ G) := slwB_cong (fun z hz => by
      show wtN x (2 ^ G + z) (G + 1) = wtN x z G * x
      rw [wtN, wtN_up G (Nat.le_refl _), Nat.testBit_two_pow_add_eq, Nat.testBit_lt_two_pow hz, if_pos (by decide)])
    rw [Nat.pow_succ, Nat.mul_two, slwB_add, h1, h2, slwB_mul, slwB_mul, wt_sum hx G, Nat.pow_succ, ← Nat.mul_add, show 10 - x + x = 10 by omega]
theorem wtN_le {x set : Nat} (hx : x ≤ 10) : ∀ g, wtN x set g ≤ 10 ^ g
  | 0 => Nat.le_refl _
  | g + 1 => by
    rw [wtN, Nat.pow_succ]
    apply Nat.mul_le_mul (wtN_le hx g)
    split <;> omega
theorem pow10_8 {g : Nat} (h : g ≤ 8) : 10 ^ g ≤ 100000000 := Nat.le_trans (Nat.pow_le_pow_right (by decide) h) (by decide)
theorem shl1_tab : ∀ g, g < 9 → (1 : Int32) <<< (nI g &&& 31) = nI (2 ^ g) := by decide
theorem shl1 {g : Nat} (h : g ≤ 8) : (1 : Int32) <<< (nI g &&& 31) = nI (2 ^ g) := shl1_tab g (by omega)
theorem pow2_8 {g : Nat} (h : g ≤ 8) : 2 ^ g ≤ 256 := Nat.le_trans (Nat.pow_le_pow_right (by decide) h) (by decide)
theorem chance_eq {N : Nat} (hN : 1000 ≤ N) {set x G : Nat} (hs : set < 2 ^ 31) (hx : x ≤ 10) (hG : G ≤ 8) : f_X9_chanceOf N (nI set) (nI x) (nI G) = some (nI (wtN x set G)) := by
  rw [f_X9_chanceOf]
  simp only [bnd]
  exact forL (fun nf q s => f_X9_chanceOf_L5 N (nI set) (nI x) (nI G) (fun z => some z) nf s (nI q)) G (fun q => nI (wtN x set q)) (some (nI (wtN x set G))) (fun nf => by
    rw [f_X9_chanceOf_L5, if_pos (le_t (Nat.le_refl _) (by omega))]) (fun q nf hq => by
    rw [f_X9_chanceOf_L5, if_neg (le_f hq (by omega)), bit_nI hs (by omega)]
    simp only [bnd, nI_1]
    rw [wtN]
    cases hb : set.testBit q with
    | true => rw [(tb_iff set q).mp hb, if_pos (show nI 1 = 1 from rfl), if_pos rfl, pk_mul]
    | false => rw [(tb_iff0 set q).mp hb, if_neg (show ¬ nI 0 = 1 by decide), if_neg (by decide), show (10 : Int32) - nI x = nI (10 - x) from pk_sub (a := 10) hx, pk_mul]) G 0 N (by omega) (by omega)
theorem strial_eq {N : Nat} (hN : 1000 ≤ N) {set G : Nat} (hs : set < 2 ^ 31) (hG : G ≤ 8) {nowd : Nat → Int32} {d : Nat → Nat} (hD : ∀ g, g < G → nowd g = nI (d g)) (dl : Nat → Int32) : ∃ w, f_X9_slowTrial N (nI set) (nI G) nowd dl = some w ∧ ∀ g, g < G → w g = nI (dsN d set g) := by
  have key : ∀ (m i nf : Nat) (w : Nat → Int32), i + m = G → m < nf → (∀ j, j < i → w j = nI (dsN d set j)) → ∃ w', f_X9_slowTrial_L2 N (nI set) (nI G) nowd (fun w => some w) nf (nI i) w = some w' ∧ ∀ j, j < G → w' j = nI (dsN d set j) := by
    intro m
    induction m with
    | zero =>
      intro i nf w hi hnf h1
      obtain ⟨q, rfl⟩ : ∃ q, nf = q + 1 := ⟨nf - 1, by omega⟩
      rw [f_X9_slowTrial_L2, if_pos (le_t (by omega) (by omega))]
      exact ⟨w, rfl, fun j hj => h1 j (by omega)⟩
    | succ m ih =>
      intro i nf w hi hnf h1
      obtain ⟨q, rfl⟩ : ∃ q, nf = q + 1 := ⟨nf - 1, by omega⟩
      have hi8 : i < 8 := by omega
      have hs2 : ∀ x : Int32, x = nI (dsN d set i) → ∀ j, j < i + 1 → upd w i x j = nI (dsN d set j) := by
        intro x hx j hj
        by_cases e : j = i
        · subst e
          rw [updEq, hx]
        · rw [updNe e]
          exact h1 j (by omega)
      rw [f_X9_slowTrial_L2, if_neg (le_f (by omega) (by omega)), bit_nI hs (by omega)]
      simp only [bnd, nI_1, grd_nI hi8 (show 8 ≤ 2 ^ 31 by decide), nI_clamp (show i < 2 ^ 31 by omega), hD i (by omega)]
      cases hb : set.testBit i with
      | true =>
        rw [(tb_iff set i).mp hb, if_pos (show nI 1 = 1 from rfl)]
        exact ih (i + 1) q _ (by omega) (by omega) (hs2 _ (by
          unfold dsN
          rw [hb, if_pos rfl]
          exact nI_add _ 3))
      | false =>
        rw [(tb_iff0 set i).mp hb, if_neg (show ¬ nI 0 = 1 by decide)]
        exact ih (i + 1) q _ (by omega) (by omega) (hs2 _ (by
          unfold dsN
          rw [hb, if_neg (by decide)]
          exact nI_add _ 0))
  rw [f_X9_slowTrial]
  simp only [bnd]
  exact key G 0 N dl (by omega) (by omega) (fun j hj => absurd hj (Nat.not_lt_zero _))
section SLW
variable {n G : Nat} {L R nx κ d : Nat → Nat} {nt : Nat → Bool}
theorem dsN_ok (hd : ∀ g, g < G → 1 ≤ d g ∧ d g ≤ 9) (set : Nat) : ∀ g, g < G → 1 ≤ dsN d set g ∧ dsN d set g ≤ 18 := by
  intro g hg
  have := hd g hg
  unfold dsN
  split <;> omega
theorem slwC {N : Nat} (hN : 1000 ≤ N) (hC : Circ n G L R nt) (h0 : 0 < G) (hκ : KOk G nt κ) (hd : ∀ g, g < G → 1 ≤ d g ∧ d g ≤ 9) {inputs : Int32} {lefts rights nexts kinds nowd : Nat → Int32} (hNC : NetC n G L R nx nt inputs (nI G) lefts rights nexts) (hK : ∀ g, g < G → kinds g = nI (κ g)) (hD : ∀ g, g < G → nowd g = nI (d g)) {pair t x : Nat} (hp : pair < 256) (ht : t < 100) (hx : x ≤ 10) (J : Int32 → (Nat → Int32) → (Nat → Int64) → (Nat → Int64) → (Nat → Int64) → (Nat → Int64) → Option (Int32 × (Nat → Int32) × (Nat → Int32) × (Nat → Int64) × (Nat → Int64) × (Nat → Int64) × (Nat → Int64))) : ∀ (m q nf : Nat) (dl : Nat → Int32) (c1 c2 c3 c4 : Nat → Int64), q + m = 2 ^ G → m < nf → ∃ dl' c1' c2' c3' c4', f_X9_slows_L75 N (nI pair) (nI t) (nI x) inputs (nI G) nowd lefts rights kinds (nI (2 ^ G)) J nf (nI (slwA (fun set => wtN x set G) (fun set => ltE L R κ (dsN d set) G pair t) q)) (nI q) dl c1 c2 c3 c4 = J (nI (slwA (fun set => wtN x set G) (fun set => ltE L R κ (dsN d set) G pair t) (2 ^ G))) dl' c1' c2' c3' c4' := by
  have hn := hC.1
  have hG := hC.2.1
  have h28 := pow2_8 hG
  have h108 := pow10_8 hG
  have hκ4 : ∀ g, g < G → κ g ≤ 4 := fun g h => (hκ g h).1
  intro m
  induction m with
  | zero =>
    intro q nf dl c1 c2 c3 c4 hq hnf
    obtain ⟨nf, rfl⟩ : ∃ z, nf = z + 1 := ⟨nf - 1, by omega⟩
    obtain rfl : q = 2 ^ G := by omega
    refine ⟨dl, c1, c2, c3, c4, ?_⟩
    rw [f_X9_slows_L75, if_pos (le_t (Nat.le_refl _) (by omega))]
  | succ m ih =>
    intro q nf dl c1 c2 c3 c4 hq hnf
    obtain ⟨nf, rfl⟩ : ∃ z, nf = z + 1 := ⟨nf - 1, by omega⟩
    have hw := wtN_le (set := q) hx G
    rw [f_X9_slows_L75, if_neg (le_f (by omega) (by omega)), chance_eq hN (by omega) hx hG]
    simp only [obd1, bnd, nI_1]
    by_cases hz : wtN x q G = 0
    · rw [if_pos (show nI (wtN x q G) ≤ 0 from le_t (b := 0) (by omega) (by decide))]
      obtain ⟨dl', e1, e2, e3, e4, he⟩ := ih (q + 1) nf dl c1 c2 c3 c4 (by omega) (by omega)
      refine ⟨dl', e1, e2, e3, e4, ?_⟩
      rw [← he, slwA]
      try dsimp only
      rw [hz, ite_self]
      rfl
    · rw [if_neg (show ¬ nI (wtN x q G) ≤ 0 from le_f (b := 0) (by omega) (by omega))]
      obtain ⟨w, hw1, hw2⟩ := strial_eq hN (set := q) (by omega) hG hD dl
      rw [hw1]
      simp only
      rw [run_eq hN hC hκ (dsN_ok hd q) hNC hK hw2 hp]
      simp only [obd4]
      rw [lateC N hn hG h0 hκ4 ht]
      simp only
      obtain ⟨dl', e1, e2, e3, e4, he⟩ := ih (q + 1) nf w (bfL L R κ (pair / 16) n c1 G) (bfL L R κ (pair % 16) n c2 G) (wvL L R κ (dsN d q) pair n 0 c3 G) (wvL L R κ (dsN d q) pair n 64 c4 G) (by omega) (by omega)
      refine ⟨dl', e1, e2, e3, e4, ?_⟩
      rw [← he, slwA]
      try dsimp only
      cases hl : ltE L R κ (dsN d q) G pair t with
      | true => rw [if_neg (show ¬ zI true = 0 by decide), if_pos rfl, nI_add]
      | false =>
        rw [if_pos (show zI false = 0 by decide), if_neg (by decide), Int32.add_zero]
        rfl
theorem slwI {N : Nat} (hG : G ≤ 8) {set x : Nat} (hs : set < 256) (hx : x ≤ 10) (now0 : Nat → Int32) (h24 : ∀ g, g < G → now0 (24 + g) = nI (d g)) (J : Int32 → (Nat → Int32) → Option (Int32 × (Nat → Int32) × (Nat → Int32) × (Nat → Int32) × (Nat → Int32) × (Nat → Int32))) : ∀ (m g nf : Nat) (now : Nat → Int32), g + m = G → m < nf → (∀ i, i < 24 → now i = now0 i) → (∀ h, h < g → now (24 + h) = nI (dsN d set h)) → (∀ h, g ≤ h → h < G → now (24 + h) = nI (d h)) → ∃ now', f_X10_slows_L75 N (nI x) (nI G) (nI set) J nf (nI (wtN x set g)) (nI g) now = J (nI (wtN x set G)) now' ∧ (∀ i, i < 24 → now' i = now0 i) ∧ ∀ h, h < G → now' (24 + h) = nI (dsN d set h) := by
  intro m
  induction m with
  | zero =>
    intro g nf now hg hnf h1 h2 h3
    obtain ⟨nf, rfl⟩ : ∃ z, nf = z + 1 := ⟨nf - 1, by omega⟩
    obtain rfl : g = G := by omega
    refine ⟨now, ?_, h1, h2⟩
    rw [f_X10_slows_L75, if_pos (le_t (Nat.le_refl _) (by omega))]
  | succ m ih =>
    intro g nf now hg hnf h1 h2 h3
    obtain ⟨nf, rfl⟩ : ∃ z, nf = z + 1 := ⟨nf - 1, by omega⟩
    have hb : now (24 + g) = nI (d g) := h3 g (Nat.le_refl _) (by omega)
    rw [f_X10_slows_L75, if_neg (le_f (by omega) (by omega)), has_eq N (by omega) (by omega), show (24 : Int32) + nI g = nI (24 + g) from nI_add 24 g]
    simp only [obd1, bnd, nI_1, zI_0, grd_nI (show 24 + g < 32 by omega) (show 32 ≤ 2 ^ 31 by decide), nI_clamp (show 24 + g < 2 ^ 31 by omega), hb]
    obtain ⟨now', e1, e2, e3⟩ := ih (g + 1) nf (upd now (24 + g) (nI (dsN d set g))) (by omega) (by omega) (fun i hi => by rw [updNe (by omega)]; exact h1 i hi) (fun h hh => by
      by_cases e : h = g
      · subst e
        rw [updEq]
      · rw [updNe (by omega)]
        exact h2 h (by omega)) (fun h hh hh2 => by
      rw [updNe (by omega)]
      exact h3 h (by omega) hh2)
    refine ⟨now', ?_, e2, e3⟩
    rw [← e1, wtN]
    unfold dsN
    cases hbt : set.testBit g with
    | true =>
      rw [if_neg (by decide), if_neg (by decide), if_pos rfl, if_pos rfl, pk_mul]
      exact congrArg (fun z => f_X10_slows_L75 N (nI x) (nI G) (nI set) J nf (nI (wtN x set g * x)) (nI (g + 1)) (upd now (24 + g) z)) (nI_add (d g) 3)
    | false =>
      rw [if_pos rfl, if_pos rfl, if_neg (by decide), if_neg (by decide), show (10 : Int32) - nI x = nI (10 - x) from pk_sub (a := 10) hx, pk_mul]
      exact congrArg (fun z => f_X10_slows_L75 N (nI x) (nI G) (nI set) J nf (nI (wtN x set g * (10 - x))) (nI (g + 1)) (upd now (24 + g) z)) (nI_add (d g) 0)
theorem slwM {N : Nat} (hN : 1000 ≤ N) (hC : Circ n G L R nt) (h0 : 0 < G) (hκ : KOk G nt κ) (hd : ∀ g, g < G → 1 ≤ d g ∧ d g ≤ 9) {inputs : Int32} {one other next : Nat → Int32} (hNM : NetM n G L R nx nt inputs (nI G) one other next) {pair t x : Nat} (hp : pair < 256) (ht : t < 100) (hx : x ≤ 10) (J : Int32 → Int32 → (Nat → Int32) → (Nat → Int32) → (Nat → Int32) → (Nat → Int32) → (Nat → Int32) → Option (Int32 × (Nat → Int32) × (Nat → Int32) × (Nat → Int32) × (Nat → Int32) × (Nat → Int32))) : ∀ (m q nf : Nat) (now bf af va W : Nat → Int32), q + m = 2 ^ G → m < nf → SetM G κ d now 0 → ∃ now' bf' af' va' W', f_X10_slows_L54 N (nI pair) (nI t) (nI x) inputs (nI G) other one J nf (nI (slwA (fun set => wtN x set G) (fun set => ltE L R κ (dsN d set) G pair t) q)) (nI (slwB (fun set => wtN x set G) q)) (nI q) now bf af va W = J (nI (slwA (fun set => wtN x set G) (fun set => ltE L R κ (dsN d set) G pair t) (2 ^ G))) (nI (slwB (fun set => wtN x set G) (2 ^ G))) now' bf' af' va' W' ∧ SetM G κ d now' 0 := by
  have hn := hC.1
  have hG := hC.2.1
  have h28 := pow2_8 hG
  have h108 := pow10_8 hG
  intro m
  induction m with
  | zero =>
    intro q nf now bf af va W hq hnf hM
    obtain ⟨nf, rfl⟩ : ∃ z, nf = z + 1 := ⟨nf - 1, by omega⟩
    obtain rfl : q = 2 ^ G := by omega
    refine ⟨now, bf, af, va, W, ?_, hM⟩
    rw [f_X10_slows_L54, shl1 hG, if_pos (le_t (Nat.le_refl _) (by omega))]
  | succ m ih =>
    intro q nf now bf af va W hq hnf hM
    obtain ⟨nf, rfl⟩ : ∃ z, nf = z + 1 := ⟨nf - 1, by omega⟩
    have hw := wtN_le (set := q) hx G
    obtain ⟨w, hw1, hw2⟩ := lay_eq hN now
    have hM8 : ∀ h, h < G → now (8 + h) = nI (d h) := fun h hh => by have := (hM h hh).2; rw [Nat.zero_add] at this; exact this
    have hM0 : ∀ h, h < G → now h = nI (κ h) := fun h hh => by have := (hM h hh).1; rw [Nat.zero_add] at this; exact this
    have hw24 : ∀ h, h < G → w (24 + h) = nI (d h) := fun h hh => by
      have := (hw2 (8 + h) (by omega)).2
      rw [show 16 + (8 + h) = 24 + h by omega] at this
      rw [this, hM8 h hh]
    rw [f_X10_slows_L54, shl1 hG, if_neg (le_f (by omega) (by omega)), hw1]
    simp only [obd1, bnd, nI_1]
    obtain ⟨v, hv1, hv2, hv3⟩ := slwI (N := N) hG (set := q) (by omega) hx w hw24 (fun x8_21 k_now_22 => if x8_21 ≤ 0 then f_X10_slows_L54 N (nI pair) (nI t) (nI x) inputs (nI G) other one J nf (nI (slwA (fun set => wtN x set G) (fun set => ltE L R κ (dsN d set) G pair t) q) + 0) (nI (slwB (fun set => wtN x set G) q) + x8_21) (nI (q + 1)) k_now_22 bf af va W else obd5 (f_X10_isLate N 1 (nI pair) (nI t) inputs (nI G) k_now_22 other one bf af va W) fun r b a v' w' => if r = 0 then f_X10_slows_L54 N (nI pair) (nI t) (nI x) inputs (nI G) other one J nf (nI (slwA (fun set => wtN x set G) (fun set => ltE L R κ (dsN d set) G pair t) q) + 0) (nI (slwB (fun set => wtN x set G) q) + x8_21) (nI (q + 1)) k_now_22 b a v' w' else f_X10_slows_L54 N (nI pair) (nI t) (nI x) inputs (nI G) other one J nf (nI (slwA (fun set => wtN x set G) (fun set => ltE L R κ (dsN d set) G pair t) q) + x8_21) (nI (slwB (fun set => wtN x set G) q) + x8_21) (nI (q + 1)) k_now_22 b a v' w') G 0 N w (by omega) (by omega) (fun _ _ => rfl) (fun h hh => absurd hh (Nat.not_lt_zero _)) (fun h _ hh => hw24 h hh)
    have hMv : SetM G κ d v 0 := by
      intro h hh
      rw [Nat.zero_add, Nat.zero_add, hv2 h (by omega), hv2 (8 + h) (by omega), (hw2 h (by omega)).1, (hw2 (8 + h) (by omega)).1]
      exact ⟨hM0 h hh, hM8 h hh⟩
    have hK2 : ∀ h, h < G → v (16 * 1 + h) = nI (κ h) := by
      intro h hh
      rw [Nat.mul_one, hv2 (16 + h) (by omega), (hw2 h (by omega)).2, hM0 h hh]
    have hD2 : ∀ h, h < G → v (16 * 1 + 8 + h) = nI (dsN d q h) := fun h hh => hv3 h hh
    by_cases hz : wtN x q G = 0
    · obtain ⟨now', e1, e2, e3, e4, he, hM'⟩ := ih (q + 1) nf v bf af va W (by omega) (by omega) hMv
      refine ⟨now', e1, e2, e3, e4, ?_, hM'⟩
      refine Eq.trans hv1 ?_
      try dsimp only
      rw [if_pos (show nI (wtN x q G) ≤ 0 from le_t (b := 0) (by omega) (by decide)), ← he, slwA, slwB, nI_add]
      try dsimp only
      rw [hz, ite_self, Int32.add_zero]
      rfl
    · obtain ⟨W', w1⟩ := lateM hN hC h0 hκ (dsN_ok hd q) hNM (now := v) (lv := 1) (by decide) hK2 hD2 hp ht bf af va W
      have w2 : f_X10_isLate N 1 (nI pair) (nI t) inputs (nI G) v other one bf af va W = _ := w1
      obtain ⟨now', e1, e2, e3, e4, he, hM'⟩ := ih (q + 1) nf v (bfM L R κ (pair / 16) n bf G) (bfM L R κ (pair % 16) n af G) (vaM L R κ pair n va G) W' (by omega) (by omega) hMv
      refine ⟨now', e1, e2, e3, e4, ?_, hM'⟩
      refine Eq.trans hv1 ?_
      try dsimp only
      rw [if_neg (show ¬ nI (wtN x q G) ≤ 0 from le_f (b := 0) (by omega) (by omega)), w2]
      simp only [obd5]
      rw [← he, slwA, slwB, nI_add]
      try dsimp only
      cases hl : ltE L R κ (dsN d q) G pair t with
      | true => rw [if_neg (show ¬ zI true = 0 by decide), if_pos rfl, nI_add]
      | false =>
        rw [if_pos (show zI false = 0 by decide), if_neg (by decide), Int32.add_zero]
        rfl
end SLW
theorem ten_L (N : Nat) (J : Int32 → Option (Int32 × (Nat → Int32) × (Nat → Int32) × (Nat → Int64) × (Nat → Int64) × (Nat → Int64) × (Nat → Int64))) {G : Nat} (hG : G ≤ 8) (hN : 1000 ≤ N) : f_X9_slows_L166 N (nI G) J N 1 0 = J (nI (10 ^ G)) :=
  forL (fun nf q s => f_X9_slows_L166 N (nI G) J nf s (nI q)) G (fun q => nI (10 ^ q)) (J (nI (10 ^ G))) (fun nf => by
    rw [f_X9_slows_L166, if_pos (le_t (Nat.le_refl _) (by omega))]) (fun q nf hq => by
    rw [f_X9_slows_L166, if_neg (le_f hq (by omega))]
    simp only [bnd, nI_1]
    rw [show nI (10 ^ q) * (10 : Int32) = nI (10 ^ q * 10) from pk_mul _ 10, Nat.pow_succ]) G 0 N (by omega) (by omega)
theorem sm_slows {N : Nat} (hN : 1000 ≤ N) (y1 y2 y3 y4 : Int32) {n G : Nat} {L R nx : Nat → Nat} {nt : Nat → Bool} {κ d : Nat → Nat} {i1 i2 i3 : Int32} {a1 a2 a3 a4 a5 a6 a7 : Nat → Int32} {j1 j2 j3 : Int32} {b1 b2 b3 b4 b5 : Nat → Int32} {kinds delays now : Nat → Int32} (tk td : Nat → Int32) (c1 c2 c3 c4 : Nat → Int64) (bf af va W : Nat → Int32) (hNet : RNet n G L R nx nt i1 i2 i3 a1 a2 a3 a4 a5 a6 a7 j1 j2 j3 b1 b2 b3 b4 b5) (hNow : RNow G nt κ d kinds delays now) :
    ∃ r tk' td' c1' c2' c3' c4' now' bf' af' va' W', f_X9_slows N y1 y2 y3 y4 i1 i2 kinds tk delays td a1 a2 c1 c2 c3 c4 = some (r, tk', td', c1', c2', c3', c4') ∧ f_X10_slows N y1 y2 y3 y4 j1 j2 now b2 b1 bf af va W = some (r, now', bf', af', va', W') ∧ RNow G nt κ d kinds delays now' := by
  obtain ⟨hn, hG, rfl, rfl, rfl, rfl⟩ := hNet.c
  have e0 : (0 : Int32).toInt = 0 := rfl
  have e99 : (99 : Int32).toInt = 99 := rfl
  have e10 : (10 : Int32).toInt = 10 := rfl
  have f0 : (0 : Int64).toInt = 0 := rfl
  have f10 : (10 : Int64).toInt = 10 := rfl
  rw [f_X9_slows, f_X10_slows, hasPair_eq N y1 hn, isPair_eq N y1 hn, tzM, in_spec, Int32.toInt_toInt64, f0, f10]
  simp only [obd1]
  by_cases hq : pz y1 n = 0
  · rw [if_pos hq, if_pos hq]
    exact ⟨_, _, _, _, _, _, _, _, _, _, _, _, rfl, rfl, hNow⟩
  rw [if_neg hq, if_neg hq]
  simp only [zo0, fa_lt, fa_le, e0, e99, e10]
  by_cases ht : tz y2 = 0
  · rw [if_pos ht]
    unfold tz at ht
    rw [zo0] at ht
    by_cases h1 : y2.toInt < 0
    · rw [if_pos h1]
      exact ⟨_, _, _, _, _, _, _, _, _, _, _, _, rfl, rfl, hNow⟩
    · rw [if_neg h1, if_pos (by omega)]
      exact ⟨_, _, _, _, _, _, _, _, _, _, _, _, rfl, rfl, hNow⟩
  rw [if_neg ht]
  obtain ⟨p, hp, rfl, -⟩ := pz_in hq
  obtain ⟨t, ht', rfl⟩ := tz_in ht
  rw [if_neg (show ¬ (nI t).toInt < 0 by rw [nI_toInt (by omega)]; omega), if_neg (show ¬ (99 : Int) < (nI t).toInt by rw [nI_toInt (by omega)]; omega)]
  by_cases h1 : y3.toInt < 0
  · rw [if_pos h1, if_pos (by omega)]
    exact ⟨_, _, _, _, _, _, _, _, _, _, _, _, rfl, rfl, hNow⟩
  rw [if_neg h1]
  by_cases h2 : y3.toInt ≤ 10
  · rw [if_pos h2, if_neg (show ¬ ¬ (0 ≤ y3.toInt ∧ y3.toInt ≤ 10) by omega)]
    obtain ⟨x, hx, rfl⟩ := nI_of_rng (y := y3) (n := 11) (by omega) (by omega) (by decide)
    by_cases h0 : nI G = 0
    · rw [if_pos h0, if_pos h0]
      exact ⟨_, _, _, _, _, _, _, _, _, _, _, _, rfl, rfl, hNow⟩
    rw [if_neg h0, if_neg h0, copy_eq hN, shl1 hG]
    have hG0 : 0 < G := by
      rcases Nat.eq_zero_or_pos G with h | h
      · exact absurd (h ▸ rfl) h0
      · exact h
    have hcp : ∀ (src base : Nat → Int32) (g : Nat), g < G → cpN src 0 base 8 g = src g := by
      intro src base g hg
      unfold cpN
      rw [if_pos (by omega), Nat.zero_add]
    simp only [obd2, bnd]
    have h10 := pow10_8 hG
    have hb0 : 0 < 10 ^ G := Nat.pow_pos (by decide)
    have hB := wt_sum (x := x) (by omega) G
    obtain ⟨dl', c1', c2', c3', c4', hx1⟩ := slwC hN hNet.1 hG0 hNow.1.1 hNow.1.2 hNet.2.2.1 (kinds := cpN kinds 0 tk 8) (nowd := delays) (fun g h => by rw [hcp _ _ g h]; exact (hNow.2.1 g h).1) (fun g h => (hNow.2.1 g h).2) hp ht' (show x ≤ 10 by omega) (fun x5 td' w1 w2 w3 w4 => f_X9_slows_L166 N (nI G) (fun x7 => obd1 (f_X9_fraction N x5 x7 y4) fun r => some (r, cpN kinds 0 tk 8, td', w1, w2, w3, w4)) N 1 0) (2 ^ G) 0 N (cpN delays 0 td 8) c1 c2 c3 c4 (by omega) (by have := pow2_8 hG; omega)
    obtain ⟨now', bf', af', va', W', hz1, hM⟩ := slwM hN hNet.1 hG0 hNow.1.1 hNow.1.2 hNet.2.2.2.1 hp ht' (show x ≤ 10 by omega) (fun x5 x6 w b a v W => obd1 (f_X10_common N x5 x6) fun r => if y4 = 0 then grd (nzI r) (some (x6 / r, w, b, a, v, W)) else grd (nzI r) (some (x5 / r, w, b, a, v, W))) (2 ^ G) 0 N now bf af va W (by omega) (by have := pow2_8 hG; omega) hNow.2.2
    have hA := slwA_le (fun set => wtN x set G) (fun set => ltE L R κ (dsN d set) G p t) (2 ^ G)
    rw [hB] at hA hz1
    try dsimp only at hx1 hz1
    rw [ten_L N _ hG hN, fraction_eq hN (by omega) hb0 (by omega)] at hx1
    rw [common_eq hN (by omega) (by omega)] at hz1
    simp only [obd1] at hx1 hz1
    have hg : 0 < Nat.gcd (10 ^ G) (slwA (fun set => wtN x set G) (fun set => ltE L R κ (dsN d set) G p t) (2 ^ G)) := Nat.gcd_pos_of_pos_left _ hb0
    have hg31 : Nat.gcd (10 ^ G) (slwA (fun set => wtN x set G) (fun set => ltE L R κ (dsN d set) G p t) (2 ^ G)) < 2 ^ 31 := Nat.lt_of_le_of_lt (Nat.gcd_le_left _ hb0) (by omega)
    rw [grd_t (nzt hg31 (by omega)), grd_t (nzt hg31 (by omega)), pk_div (by omega) hg hg31, pk_div (by omega) hg hg31] at hz1
    by_cases hy : y4 = 0
    · rw [if_pos hy] at hx1 hz1
      exact ⟨_, _, _, _, _, _, _, _, _, _, _, _, hx1, hz1, hNow.1, hNow.2.1, hM⟩
    · rw [if_neg hy] at hx1 hz1
      exact ⟨_, _, _, _, _, _, _, _, _, _, _, _, hx1, hz1, hNow.1, hNow.2.1, hM⟩
  · rw [if_neg h2, if_pos (by omega)]
    exact ⟨_, _, _, _, _, _, _, _, _, _, _, _, rfl, rfl, hNow⟩
