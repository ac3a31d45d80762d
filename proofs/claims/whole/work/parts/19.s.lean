-- share: the greatest length while only some delays have come
theorem nI_or (x y : Nat) : nI x ||| nI y = nI (x ||| y) := by
  apply Int32.toBitVec_inj.mp
  show (BitVec.ofNat 32 x) ||| (BitVec.ofNat 32 y) = BitVec.ofNat 32 (x ||| y)
  exact BitVec.ofNat_or.symm
def upT (L R e : Nat → Nat) : Nat → Nat → Nat
  | 0, _ => 0
  | g + 1, s => if s = 4 + g then max (upT L R e g (L g)) (upT L R e g (R g)) + e g else upT L R e g s
def cmN (d : Nat → Nat) (come : Nat) : Nat → Nat := fun g => if come.testBit g then d g else 0
section UP
variable {n G : Nat} {L R nx κ d e : Nat → Nat} {nt : Nat → Bool}
theorem upT_top {g : Nat} : upT L R e (g + 1) (4 + g) = max (upT L R e g (L g)) (upT L R e g (R g)) + e g := by
  rw [upT, if_pos rfl]
theorem upT_stay {g : Nat} : ∀ k s, s < 4 + g → upT L R e (g + k) s = upT L R e g s
  | 0, _, _ => rfl
  | k + 1, s, h => by
    rw [← Nat.add_assoc, upT, if_neg (by omega)]
    exact upT_stay k s h
theorem upT_at {g s : Nat} (hg : g ≤ G) (h : s < 4 + g) : upT L R e G s = upT L R e g s := by
  have z := upT_stay (L := L) (R := R) (e := e) (g := g) (G - g) s h
  rw [show g + (G - g) = G by omega] at z
  exact z
theorem upT_le {b : Nat} (he : ∀ g, g < G → e g ≤ b) : ∀ g, g ≤ G → ∀ s, upT L R e g s ≤ g * b
  | 0, _, s => Nat.zero_le _
  | g + 1, h, s => by
    have h1 := upT_le he g (by omega)
    have h2 := he g (by omega)
    have a := h1 (L g)
    have c := h1 (R g)
    have f := h1 s
    rw [upT, Nat.succ_mul]
    split
    · have : max (upT L R e g (L g)) (upT L R e g (R g)) ≤ g * b := Nat.max_le.mpr ⟨a, c⟩
      omega
    · omega
theorem upT_mono {e' : Nat → Nat} (he : ∀ g, g < G → e g ≤ e' g) : ∀ g, g ≤ G → ∀ s, upT L R e g s ≤ upT L R e' g s
  | 0, _, s => Nat.le_refl _
  | g + 1, h, s => by
    have h1 := upT_mono he g (by omega)
    have h2 := he g (by omega)
    have a := h1 (L g)
    have c := h1 (R g)
    rw [upT, upT]
    split
    · have : max (upT L R e g (L g)) (upT L R e g (R g)) ≤ max (upT L R e' g (L g)) (upT L R e' g (R g)) := Nat.max_le.mpr ⟨Nat.le_trans a (Nat.le_max_left _ _), Nat.le_trans c (Nat.le_max_right _ _)⟩
      omega
    · exact h1 s
/-- no path is longer than what has come up to its signal -/
theorem fl_len {i set : Nat} (hC : Circ n G L R nt) (hi : i < n) : ∀ g, g ≤ G → (fl L R i set g).2 = true → plen e set g ≤ upT L R e g (fl L R i set g).1
  | 0, _, _ => Nat.le_refl _
  | g + 1, h, hf => by
    have hat := fl_at hC hi (set := set) g (by omega)
    have hatl := Sg_lt hat hC.1
    have ih := fl_len (i := i) (set := set) hC hi g (by omega) (fl_ok (k := 1) hf)
    rw [plen]
    rw [fl] at hf ⊢
    by_cases hb : set.testBit g = true
    · rw [if_pos hb] at hf ⊢
      rw [if_pos hb]
      have hf : ((fl L R i set g).2 && (decide (L g = (fl L R i set g).1) || decide (R g = (fl L R i set g).1))) = true := hf
      rw [Bool.and_eq_true, Bool.or_eq_true, decide_eq_true_eq, decide_eq_true_eq] at hf
      show _ ≤ upT L R e (g + 1) (4 + g)
      rw [upT_top]
      have hm : upT L R e g (fl L R i set g).1 ≤ max (upT L R e g (L g)) (upT L R e g (R g)) := by
        rcases hf.2 with w | w
        · rw [← w]
          exact Nat.le_max_left _ _
        · rw [← w]
          exact Nat.le_max_right _ _
      omega
    · rw [if_neg hb] at hf ⊢
      rw [if_neg hb, Nat.add_zero, upT, if_neg (by omega)]
      exact ih
theorem fl_cong {i set set' : Nat} : ∀ g, (∀ k, k < g → set.testBit k = set'.testBit k) → fl L R i set g = fl L R i set' g
  | 0, _ => rfl
  | g + 1, h => by
    rw [fl, fl, h g (by omega), fl_cong g (fun k hk => h k (by omega))]
theorem plen_cong {set set' : Nat} : ∀ g, (∀ k, k < g → set.testBit k = set'.testBit k) → plen e set g = plen e set' g
  | 0, _ => rfl
  | g + 1, h => by
    rw [plen, plen, h g (by omega), plen_cong g (fun k hk => h k (by omega))]
theorem fl_more {i set g : Nat} (hs : set < 2 ^ g) : ∀ k, fl L R i set (g + k) = fl L R i set g
  | 0 => rfl
  | k + 1 => by
    rw [← Nat.add_assoc, fl, Nat.testBit_lt_two_pow (Nat.lt_of_lt_of_le hs (Nat.pow_le_pow_right (by decide) (by omega))), if_neg (by decide)]
    exact fl_more hs k
theorem plen_more {set g : Nat} (hs : set < 2 ^ g) : ∀ k, plen e set (g + k) = plen e set g
  | 0 => rfl
  | k + 1 => by
    rw [← Nat.add_assoc, plen, Nat.testBit_lt_two_pow (Nat.lt_of_lt_of_le hs (Nat.pow_le_pow_right (by decide) (by omega))), if_neg (by decide), Nat.add_zero]
    exact plen_more hs k
/-- to each signal some way that is as long as what has come -/
theorem way (hC : Circ n G L R nt) : ∀ g, g ≤ G → ∀ s, Sg n g s → ∃ i set, i < n ∧ set < 2 ^ g ∧ fl L R i set g = (s, true) ∧ plen e set g = upT L R e g s
  | 0, _, s, hs => by
    rcases hs with h | h
    · exact ⟨s, 0, h, by decide, rfl, rfl⟩
    · omega
  | g + 1, h, s, hs => by
    obtain ⟨hn, hG, -, -, hgg⟩ := id hC
    obtain ⟨g1, g2, -, -⟩ := hgg g (by omega)
    have hp : 2 ^ (g + 1) = 2 ^ g + 2 ^ g := by rw [Nat.pow_succ, Nat.mul_two]
    by_cases hsg : s = 4 + g
    · subst hsg
      have build : ∀ t, Sg n g t → (L g = t ∨ R g = t) → ∃ i set, i < n ∧ set < 2 ^ (g + 1) ∧ fl L R i set (g + 1) = (4 + g, true) ∧ plen e set (g + 1) = upT L R e g t + e g := by
        intro t ht hlr
        obtain ⟨i, set, w1, w2, w3, w4⟩ := way hC g (by omega) t ht
        have hb : (2 ^ g + set).testBit g = true := by
          rw [Nat.testBit_two_pow_add_eq, Nat.testBit_lt_two_pow w2]
          rfl
        have hc : ∀ k, k < g → (2 ^ g + set).testBit k = set.testBit k := fun k hk => Nat.testBit_two_pow_add_gt hk set
        refine ⟨i, 2 ^ g + set, w1, by omega, ?_, ?_⟩
        · rw [fl, if_pos hb, fl_cong g hc, w3]
          have : (decide (L g = t) || decide (R g = t)) = true := by
            rw [Bool.or_eq_true, decide_eq_true_eq, decide_eq_true_eq]
            exact hlr
          show (4 + g, true && (decide (L g = t) || decide (R g = t))) = (4 + g, true)
          rw [this]
          rfl
        · rw [plen, if_pos hb, plen_cong g hc, w4]
      rw [upT_top]
      rcases Nat.le_total (upT L R e g (L g)) (upT L R e g (R g)) with w | w
      · obtain ⟨i, set, w1, w2, w3, w4⟩ := build (R g) g2 (Or.inr rfl)
        exact ⟨i, set, w1, w2, w3, by rw [w4, Nat.max_eq_right w]⟩
      · obtain ⟨i, set, w1, w2, w3, w4⟩ := build (L g) g1 (Or.inl rfl)
        exact ⟨i, set, w1, w2, w3, by rw [w4, Nat.max_eq_left w]⟩
    · have hs' : Sg n g s := by
        rcases hs with q | q
        · exact Or.inl q
        · exact Or.inr ⟨q.1, by omega⟩
      obtain ⟨i, set, w1, w2, w3, w4⟩ := way hC g (by omega) s hs'
      refine ⟨i, set, w1, by omega, ?_, ?_⟩
      · rw [fl_more w2 1, w3]
      · rw [plen_more w2 1, w4, upT, if_neg hsg]
end UP
theorem rev8_tab : ∀ v, v < 256 → rev8 (rev8 v) = v ∧ (0 < v → 0 < rev8 v) := by decide +kernel
theorem psets_in {G : Nat} {L R : Nat → Nat} {i q : Nat} (hq : 1 ≤ q) (h1 : rev8 q / 2 ^ (G - 1) = 1) (h2 : (fl L R i (rev8 q) G).2 = true) : ∀ {v : Nat}, q ≤ v → rev8 q ∈ psets G L R i v
  | 0, h => by omega
  | v + 1, h => by
    rw [psets, List.mem_append]
    rcases Nat.lt_or_ge q (v + 1) with w | w
    · exact Or.inr (psets_in hq h1 h2 (by omega))
    · have : q = v + 1 := by omega
      subst this
      rw [if_pos ⟨h1, h2⟩]
      exact Or.inl (List.mem_singleton.mpr rfl)
theorem PLn_in {G : Nat} {L R : Nat → Nat} {i set : Nat} (h : set ∈ psets G L R i 255) : ∀ {n : Nat}, i < n → (i, set) ∈ PLn G L R n
  | 0, hi => by omega
  | n + 1, hi => by
    rw [PLn, List.mem_append]
    rcases Nat.lt_or_ge i n with w | w
    · exact Or.inl (PLn_in h w)
    · have : i = n := by omega
      subst this
      exact Or.inr (List.mem_map.mpr ⟨set, h, rfl⟩)
/-- each way to the output is a path -/
theorem PL_full {n G : Nat} {L R : Nat → Nat} {i set : Nat} (hi : i < n) (hs : set < 256) (h1 : set / 2 ^ (G - 1) = 1) (h2 : (fl L R i set G).2 = true) : ∃ p : Nat, (PL n G L R)[p]? = some (i, set) := by
  obtain ⟨r1, r2⟩ := rev8_tab set hs
  have h0 : 0 < set := by
    rcases Nat.eq_zero_or_pos set with w | w
    · rw [w, Nat.zero_div] at h1
      omega
    · exact w
  have hl := rev8_lt set
  have := psets_in (L := L) (R := R) (i := i) (G := G) (q := rev8 set) (r2 h0) (by rw [r1]; exact h1) (by rw [r1]; exact h2) (v := 255) (by omega)
  rw [r1] at this
  exact List.mem_iff_getElem?.mp (PLn_in this hi)
section GR
variable {n G : Nat} {L R nx κ d : Nat → Nat} {nt : Nat → Bool}
theorem out_at {i set : Nat} (h0 : 0 < G) (h : set / 2 ^ (G - 1) = 1) : (fl L R i set G).1 = 4 + (G - 1) := by
  obtain ⟨g, rfl⟩ : ∃ g, G = g + 1 := ⟨G - 1, by omega⟩
  have hb : set.testBit g = true := (tb_iff set g).mpr (by
    rw [show g + 1 - 1 = g by omega] at h
    rw [h])
  rw [fl, if_pos hb]
  rfl
theorem top_of {set : Nat} (h0 : 0 < G) (hs : set < 2 ^ G) (hb : set.testBit (G - 1) = true) : set / 2 ^ (G - 1) = 1 := by
  have h1 := (tb_iff set (G - 1)).mp hb
  have h2 : set / 2 ^ (G - 1) < 2 := by
    apply Nat.div_lt_of_lt_mul
    rw [← Nat.pow_succ, show (G - 1).succ = G by omega]
    exact hs
  generalize set / 2 ^ (G - 1) = x at h1 h2 ⊢
  omega
/-- the greatest length of the paths, as the reference has it, is what the class finds gate by gate -/
theorem great_len (hC : Circ n G L R nt) (h0 : 0 < G) {e : Nat → Nat} {len : Nat → Nat} (hlen : ∀ p i set, (PL n G L R)[p]? = some (i, set) → len p = plen e set G) (hl : ∀ q, len q < 2 ^ 31) : gI len (PL n G L R).length = nI (upT L R e G (4 + (G - 1))) := by
  have hG := hC.2.1
  have h28 := pow2_8 hG
  obtain ⟨i, set, w1, w2, w3, w4⟩ := way (e := e) hC G (Nat.le_refl _) (4 + (G - 1)) (Or.inr ⟨by omega, by omega⟩)
  have hb : set.testBit (G - 1) = true := by
    cases hb : set.testBit (G - 1) with
    | true => rfl
    | false =>
      obtain ⟨g, rfl⟩ : ∃ g, G = g + 1 := ⟨G - 1, by omega⟩
      rw [show g + 1 - 1 = g by omega] at hb w3
      rw [fl, hb, if_neg (by decide)] at w3
      have := Sg_lt (fl_at hC w1 (set := set) g (by omega)) hC.1
      rw [w3] at this
      have this : 4 + g < 4 + g := this
      omega
  obtain ⟨p, hp⟩ := PL_full (L := L) (R := R) w1 (show set < 256 by omega) (top_of h0 w2 hb) (by rw [w3])
  have hpl : p < (PL n G L R).length := (List.getElem?_eq_some_iff.mp hp).1
  obtain ⟨g1, g2⟩ := gf_inv hl (PL n G L R).length
  rcases g2 with ⟨z, -⟩ | ⟨f, f1, -, f3, -⟩
  · omega
  · rw [← f3]
    obtain ⟨⟨i', set'⟩, hel⟩ : ∃ x, (PL n G L R)[f]? = some x := ⟨_, List.getElem?_eq_getElem f1⟩
    obtain ⟨q1, q2, q3, q4⟩ := PL_in hel
    have hle := fl_len (e := e) hC q1 G (Nat.le_refl _) q4
    rw [out_at h0 q3, ← hlen f i' set' hel] at hle
    have hge := g1 p hpl
    rw [← f3, nI_toInt (hl _), nI_toInt (hl _), hlen p i set hp, w4] at hge
    rw [show len f = upT L R e G (4 + (G - 1)) by omega]
theorem U_rd {e : Nat → Nat} {g s : Nat} (h : Sg n g s) (hn : n ≤ 4) : (if s < 4 then nI 0 else nI (upT L R e (s - 4 + 1) (4 + (s - 4)))) = nI (upT L R e g s) := by
  by_cases h4 : s < 4
  · rw [if_pos h4]
    have e := upT_stay (L := L) (R := R) (e := e) (g := 0) g s (by omega)
    rw [Nat.zero_add] at e
    rw [e]
    rfl
  · rw [if_neg h4, show 4 + (s - 4) = s by omega]
    have e := upT_stay (L := L) (R := R) (e := e) (g := s - 4 + 1) (g - (s - 4 + 1)) s (by omega)
    rw [show s - 4 + 1 + (g - (s - 4 + 1)) = g by rcases h with h | h <;> omega] at e
    rw [e]
abbrev upC (L R e : Nat → Nat) (n : Nat) (base : Nat → Int32) (g : Nat) : Nat → Int32 := stA 10 (fun q => nI (upT L R e (q + 1) (4 + q))) (stA 0 (fun _ => nI 0) base n) g
theorem upC_at {e : Nat → Nat} {g s : Nat} {base : Nat → Int32} (h : Sg n g s) (hn : n ≤ 4) : upC L R e n base g (cs s) = nI (upT L R e g s) := (rdC h hn).trans (U_rd h hn)
theorem max_nI {a b : Nat} (ha : a < 2 ^ 31) (hb : b < 2 ^ 31) : (if nI a < nI b then nI b else nI a) = nI (max a b) := by
  by_cases h : a < b
  · rw [if_pos ((nI_ltI ha hb).mpr h), Nat.max_eq_right (by omega)]
  · rw [if_neg (fun z => h ((nI_ltI ha hb).mp z)), Nat.max_eq_left (by omega)]
/-- the class's span while only some delays have come -/
theorem span_eq {N : Nat} (hN : 1000 ≤ N) (hC : Circ n G L R nt) (h0 : 0 < G) (hd : ∀ g, g < G → 1 ≤ d g ∧ d g ≤ 9) {inputs : Int32} {lefts rights nexts delays : Nat → Int32} (hNC : NetC n G L R nx nt inputs (nI G) lefts rights nexts) (hD : ∀ g, g < G → delays g = nI (d g)) {come : Nat} (hc : come < 256) (up : Nat → Int32) : ∃ up', f_X7_greatest N (nI come) inputs (nI G) delays lefts up rights = some (nI (upT L R (cmN d come) G (4 + (G - 1))), up') := by
  obtain ⟨hn, hG, -, -, hg⟩ := id hC
  obtain ⟨rfl, -, hlr, -⟩ := hNC
  have hcm : ∀ g, g < G → cmN d come g ≤ 9 := by
    intro g h
    have := hd g h
    unfold cmN
    split <;> omega
  rw [f_X7_greatest]
  simp only [bnd]
  have e := forL (fun nf q s => f_X7_greatest_L3 N (nI n) (fun k => f_X7_greatest_L32 N (nI come) (nI G) delays lefts rights (fun a b => some (a, b)) N 0 0 k) nf (nI q) s) n (fun q => stA 0 (fun _ => nI 0) up q) (f_X7_greatest_L32 N (nI come) (nI G) delays lefts rights (fun a b => some (a, b)) N 0 0 (stA 0 (fun _ => nI 0) up n)) (fun nf => by
      rw [f_X7_greatest_L3, if_pos (le_t (Nat.le_refl _) (by omega))]) (fun q nf hq => by
      rw [f_X7_greatest_L3, if_neg (le_f hq (by omega))]
      simp only [bnd, grd_nI (show q < 18 by omega) (show 18 ≤ 2 ^ 31 by decide), nI_clamp (show q < 2 ^ 31 by omega), nI_1]
      exact congrArg (f_X7_greatest_L3 N (nI n) _ nf (nI (q + 1))) (stA_s0 (fun _ => nI 0) up q)) n 0 N (by omega) (by omega)
  rw [stA_0] at e
  have e2 := forL (fun nf q s => f_X7_greatest_L32 N (nI come) (nI G) delays lefts rights (fun a b => some (a, b)) nf s.1 (nI q) s.2) G (fun q => (if q = 0 then nI 0 else nI (upT L R (cmN d come) q (4 + (q - 1))), upC L R (cmN d come) n up q)) (some (nI (upT L R (cmN d come) G (4 + (G - 1))), upC L R (cmN d come) n up G)) (fun nf => by
      try dsimp only
      rw [f_X7_greatest_L32, if_pos (le_t (Nat.le_refl _) (by omega)), if_neg (by omega)]) (fun q nf hq => by
      obtain ⟨g1, g2, g3, g4⟩ := hg q hq
      obtain ⟨q1, q2⟩ := hlr q hq
      obtain ⟨c1, c2⟩ := cs_in g1 hn (show q ≤ 8 by omega)
      obtain ⟨c3, c4⟩ := cs_in g2 hn (show q ≤ 8 by omega)
      have hu := upT_le (L := L) (R := R) hcm q (by omega)
      have hu1 := hu (L q)
      have hu2 := hu (R q)
      try dsimp only
      rw [if_neg (show ¬ q + 1 = 0 by omega), Nat.add_sub_cancel]
      rw [f_X7_greatest_L32, if_neg (le_f hq (by omega)), grd_nI (show q < 8 by omega) (by decide), nI_clamp (show q < 2 ^ 31 by omega), q1, grd_nI c1 (by decide), nI_clamp (show cs (L q) < 2 ^ 31 by omega), upC_at g1 hn, bit_nI (by omega) (by omega), show (10 : Int32) + nI q = nI (10 + q) from nI_add 10 q, hD q hq]
      simp only [bnd, grd_nI (show q < 8 by omega) (show 8 ≤ 2 ^ 31 by decide), grd_nI (show 10 + q < 18 by omega) (show 18 ≤ 2 ^ 31 by decide), nI_clamp (show 10 + q < 2 ^ 31 by omega), nI_1]
      have hgo : ∀ t : Int32, t = nI (upT L R (cmN d come) q (R q)) → (if nI (come / 2 ^ q % 2) = 1 then f_X7_greatest_L32 N (nI come) (nI G) delays lefts rights (fun a b => some (a, b)) nf ((if nI (upT L R (cmN d come) q (L q)) < t then t else nI (upT L R (cmN d come) q (L q))) + nI (d q)) (nI (q + 1)) (upd (upC L R (cmN d come) n up q) (10 + q) ((if nI (upT L R (cmN d come) q (L q)) < t then t else nI (upT L R (cmN d come) q (L q))) + nI (d q))) else f_X7_greatest_L32 N (nI come) (nI G) delays lefts rights (fun a b => some (a, b)) nf ((if nI (upT L R (cmN d come) q (L q)) < t then t else nI (upT L R (cmN d come) q (L q))) + 0) (nI (q + 1)) (upd (upC L R (cmN d come) n up q) (10 + q) ((if nI (upT L R (cmN d come) q (L q)) < t then t else nI (upT L R (cmN d come) q (L q))) + 0))) = f_X7_greatest_L32 N (nI come) (nI G) delays lefts rights (fun a b => some (a, b)) nf (nI (upT L R (cmN d come) (q + 1) (4 + q))) (nI (q + 1)) (upC L R (cmN d come) n up (q + 1)) := by
        intro t ht
        subst ht
        rw [max_nI (by omega) (by omega)]
        have eo : upd (upC L R (cmN d come) n up q) (10 + q) (nI (upT L R (cmN d come) (q + 1) (4 + q))) = upC L R (cmN d come) n up (q + 1) := stA_s 10 _ _ q
        cases hb : come.testBit q with
        | true =>
          have ec : cmN d come q = d q := by
            unfold cmN
            rw [hb, if_pos rfl]
          rw [(tb_iff come q).mp hb, if_pos (show nI 1 = 1 from rfl), nI_add, ← ec, ← upT_top, eo]
        | false =>
          have ec : cmN d come q = 0 := by
            unfold cmN
            rw [hb, if_neg (by decide)]
          rw [(tb_iff0 come q).mp hb, if_neg (show ¬ nI 0 = 1 by decide), show ∀ z : Nat, nI z + (0 : Int32) = nI (z + 0) from fun z => nI_add z 0, ← ec, ← upT_top, eo]
      rw [q2]
      cases hb : nt q with
      | false =>
        have z : ¬ (if false = true then (-9 : Int32) else nI (cs (R q))) = (-9 : Int32) := by
          rw [if_neg (by decide)]
          exact neq_9 (by omega)
        rw [if_neg z, if_neg (show ¬ false = true by decide), grd_nI c3 (by decide), nI_clamp (show cs (R q) < 2 ^ 31 by omega), upC_at g2 hn]
        exact hgo _ rfl
      | true =>
        rw [if_pos (show (if true = true then (-9 : Int32) else nI (cs (R q))) = (-9 : Int32) from if_pos rfl)]
        exact hgo _ (by rw [g3 hb])) G 0 N (by omega) (by omega)
  simp only [stA_0] at e2
  exact ⟨_, e.trans e2⟩
end GR
