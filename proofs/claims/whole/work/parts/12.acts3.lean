-- slow, turn, undo, keep, again
def upN (f : Nat → Nat) (g v : Nat) : Nat → Nat := fun k => if k = g then v else f k
theorem upN_s {f : Nat → Nat} {g v : Nat} : upN f g v g = v := if_pos rfl
theorem upN_n {f : Nat → Nat} {g v k : Nat} (h : k ≠ g) : upN f g v k = f k := if_neg h
theorem SetOk_d {G : Nat} {nt : Nat → Bool} {κ d : Nat → Nat} {g v : Nat} (h : SetOk G nt κ d) (h1 : 1 ≤ v) (h9 : v ≤ 9) : SetOk G nt κ (upN d g v) := by
  refine ⟨h.1, fun k hk => ?_⟩
  by_cases e : k = g
  · subst e
    rw [upN_s]
    exact ⟨h1, h9⟩
  · rw [upN_n e]
    exact h.2 k hk
theorem SetC_d {G : Nat} {κ d : Nat → Nat} {kinds delays : Nat → Int32} {g v : Nat} (h : SetC G κ d kinds delays) : SetC G κ (upN d g v) kinds (upd delays g (nI v)) := by
  intro k hk
  refine ⟨(h k hk).1, ?_⟩
  by_cases e : k = g
  · subst e
    rw [upN_s, pk_us]
  · rw [upN_n e, pk_un e]
    exact (h k hk).2
theorem SetM_d {G : Nat} (hG : G ≤ 8) {κ d : Nat → Nat} {now : Nat → Int32} {g v : Nat} (h : SetM G κ d now 0) : SetM G κ (upN d g v) (upd now (8 + g) (nI v)) 0 := by
  intro k hk
  obtain ⟨h1, h2⟩ := h k hk
  rw [pk_un (by omega)]
  refine ⟨h1, ?_⟩
  by_cases e : k = g
  · subst e
    rw [upN_s, show 0 + 8 + k = 8 + k by omega, pk_us]
  · rw [upN_n e, pk_un (by omega)]
    exact h2
theorem SetOk_k {G : Nat} {nt : Nat → Bool} {κ d : Nat → Nat} {g v : Nat} (h : SetOk G nt κ d) (h1 : v ≤ 3) (h9 : nt g = false) : SetOk G nt (upN κ g v) d := by
  refine ⟨fun k hk => ?_, h.2⟩
  by_cases e : k = g
  · subst e
    rw [upN_s, h9]
    refine ⟨by omega, ?_⟩
    constructor
    · intro q; omega
    · intro q; cases q
  · rw [upN_n e]
    exact h.1 k hk
theorem SetC_k {G : Nat} {κ d : Nat → Nat} {kinds delays : Nat → Int32} {g v : Nat} (h : SetC G κ d kinds delays) : SetC G (upN κ g v) d (upd kinds g (nI v)) delays := by
  intro k hk
  refine ⟨?_, (h k hk).2⟩
  by_cases e : k = g
  · subst e
    rw [upN_s, pk_us]
  · rw [upN_n e, pk_un e]
    exact (h k hk).1
theorem SetM_k {G : Nat} (hG : G ≤ 8) {κ d : Nat → Nat} {now : Nat → Int32} {g v : Nat} (hg : g < G) (h : SetM G κ d now 0) : SetM G (upN κ g v) d (upd now g (nI v)) 0 := by
  intro k hk
  obtain ⟨h1, h2⟩ := h k hk
  rw [pk_un (show 0 + 8 + k ≠ g by omega)]
  refine ⟨?_, h2⟩
  by_cases e : k = g
  · subst e
    rw [upN_s, show 0 + k = k by omega, pk_us]
  · rw [upN_n e, pk_un (by omega)]
    exact h1
theorem sm_slow {N : Nat} (hN : 1000 ≤ N) (y1 y2 : Int32) {n G : Nat} {L R nx : Nat → Nat} {nt : Nat → Bool} {κ d : Nat → Nat} {i1 i2 i3 : Int32} {a1 a2 a3 a4 a5 a6 a7 : Nat → Int32} {j1 j2 j3 : Int32} {b1 b2 b3 b4 b5 : Nat → Int32} {kinds delays now : Nat → Int32} {size acts turn : Int32} {gates turned olds row : Nat → Int32} (hNet : RNet n G L R nx nt i1 i2 i3 a1 a2 a3 a4 a5 a6 a7 j1 j2 j3 b1 b2 b3 b4 b5) (hNow : RNow G nt κ d kinds delays now) (hA : RActs G nt κ d size gates turned olds acts turn row) :
    ∃ r size' delays' gates' turned' olds' acts' turn' now' row' d', f_X9_slow N y1 y2 i2 size delays gates turned olds = some (r, size', delays', gates', turned', olds') ∧ f_X10_slow N y1 y2 j2 acts turn now row = some (r, acts', turn', now', row') ∧ RNow G nt κ d' kinds delays' now' ∧ RActs G nt κ d' size' gates' turned' olds' acts' turn' row' := by
  obtain ⟨hn, hG, -, rfl, -, rfl⟩ := hNet.c
  have e1 : (1 : Int32).toInt = 1 := rfl
  have e2 : (9 : Int32).toInt = 9 := rfl
  have e3 : (1 : Int64).toInt = 1 := rfl
  have e4 : (9 : Int64).toInt = 9 := rfl
  rw [f_X9_slow, f_X10_slow, hasGate_eq N y1 (by omega), isGate_eq N y1 (by omega), in32]
  simp only [obd1, zo0, fa_lt, fa_le, e1, e2, e3, e4]
  by_cases hz : gz y1 G = 0
  · rw [if_pos hz, if_pos hz]
    exact ⟨_, _, _, _, _, _, _, _, _, _, d, rfl, rfl, hNow, hA⟩
  · rw [if_neg hz, if_neg hz]
    by_cases h1 : 1 ≤ y2.toInt ∧ y2.toInt ≤ 9
    · rw [if_neg (c := y2.toInt < 1) (by omega), if_pos (c := y2.toInt ≤ 9) (by omega), if_neg (c := ¬ (1 ≤ y2.toInt ∧ y2.toInt ≤ 9)) (by omega)]
      obtain ⟨g, hg, rfl⟩ := gz_in (by omega) hz
      obtain ⟨v, hv, rfl⟩ := nI_of_rng (y := y2) (n := 10) (by omega) (by omega) (by decide)
      rw [nI_toInt (by omega)] at h1
      obtain ⟨hok, hSC, hSM⟩ := hNow
      have hs := hSM g hg
      have hc := hSC g hg
      obtain ⟨size', gates', turned', olds', acts', turn', row', f1, f2, hA'⟩ := acts_push hN hG hA hok hSM hg (κ' := κ) (d' := upN d g v) (fun k _ hk => ⟨rfl, (upN_n hk).symm⟩) 0 (nI (d g)) (Or.inr ⟨rfl, rfl, rfl⟩)
      rw [l8_add]
      simp only [grd_nI (show g < 8 by omega) (show 8 ≤ 2 ^ 31 by decide), bnd, nI_clamp (show g < 2 ^ 31 by omega), grd_nI (show 8 + g < 32 by omega) (show 32 ≤ 2 ^ 31 by decide), nI_clamp (show 8 + g < 2 ^ 31 by omega), hc.2, f1, f2, obd3, obd4]
      rw [show now (8 + g) = nI (d g) by first | (rw [← hs.2]; done) | (rw [← hs.2]; exact congrArg now (by omega))]
      exact ⟨_, _, _, _, _, _, _, _, _, _, upN d g v, rfl, rfl, ⟨SetOk_d hok (by omega) (by omega), SetC_d hSC, SetM_d hG hSM⟩, hA'⟩
    · rw [if_pos (c := ¬ (1 ≤ y2.toInt ∧ y2.toInt ≤ 9)) h1]
      by_cases h2 : y2.toInt < 1
      · rw [if_pos h2]
        exact ⟨_, _, _, _, _, _, _, _, _, _, d, rfl, rfl, hNow, hA⟩
      · rw [if_neg h2, if_neg (by omega)]
        exact ⟨_, _, _, _, _, _, _, _, _, _, d, rfl, rfl, hNow, hA⟩
theorem eq_nI {a b : Nat} (ha : a < 2 ^ 31) (hb : b < 2 ^ 31) : (nI a = nI b) ↔ a = b := nI_eq ha hb
theorem sm_turn {N : Nat} (hN : 1000 ≤ N) (y1 y2 : Int32) {n G : Nat} {L R nx : Nat → Nat} {nt : Nat → Bool} {κ d : Nat → Nat} {i1 i2 i3 : Int32} {a1 a2 a3 a4 a5 a6 a7 : Nat → Int32} {j1 j2 j3 : Int32} {b1 b2 b3 b4 b5 : Nat → Int32} {kinds delays now : Nat → Int32} {size acts turn : Int32} {gates turned olds row : Nat → Int32} (hNet : RNet n G L R nx nt i1 i2 i3 a1 a2 a3 a4 a5 a6 a7 j1 j2 j3 b1 b2 b3 b4 b5) (hNow : RNow G nt κ d kinds delays now) (hA : RActs G nt κ d size gates turned olds acts turn row) :
    ∃ r size' kinds' gates' turned' olds' acts' turn' now' row' κ', f_X9_turn N y1 y2 i2 size kinds gates turned olds = some (r, size', kinds', gates', turned', olds') ∧ f_X10_turn N y1 y2 j2 acts turn now row = some (r, acts', turn', now', row') ∧ RNow G nt κ' d kinds' delays now' ∧ RActs G nt κ' d size' gates' turned' olds' acts' turn' row' := by
  obtain ⟨hn, hG, -, rfl, -, rfl⟩ := hNet.c
  have e1 : (0 : Int32).toInt = 0 := rfl
  have e2 : (3 : Int32).toInt = 3 := rfl
  have e3 : (0 : Int64).toInt = 0 := rfl
  have e4 : (3 : Int64).toInt = 3 := rfl
  rw [f_X9_turn, f_X10_turn, hasGate_eq N y1 (by omega), isGate_eq N y1 (by omega), in32]
  simp only [obd1, zo0, fa_lt, fa_le, e1, e2, e3, e4]
  by_cases hz : gz y1 G = 0
  · rw [if_pos hz, if_pos hz]
    exact ⟨_, _, _, _, _, _, _, _, _, _, κ, rfl, rfl, hNow, hA⟩
  · rw [if_neg hz, if_neg hz]
    by_cases h1 : 0 ≤ y2.toInt ∧ y2.toInt ≤ 3
    · rw [if_neg (c := y2.toInt < 0) (by omega), if_pos (c := y2.toInt ≤ 3) (by omega), if_neg (c := ¬ (0 ≤ y2.toInt ∧ y2.toInt ≤ 3)) (by omega)]
      obtain ⟨g, hg, rfl⟩ := gz_in (by omega) hz
      obtain ⟨v, hv, rfl⟩ := nI_of_rng (y := y2) (n := 4) (by omega) (by omega) (by decide)
      have hok := hNow.1
      have hs := hNow.2.2 g hg
      have hc := hNow.2.1 g hg
      obtain ⟨hk1, hk2⟩ := hok.1 g hg
      rw [Nat.zero_add] at hs
      rw [s_add0]
      simp only [grd_nI (show g < 8 by omega) (show 8 ≤ 2 ^ 31 by decide), bnd, nI_clamp (show g < 2 ^ 31 by omega), grd_nI (show g < 32 by omega) (show 32 ≤ 2 ^ 31 by decide), hc.1, hs.1]
      by_cases h4 : κ g = 4
      · rw [h4, if_pos (show nI 4 = 4 from rfl), if_pos (show nI 4 = 4 from rfl)]
        exact ⟨_, _, _, _, _, _, _, _, _, _, κ, rfl, rfl, hNow, hA⟩
      · have h4' : ¬ nI (κ g) = 4 := fun q => h4 ((nI_eq (by omega) (by decide)).mp (show nI (κ g) = nI 4 from q))
        rw [if_neg h4', if_neg h4']
        by_cases hv' : κ g = v
        · rw [hv', if_pos rfl, if_pos rfl]
          exact ⟨_, _, _, _, _, _, _, _, _, _, κ, rfl, rfl, hNow, hA⟩
        · have hv2 : ¬ nI (κ g) = nI v := fun q => hv' ((nI_eq (by omega) (by omega)).mp q)
          rw [if_neg hv2, if_neg hv2]
          obtain ⟨size', gates', turned', olds', acts', turn', row', f1, f2, hA'⟩ := acts_push hN hG hA hok hNow.2.2 hg (κ' := upN κ g v) (d' := d) (fun k _ hk => ⟨(upN_n hk).symm, rfl⟩) 1 (nI (κ g)) (Or.inl ⟨rfl, rfl, rfl⟩)
          simp only [f1, f2, obd3, obd4, grd_nI (show g < 8 by omega) (show 8 ≤ 2 ^ 31 by decide), grd_nI (show g < 32 by omega) (show 32 ≤ 2 ^ 31 by decide), hs.1]
          have hnt : nt g = false := by
            cases h : nt g with
            | false => rfl
            | true => exact absurd (hk2.mpr h) h4
          exact ⟨_, _, _, _, _, _, _, _, _, _, upN κ g v, rfl, rfl, ⟨SetOk_k hok (by omega) hnt, SetC_k hNow.2.1, SetM_k hG hg hNow.2.2⟩, hA'⟩
    · rw [if_pos (c := ¬ (0 ≤ y2.toInt ∧ y2.toInt ≤ 3)) h1]
      by_cases h2 : y2.toInt < 0
      · rw [if_pos h2]
        exact ⟨_, _, _, _, _, _, _, _, _, _, κ, rfl, rfl, hNow, hA⟩
      · rw [if_neg h2, if_neg (by omega)]
        exact ⟨_, _, _, _, _, _, _, _, _, _, κ, rfl, rfl, hNow, hA⟩
-- the reference takes a row of sixteen into 'now'
def cpN (src : Nat → Int32) (b : Nat) (now : Nat → Int32) (i : Nat) : Nat → Int32 := fun k => if k < i then src (b + k) else now k
theorem cpN_0 (src : Nat → Int32) (b : Nat) (now : Nat → Int32) : cpN src b now 0 = now := by
  funext k
  unfold cpN
  rw [if_neg (by omega)]
theorem cpN_s (src : Nat → Int32) (b : Nat) (now : Nat → Int32) (i : Nat) : upd (cpN src b now i) i (src (b + i)) = cpN src b now (i + 1) := by
  funext k
  by_cases h : k = i
  · subst h
    rw [pk_us]
    unfold cpN
    rw [if_pos (by omega)]
  · rw [pk_un h]
    unfold cpN
    by_cases h2 : k < i
    · rw [if_pos h2, if_pos (by omega)]
    · rw [if_neg h2, if_neg (by omega)]
theorem SetM_cpN {G : Nat} (hG : G ≤ 8) {κ d : Nat → Nat} {src now : Nat → Int32} {b : Nat} (h : SetM G κ d src b) : SetM G κ d (cpN src b now 16) 0 := by
  intro g hg
  obtain ⟨h1, h2⟩ := h g hg
  unfold cpN
  rw [if_pos (by omega), if_pos (by omega)]
  exact ⟨by first | (rw [← h1]; done) | (rw [← h1]; exact congrArg src (by omega)), by first | (rw [← h2]; done) | (rw [← h2]; exact congrArg src (by omega))⟩
theorem undo_L (N t : Nat) (ht : t < 14) (now row : Nat → Int32) (j : (Nat → Int32) → Option (Int32 × Int32 × Int32 × (Nat → Int32))) : ∀ (m i nf : Nat), i + m = 16 → m < nf → f_X10_undo_L36 N row (nI t) j nf (nI i) (cpN row (16 * t) now i) = j (cpN row (16 * t) now 16) := by
  intro m
  induction m with
  | zero =>
    intro i nf hi hf
    obtain ⟨nf, rfl⟩ : ∃ q, nf = q + 1 := ⟨nf - 1, by omega⟩
    have hi : i = 16 := by omega
    subst hi
    rw [f_X10_undo_L36, if_pos (show (16 : Int32) ≤ nI 16 from show nI 16 ≤ nI 16 from (nI_leI (by decide) (by decide)).mpr (Nat.le_refl _))]
  | succ m ih =>
    intro i nf hi hf
    obtain ⟨nf, rfl⟩ : ∃ q, nf = q + 1 := ⟨nf - 1, by omega⟩
    rw [f_X10_undo_L36, if_neg (show ¬ (16 : Int32) ≤ nI i from show ¬ nI 16 ≤ nI i from fun h => by have := (nI_leI (by decide) (by omega)).mp h; omega), l16]
    rw [grd_nI (show 16 * t + i < 224 by omega) (by decide), grd_nI (show i < 32 by omega) (by decide), nI_clamp (show i < 2 ^ 31 by omega), nI_clamp (show 16 * t + i < 2 ^ 31 by omega), cpN_s]
    simp only [bnd, nI_1]
    exact ih (i + 1) nf (by omega) (by omega)
theorem undo_M {N : Nat} (hN : 1000 ≤ N) {a t : Nat} (ha : 0 < a) (ha2 : a ≤ 14) (ht : t < 14) (row now : Nat → Int32) : f_X10_undo N (nI a) (nI t) row now = some (nI (a - 1), nI (a - 1), nI ((t + 13) % 14), cpN row (16 * ((t + 13) % 14)) now 16) := by
  rw [f_X10_undo, if_neg (nI_ne0 ha (by omega)), m1_nI ha]
  simp only [bnd]
  rw [show (13 : Int32) = nI 13 from rfl, nI_add, show (14 : Int32) = nI 14 from rfl, pk_rem (by omega) (by decide) (by decide)]
  have e := undo_L N ((t + 13) % 14) (by omega) now row (fun k => some (nI (a - 1), nI (a - 1), nI ((t + 13) % 14), k)) 16 0 N (by omega) (by omega)
  rw [cpN_0] at e
  exact e
theorem sm_undo {N : Nat} (hN : 1000 ≤ N) {n G : Nat} {L R nx : Nat → Nat} {nt : Nat → Bool} {κ d : Nat → Nat} {i1 i2 i3 : Int32} {a1 a2 a3 a4 a5 a6 a7 : Nat → Int32} {j1 j2 j3 : Int32} {b1 b2 b3 b4 b5 : Nat → Int32} {kinds delays now : Nat → Int32} {size acts turn : Int32} {gates turned olds row : Nat → Int32} (hNet : RNet n G L R nx nt i1 i2 i3 a1 a2 a3 a4 a5 a6 a7 j1 j2 j3 b1 b2 b3 b4 b5) (hNow : RNow G nt κ d kinds delays now) (hA : RActs G nt κ d size gates turned olds acts turn row) :
    ∃ r size' delays' kinds' acts' turn' now' κ' d', f_X9_undo N size turned gates olds delays kinds = some (r, size', delays', kinds') ∧ f_X10_undo N acts turn row now = some (r, acts', turn', now') ∧ RNow G nt κ' d' kinds' delays' now' ∧ RActs G nt κ' d' size' gates turned olds acts' turn' row := by
  obtain ⟨hn, hG, -, -, -, -⟩ := hNet.c
  obtain ⟨a, t, K, E, ha, ht, rfl, rfl, rfl, h0, hj⟩ := id hA
  rcases Nat.eq_zero_or_pos a with ha0 | ha0
  · subst ha0
    rw [f_X9_undo, f_X10_undo, if_neg (show ¬ (0 : Int32) < nI 0 by decide), if_pos (show nI 0 = 0 from rfl)]
    exact ⟨_, _, _, _, _, _, _, κ, d, rfl, rfl, hNow, hA⟩
  · rw [undo_M hN ha0 ha ht, f_X9_undo, if_pos (show (0 : Int32) < nI a from (nI_ltI (a := 0) (by decide) (by omega)).mpr ha0), m1_nI ha0]
    obtain ⟨q1, q2, g0, hg0, q3, q4, q5⟩ := hj 0 ha0
    rw [Nat.sub_zero] at q3 q5
    have hact : RActs G nt (K 1) (E 1) (nI (a - 1)) gates turned olds (nI (a - 1)) (nI ((t + 13) % 14)) row := by
      refine ⟨a - 1, (t + 13) % 14, fun j => K (j + 1), fun j => E (j + 1), by omega, by omega, rfl, rfl, rfl, fun g _ => ⟨rfl, rfl⟩, fun j hja => ?_⟩
      obtain ⟨z1, z2, g1, hg1, z3, z4, z5⟩ := hj (j + 1) (by omega)
      rw [show a - 1 - (j + 1) = a - 1 - 1 - j by omega] at z3 z5
      refine ⟨z1, ?_, g1, hg1, z3, z4, z5⟩
      rw [show ((t + 13) % 14 + 13 - j) % 14 = (t + 13 - (j + 1)) % 14 by omega]
      exact z2
    have hM : SetM G (K 1) (E 1) (cpN row (16 * ((t + 13) % 14)) now 16) 0 := SetM_cpN hG (by rw [show t + 13 = t + 13 - 0 from rfl]; exact q2)
    simp only [bnd]
    rw [f_X0_takeBack]
    simp only [grd_nI (show a - 1 < 14 by omega) (show 14 ≤ 2 ^ 31 by decide), nI_clamp (show a - 1 < 2 ^ 31 by omega), q3, grd_nI (show g0 < 8 by omega) (show 8 ≤ 2 ^ 31 by decide), nI_clamp (show g0 < 2 ^ 31 by omega), bnd]
    rcases q5 with ⟨w1, w2, w3⟩ | ⟨w1, w2, w3⟩
    · rw [w1, w2, if_neg one_ne]
      simp only [obd2]
      refine ⟨_, _, _, _, _, _, _, K 1, E 1, rfl, rfl, ⟨q1, ?_, hM⟩, hact⟩
      intro g hg
      by_cases e : g = g0
      · subst e
        rw [pk_us, w3, (h0 g hg).2]
        exact ⟨rfl, (hNow.2.1 g hg).2⟩
      · rw [pk_un e, (q4 g hg e).1, (q4 g hg e).2, (h0 g hg).1, (h0 g hg).2]
        exact hNow.2.1 g hg
    · rw [w1, w2, if_pos rfl]
      simp only [obd2]
      refine ⟨_, _, _, _, _, _, _, K 1, E 1, rfl, rfl, ⟨q1, ?_, hM⟩, hact⟩
      intro g hg
      by_cases e : g = g0
      · subst e
        rw [pk_us, w3, (h0 g hg).1]
        exact ⟨(hNow.2.1 g hg).1, rfl⟩
      · rw [pk_un e, (q4 g hg e).1, (q4 g hg e).2, (h0 g hg).1, (h0 g hg).2]
        exact hNow.2.1 g hg
