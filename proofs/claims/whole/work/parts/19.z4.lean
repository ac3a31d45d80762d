-- judge: one told doing
def RTr (G : Nat) (nt : Nat → Bool) (κ d : Nat → Nat) (tk td now : Nat → Int32) : Prop := SetOk G nt κ d ∧ SetC G κ d tk td ∧ SetM G κ d now 16
theorem gz_zI {q G : Nat} (hq : q < 2 ^ 31) : gz (nI q) G = zI (decide (q < G)) := by
  unfold gz
  rw [nI_toInt hq]
  by_cases h : q < G
  · rw [if_pos (by omega), decide_eq_true h]
    rfl
  · rw [if_neg (by omega), decide_eq_false h]
    rfl
theorem SetM_u {G : Nat} {κ d : Nat → Nat} {now : Nat → Int32} {k : Nat} {x : Int32} (hG : G ≤ 8) (hk : 16 ≤ k) (h : SetM G κ d now 0) : SetM G κ d (upd now k x) 0 := by
  intro g hg
  rw [updNe (by omega), updNe (by omega)]
  exact h g hg
theorem SetM_d16 {G : Nat} (hG : G ≤ 8) {κ d : Nat → Nat} {now : Nat → Int32} {g v : Nat} (h : SetM G κ d now 16) : SetM G κ (upN d g v) (upd now (24 + g) (nI v)) 16 := by
  intro k hk
  rw [updNe (by omega)]
  refine ⟨(h k hk).1, ?_⟩
  by_cases e : k = g
  · subst e
    rw [upN_s, show 16 + 8 + k = 24 + k by omega, updEq]
  · rw [upN_n e, updNe (by omega)]
    exact (h k hk).2
theorem SetM_k16 {G : Nat} (hG : G ≤ 8) {κ d : Nat → Nat} {now : Nat → Int32} {g v : Nat} (hg : g < G) (h : SetM G κ d now 16) : SetM G (upN κ g v) d (upd now (16 + g) (nI v)) 16 := by
  intro k hk
  rw [updNe (show 16 + 8 + k ≠ 16 + g by omega)]
  refine ⟨?_, (h k hk).2⟩
  by_cases e : k = g
  · subst e
    rw [upN_s, updEq]
  · rw [upN_n e, updNe (by omega)]
    exact (h k hk).1
section JU
variable {n G : Nat} {L R nx κ d κt dt : Nat → Nat} {nt : Nat → Bool}
theorem d10 {v : Nat} (hv : v < 2 ^ 31) : nI v / (10 : Int32) = nI (v / 10) := pk_div (d := 10) hv (by decide) (by decide)
theorem d1000 {v : Nat} (hv : v < 2 ^ 31) : nI v / (1000 : Int32) = nI (v / 1000) := pk_div (d := 1000) hv (by decide) (by decide)
theorem m10 {v : Nat} (hv : v < 2 ^ 31) : nI v - nI v / (10 : Int32) * 10 = nI (v % 10) := pk_rem (d := 10) hv (by decide) (by decide)
theorem m10' {v : Nat} (hv : v < 2 ^ 31) : nI v - nI (v / 10) * (10 : Int32) = nI (v % 10) := by
  have := m10 hv
  rw [d10 hv] at this
  exact this
theorem m100 {v : Nat} (hv : v < 2 ^ 31) : nI v - nI v / (100 : Int32) * 100 = nI (v % 100) := pk_rem (d := 100) hv (by decide) (by decide)
theorem m8 {v : Nat} (hv : v < 2 ^ 31) : nI v - nI v / (8 : Int32) * 8 = nI (v % 8) := pk_rem (d := 8) hv (by decide) (by decide)
/-- how many paths are as long -/
def lgN (n G : Nat) (L R d : Nat → Nat) (p : Nat) : Nat := match (PL n G L R)[p]? with
  | some x => plen d x.2 G
  | none => 0
theorem lgN_at {p i set : Nat} (hel : (PL n G L R)[p]? = some (i, set)) : lgN n G L R d p = plen d set G := by
  unfold lgN
  rw [hel]
theorem lgN_lt (hG : G ≤ 8) (hd : ∀ g, g < G → 1 ≤ d g ∧ d g ≤ 9) (p : Nat) : lgN n G L R d p ≤ 72 := by
  unfold lgN
  split
  · have := plen_le (d := d) (set := (by assumption : Nat × Nat).2) (b := 9) (G := G) (fun g h => (hd g h).2)
    omega
  · decide
theorem lgC {N : Nat} (hN : 1000 ≤ N) (hG : G ≤ 8) {paths : Int32} {starts sizes steps links td : Nat → Int32} (hPC : PathC G L R (PL n G L R) paths starts sizes steps links) (hD : ∀ g, g < G → td g = nI (dt g)) {p : Nat} (hp : p < (PL n G L R).length) : f_X2_lengthOf N (nI p) td sizes steps = some (nI (lgN n G L R dt p)) := by
  obtain ⟨⟨i, set⟩, hel⟩ : ∃ x, (PL n G L R)[p]? = some x := ⟨_, List.getElem?_eq_getElem hp⟩
  rw [lgN_at hel]
  exact lenC_eq hN hG hPC hD hel
theorem lgM {N : Nat} (hN : 1000 ≤ N) (hG : G ≤ 8) {mp : Int32} {pin pga now : Nat → Int32} (hPM : PathM (PL n G L R) mp pin pga) (hD : ∀ g, g < G → now (16 + 8 + g) = nI (dt g)) {p : Nat} (hp : p < (PL n G L R).length) : f_X10_lengthOf N 1 (nI p) (nI G) pga now = some (nI (lgN n G L R dt p)) := by
  obtain ⟨⟨i, set⟩, hel⟩ : ∃ x, (PL n G L R)[p]? = some x := ⟨_, List.getElem?_eq_getElem hp⟩
  rw [lgN_at hel]
  exact lenM_eq hN hG (lv := 1) (by decide) hPM (fun p i set h => (PL_in h).2.1) (fun g hg => hD g hg) hel
theorem longC {N : Nat} (hN : 1000 ≤ N) (hG : G ≤ 8) (hd : ∀ g, g < G → 1 ≤ dt g ∧ dt g ≤ 9) {paths : Int32} {starts sizes steps links td : Nat → Int32} (hPC : PathC G L R (PL n G L R) paths starts sizes steps links) (hD : ∀ g, g < G → td g = nI (dt g)) {y : Nat} (hy : y < 100) : f_X9_pathsAsLong N (nI y) paths td sizes steps = some (nI (ctB (fun p => !decide (lgN n G L R dt p < y)) (PL n G L R).length)) := by
  have h55 := hPC.2.1
  have e1 := hPC.1
  subst e1
  rw [f_X9_pathsAsLong]
  simp only [bnd]
  exact forL (fun nf q s => f_X9_pathsAsLong_L4 N (nI y) (nI (PL n G L R).length) td sizes steps (fun x => some x) nf s (nI q)) (PL n G L R).length (fun q => nI (ctB (fun p => !decide (lgN n G L R dt p < y)) q)) (some (nI (ctB (fun p => !decide (lgN n G L R dt p < y)) (PL n G L R).length))) (fun nf => by
    rw [f_X9_pathsAsLong_L4, if_pos (le_t (Nat.le_refl _) (by omega))]) (fun q nf hq => by
    have hl := lgN_lt (n := n) (L := L) (R := R) hG hd q
    rw [f_X9_pathsAsLong_L4, if_neg (le_f hq (by omega)), lgC hN hG hPC hD hq, ctB]
    simp only [obd1, bnd, nI_1]
    by_cases h : lgN n G L R dt q < y
    · rw [if_pos (nI_lt h (by omega)), decide_eq_true h]
      rfl
    · rw [if_neg (fun z => h ((nI_ltI (by omega) (by omega)).mp z)), decide_eq_false h]
      rfl) (PL n G L R).length 0 N (by omega) (by omega)
theorem longM {N : Nat} (hN : 1000 ≤ N) (hG : G ≤ 8) (hd : ∀ g, g < G → 1 ≤ dt g ∧ dt g ≤ 9) {mp : Int32} {pin pga now : Nat → Int32} (hPM : PathM (PL n G L R) mp pin pga) (hD : ∀ g, g < G → now (16 + 8 + g) = nI (dt g)) {y : Nat} (hy : y < 100) : f_X10_longerThan N (nI y) (nI G) mp pga now = some (nI (ctB (fun p => !decide (lgN n G L R dt p < y)) (PL n G L R).length)) := by
  have h55 := hPM.2.1
  have e1 := hPM.1
  subst e1
  rw [f_X10_longerThan]
  simp only [bnd]
  exact forL (fun nf q s => f_X10_longerThan_L4 N (nI y) (nI G) (nI (PL n G L R).length) pga now (fun x => some x) nf s (nI q)) (PL n G L R).length (fun q => nI (ctB (fun p => !decide (lgN n G L R dt p < y)) q)) (some (nI (ctB (fun p => !decide (lgN n G L R dt p < y)) (PL n G L R).length))) (fun nf => by
    rw [f_X10_longerThan_L4, if_pos (le_t (Nat.le_refl _) (by omega))]) (fun q nf hq => by
    have hl := lgN_lt (n := n) (L := L) (R := R) hG hd q
    rw [f_X10_longerThan_L4, if_neg (le_f hq (by omega)), lgM hN hG hPM hD hq, ctB]
    simp only [obd1, bnd, nI_1]
    by_cases h : lgN n G L R dt q < y
    · rw [if_pos (nI_lt h (by omega)), decide_eq_true h, Int32.add_zero]
      rfl
    · rw [if_neg (fun z => h ((nI_ltI (by omega) (by omega)).mp z)), decide_eq_false h]
      rfl) (PL n G L R).length 0 N (by omega) (by omega)
theorem provenC {N : Nat} (hN : 1000 ≤ N) {sure : Nat → Int32} {ris fal : Nat → Int64} {cap : Nat → Int32} (hT : TabOf n G L R nx κt sure ris fal cap) (h55 : (PL n G L R).length ≤ 55) {p to : Nat} (hp : p < (PL n G L R).length) (hto : to < 2) : f_X3_canProve N (nI p) (nI to) fal ris = some (zI (avN n G L R κt to p)) := by
  rw [f_X3_canProve]
  simp only [bnd]
  have e := forS (fun nf q => f_X3_canProve_L2 N (nI p) (nI to) fal ris (some 0) nf (nI q)) 256 (some 0) (fun q => pvN n G L R κt q to p) (fun _ => some 1) (fun nf => by
    rw [f_X3_canProve_L2, if_pos (show (256 : Int32) ≤ nI 256 from le_t (a := 256) (Nat.le_refl _) (by decide))]) (fun q nf hq => by
    rw [f_X3_canProve_L2, if_neg (show ¬ (256 : Int32) ≤ nI q from le_f (a := 256) (by omega) (by decide)), prvC hT h55 hq hto hp]
    simp only [obd1, bnd, nI_1, zI_0]
    cases pvN n G L R κt q to p with
    | true => rfl
    | false => rfl) 256 0 N (by omega) (by omega)
  rcases e with ⟨q, -, q2, q3, -, q5⟩ | ⟨h1, h2⟩
  · have : avN n G L R κt to p = true := anyB_iff.mpr ⟨q, q2, q3⟩
    rw [this]
    exact q5
  · have : avN n G L R κt to p = false := by
      cases hz : avN n G L R κt to p with
      | false => rfl
      | true =>
        obtain ⟨q, q1, q2⟩ := anyB_iff.mp hz
        have := h1 q (Nat.zero_le _) q1
        rw [q2] at this
        cases this
    rw [this]
    exact h2
theorem do_eq {N : Nat} (hN : 1000 ≤ N) (hC : Circ n G L R nt) (hnx : ∀ i, i < n → Sg n G (nx i)) {inputs paths minputs mp : Int32} {lefts rights nexts starts sizes steps links one other next pin pga : Nat → Int32} (hNC : NetC n G L R nx nt inputs (nI G) lefts rights nexts) (hNM : NetM n G L R nx nt minputs (nI G) one other next) (hPC : PathC G L R (PL n G L R) paths starts sizes steps links) (hPM : PathM (PL n G L R) mp pin pga) {v : Nat} (hv : v < 10000) {tk td now : Nat → Int32} (hTr : RTr G nt κt dt tk td now) (h0 : SetM G κ d now 0) {mf : Int32} {sure : Nat → Int32} {ris fal : Nat → Int64} {cap : Nat → Int32} (l0 s0 : Int32) (of0 bf af va : Nat → Int32) (hT : RTab n G L R nx nt mf sure ris fal cap) :
    ∃ (b : Bool) (mf' : Int32) (td' tk' : Nat → Int32) (l' s' : Int32) (sure' : Nat → Int32) (ris' fal' : Nat → Int64) (cap' of' now' bf' af' va' : Nat → Int32) (κt' dt' : Nat → Nat), f_X9_canBe N (nI v) inputs (nI G) paths mf td tk sizes steps l0 s0 sure ris fal lefts rights nexts cap links starts of0 = some (zI b, mf', td', tk', l', s', sure', ris', fal', cap', of') ∧ f_X10_tryThing N (nI (v / 1000)) (nI (v / 10 % 100)) (nI (v % 10)) minputs (nI G) mp now pga pin other one bf af va next = some (zI b, now', bf', af', va') ∧ RTr G nt κt' dt' tk' td' now' ∧ SetM G κ d now' 0 ∧ RTab n G L R nx nt mf' sure' ris' fal' cap' := by
  have hn := hC.1
  have hG := hC.2.1
  have h55 := hPC.2.1
  have hp1 := hPC.1
  have hp2 := hPM.1
  obtain ⟨t1, t2, t3⟩ := id hTr
  have hK : ∀ g, g < G → tk g = nI (κt g) := fun g hg => (t2 g hg).1
  have hD : ∀ g, g < G → td g = nI (dt g) := fun g hg => (t2 g hg).2
  have hK16 : ∀ g, g < G → now (16 * 1 + g) = nI (κt g) := fun g hg => (t3 g hg).1
  have hD16 : ∀ g, g < G → now (16 + 8 + g) = nI (dt g) := fun g hg => (t3 g hg).2
  have hv100 : v % 100 = 10 * (v / 10 % 100 % 10) + v % 10 := by omega
  obtain ⟨two, htwo, h100⟩ : ∃ two, v / 10 % 100 = two ∧ two < 100 := ⟨_, rfl, Nat.mod_lt _ (by decide)⟩
  obtain ⟨low, hlow, hl10⟩ : ∃ low, v % 10 = low ∧ low < 10 := ⟨_, rfl, Nat.mod_lt _ (by decide)⟩
  obtain ⟨h, hh, hh10⟩ : ∃ h, v / 1000 = h ∧ h < 10 := ⟨_, rfl, by omega⟩
  rw [f_X9_canBe, m10 (show v < 2 ^ 31 by omega), d10 (show v < 2 ^ 31 by omega), m100 (show v / 10 < 2 ^ 31 by omega), d1000 (show v < 2 ^ 31 by omega), m100 (show v < 2 ^ 31 by omega), f_X10_tryThing, hv100, htwo, hlow, hh]
  simp only [bnd, m10' (show two < 2 ^ 31 by omega), d10 (show two < 2 ^ 31 by omega), m8 (show two / 10 < 2 ^ 31 by omega)]
  rcases (show h = 1 ∨ h = 2 ∨ h = 3 ∨ h = 4 ∨ h = 5 ∨ h = 6 ∨ (h ≠ 1 ∧ h ≠ 2 ∧ h ≠ 3 ∧ h ≠ 4 ∧ h ≠ 5 ∧ h ≠ 6) by omega) with rfl | rfl | rfl | rfl | rfl | rfl | ⟨n1, n2, n3, n4, n5, n6⟩
  · -- a delay
    rw [if_pos (show nI 1 = 1 from rfl), if_pos (show nI 1 = 1 from rfl)]
    by_cases c1 : two % 10 = 0
    · rw [if_pos ((c0 (by omega)).mpr c1), if_pos ((c0 (by omega)).mpr c1), f_X9_triesDelay, hasGate_eq N _ (by omega), isGate_eq N _ (by omega), gz_zI (by omega)]
      simp only [obd1, zI_0]
      by_cases c2 : two / 10 < G
      · rw [decide_eq_true c2, if_neg (show ¬ true = false by decide), if_neg (show ¬ true = false by decide)]
        by_cases c3 : 1 ≤ low
        · rw [if_pos (show (1 : Int32) ≤ nI low from le_t (a := 1) c3 (by omega)), if_neg (show ¬ nI low ≤ (0 : Int32) from le_f (b := 0) (by omega) (by omega)), show (24 : Int32) + nI (two / 10) = nI (24 + two / 10) from nI_add 24 _, grd_nI (show two / 10 < 8 by omega) (by decide)]
          simp only [bnd, obd2, if_neg one_ne, grd_nI (show 24 + two / 10 < 32 by omega) (show 32 ≤ 2 ^ 31 by decide), nI_clamp (show two / 10 < 2 ^ 31 by omega), nI_clamp (show 24 + two / 10 < 2 ^ 31 by omega)]
          exact ⟨true, _, _, _, _, _, _, _, _, _, _, _, _, _, _, κt, upN dt (two / 10) low, rfl, rfl, ⟨SetOk_d t1 c3 (by omega), SetC_d t2, SetM_d16 hG t3⟩, SetM_u hG (by omega) h0, hT⟩
        · rw [if_neg (show ¬ (1 : Int32) ≤ nI low from le_f (a := 1) (by omega) (by decide)), if_pos (show nI low ≤ (0 : Int32) from le_t (b := 0) (by omega) (by decide))]
          simp only [obd2, ↓reduceIte]
          exact ⟨false, _, _, _, _, _, _, _, _, _, _, _, _, _, _, κt, dt, rfl, rfl, hTr, h0, hT⟩
      · rw [decide_eq_false c2, if_pos (show false = false from rfl), if_pos (show false = false from rfl)]
        simp only [obd2, ↓reduceIte]
        exact ⟨false, _, _, _, _, _, _, _, _, _, _, _, _, _, _, κt, dt, rfl, rfl, hTr, h0, hT⟩
    · rw [if_neg (fun z => c1 ((c0 (by omega)).mp z)), if_neg (fun z => c1 ((c0 (by omega)).mp z))]
      simp only [↓reduceIte]
      exact ⟨false, _, _, _, _, _, _, _, _, _, _, _, _, _, _, κt, dt, rfl, rfl, hTr, h0, hT⟩
  · -- a kind
    rw [if_neg (show ¬ nI 2 = 1 by decide), if_neg (show ¬ nI 2 = 1 by decide), if_pos (show nI 2 = 2 from rfl), if_pos (show nI 2 = 2 from rfl)]
    by_cases c1 : two % 10 = 0
    · rw [if_pos ((c0 (by omega)).mpr c1), if_pos ((c0 (by omega)).mpr c1), f_X9_triesKind, hasGate_eq N _ (by omega), isGate_eq N _ (by omega), gz_zI (by omega)]
      simp only [obd1, zI_0]
      by_cases c2 : two / 10 < G
      · rw [decide_eq_true c2, if_neg (show ¬ true = false by decide), if_neg (show ¬ true = false by decide)]
        by_cases c3 : 3 < low
        · rw [if_pos (show (3 : Int32) < nI low from nI_lt (a := 3) c3 (by omega)), if_pos (show (3 : Int32) < nI low from nI_lt (a := 3) c3 (by omega))]
          simp only [obd2, ↓reduceIte]
          exact ⟨false, _, _, _, _, _, _, _, _, _, _, _, _, _, _, κt, dt, rfl, rfl, hTr, h0, hT⟩
        · have c3' : ¬ (3 : Int32) < nI low := fun z => c3 ((nI_ltI (a := 3) (by decide) (by omega)).mp z)
          rw [if_neg c3', if_neg c3', show two / 10 % 8 = two / 10 by omega, show (16 : Int32) + nI (two / 10) = nI (16 + two / 10) from nI_add 16 _]
          have hkk := (t3 (two / 10) c2).1
          obtain ⟨k1, k2⟩ := t1.1 (two / 10) c2
          simp only [grd_nI (show two / 10 < 8 by omega) (show 8 ≤ 2 ^ 31 by decide), grd_nI (show 16 + two / 10 < 32 by omega) (show 32 ≤ 2 ^ 31 by decide), nI_clamp (show two / 10 < 2 ^ 31 by omega), nI_clamp (show 16 + two / 10 < 2 ^ 31 by omega), hK _ c2, hkk]
          by_cases c4 : κt (two / 10) = 4
          · rw [if_pos ((nI4 k1).mpr c4), if_pos ((nI4 k1).mpr c4)]
            simp only [obd2, ↓reduceIte]
            exact ⟨false, _, _, _, _, _, _, _, _, _, _, _, _, _, _, κt, dt, rfl, rfl, hTr, h0, hT⟩
          · rw [if_neg (fun z => c4 ((nI4 k1).mp z)), if_neg (fun z => c4 ((nI4 k1).mp z))]
            have hnt : nt (two / 10) = false := by
              cases z : nt (two / 10) with
              | false => rfl
              | true => exact absurd (k2.mpr z) c4
            simp only [bnd, obd2, if_neg one_ne]
            exact ⟨true, _, _, _, _, _, _, _, _, _, _, _, _, _, _, upN κt (two / 10) low, dt, rfl, rfl, ⟨SetOk_k t1 (by omega) hnt, SetC_k t2, SetM_k16 hG c2 t3⟩, SetM_u hG (by omega) h0, hT⟩
      · rw [decide_eq_false c2, if_pos (show false = false from rfl), if_pos (show false = false from rfl)]
        simp only [obd2, ↓reduceIte]
        exact ⟨false, _, _, _, _, _, _, _, _, _, _, _, _, _, _, κt, dt, rfl, rfl, hTr, h0, hT⟩
    · rw [if_neg (fun z => c1 ((c0 (by omega)).mp z)), if_neg (fun z => c1 ((c0 (by omega)).mp z))]
      simp only [↓reduceIte]
      exact ⟨false, _, _, _, _, _, _, _, _, _, _, _, _, _, _, κt, dt, rfl, rfl, hTr, h0, hT⟩
  · -- a path's length
    rw [if_neg (show ¬ nI 3 = 1 by decide), if_neg (show ¬ nI 3 = 1 by decide), if_neg (show ¬ nI 3 = 2 by decide), if_neg (show ¬ nI 3 = 2 by decide), if_pos (show nI 3 = 3 from rfl), if_pos (show nI 3 = 3 from rfl), hp1, hp2, hasPath_eq N _ (by omega), isPath_eq N _ (by omega), gz_zI (by omega)]
    simp only [obd1, zI_0]
    by_cases c1 : two < (PL n G L R).length
    · have hl := lgN_lt (n := n) (L := L) (R := R) hG t1.2 two
      rw [decide_eq_true c1, if_neg (show ¬ true = false by decide), if_neg (show ¬ true = false by decide), lgC hN hG hPC hD c1, lgM hN hG hPM hD16 c1]
      simp only
      by_cases c2 : lgN n G L R dt two < low
      · rw [if_pos (nI_lt c2 (by omega)), if_pos (nI_lt c2 (by omega))]
        exact ⟨false, _, _, _, _, _, _, _, _, _, _, _, _, _, _, κt, dt, rfl, rfl, hTr, h0, hT⟩
      · rw [if_neg (fun z => c2 ((nI_ltI (by omega) (by omega)).mp z)), if_neg (fun z => c2 ((nI_ltI (by omega) (by omega)).mp z))]
        exact ⟨true, _, _, _, _, _, _, _, _, _, _, _, _, _, _, κt, dt, rfl, rfl, hTr, h0, hT⟩
    · rw [decide_eq_false c1, if_pos (show false = false from rfl), if_pos (show false = false from rfl)]
      exact ⟨false, _, _, _, _, _, _, _, _, _, _, _, _, _, _, κt, dt, rfl, rfl, hTr, h0, hT⟩
  · -- paths as long
    rw [if_neg (show ¬ nI 4 = 1 by decide), if_neg (show ¬ nI 4 = 1 by decide), if_neg (show ¬ nI 4 = 2 by decide), if_neg (show ¬ nI 4 = 2 by decide), if_neg (show ¬ nI 4 = 3 by decide), if_neg (show ¬ nI 4 = 3 by decide), if_pos (show nI 4 = 4 from rfl), if_pos (show nI 4 = 4 from rfl), longC hN hG t1.2 hPC hD h100, longM hN hG t1.2 hPM hD16 h100]
    simp only [obd1]
    have hcl := ctB_le (fun p => !decide (lgN n G L R dt p < two)) (PL n G L R).length
    by_cases c2 : ctB (fun p => !decide (lgN n G L R dt p < two)) (PL n G L R).length < low
    · rw [if_pos (nI_lt c2 (by omega)), if_pos (nI_lt c2 (by omega))]
      exact ⟨false, _, _, _, _, _, _, _, _, _, _, _, _, _, _, κt, dt, rfl, rfl, hTr, h0, hT⟩
    · rw [if_neg (fun z => c2 ((nI_ltI (by omega) (by omega)).mp z)), if_neg (fun z => c2 ((nI_ltI (by omega) (by omega)).mp z))]
      exact ⟨true, _, _, _, _, _, _, _, _, _, _, _, _, _, _, κt, dt, rfl, rfl, hTr, h0, hT⟩
  · -- a path that can be proven
    rw [if_neg (show ¬ nI 5 = 1 by decide), if_neg (show ¬ nI 5 = 1 by decide), if_neg (show ¬ nI 5 = 2 by decide), if_neg (show ¬ nI 5 = 2 by decide), if_neg (show ¬ nI 5 = 3 by decide), if_neg (show ¬ nI 5 = 3 by decide), if_neg (show ¬ nI 5 = 4 by decide), if_neg (show ¬ nI 5 = 4 by decide), if_pos (show nI 5 = 5 from rfl), if_pos (show nI 5 = 5 from rfl)]
    obtain ⟨mf', l', s', sure', ris', fal', cap', of', u1, u2, u3⟩ := fitTo_eq hN hC t1.1 hnx hNC hK hPC l0 s0 of0 hT
    rw [u1]
    simp only [obd8]
    rw [hp1, hp2, hasPath_eq N _ (by omega), isPath_eq N _ (by omega), gz_zI (by omega)]
    simp only [obd1, zI_0]
    by_cases c1 : two < (PL n G L R).length
    · rw [decide_eq_true c1, if_neg (show ¬ true = false by decide), if_neg (show ¬ true = false by decide)]
      by_cases c2 : low < 2
      · rw [if_neg (show ¬ (1 : Int32) < nI low from fun z => by have := (nI_ltI (a := 1) (by decide) (by omega)).mp z; omega), if_neg (show ¬ (2 : Int32) ≤ nI low from le_f (a := 2) c2 (by decide))]
        obtain ⟨⟨i, set⟩, hel⟩ : ∃ x, (PL n G L R)[two]? = some x := ⟨_, List.getElem?_eq_getElem c1⟩
        obtain ⟨hi, hset, -, hfl⟩ := PL_in hel
        obtain ⟨m1, m2⟩ := hPM.2.2 two i set hel
        obtain ⟨b', a', v', w1⟩ := bestOn_eq hN hC t1.1 hnx hNM (lv := 1) (by decide) hK16 (rises := low) (how := 0) hi hset hfl c2 (by decide) 1 bf af va
        rw [if_neg one_ne] at w1
        have w1' : f_X10_bestOn N 1 (nI i) (nI set) (nI low) 0 1 minputs (nI G) now other one bf af va next = _ := w1
        have hle := bsF_le (fitN n G L R nx κt i set low 0) 256
        have hav := fit_any (nx := nx) (κ := κt) (to := low) hel
        rw [provenC hN u2 h55 c1 c2, grd_nI (show two < 64 by omega) (by decide), grd_nI (show two < 64 by omega) (by decide), nI_clamp (show two < 2 ^ 31 by omega), m1, m2, w1', ← hav]
        simp only [obd4, zI_0]
        by_cases hz : 0 < (bsF (fitN n G L R nx κt i set low 0) 256).2
        · rw [decide_eq_true hz, if_neg (by decide), if_neg (show ¬ nI _ ≤ (0 : Int32) from le_f (b := 0) hz (by omega))]
          exact ⟨true, _, _, _, _, _, _, _, _, _, _, _, _, _, _, κt, dt, rfl, rfl, hTr, h0, u3⟩
        · rw [decide_eq_false hz, if_pos rfl, if_pos (show nI _ ≤ (0 : Int32) from le_t (b := 0) (by omega) (by decide))]
          exact ⟨false, _, _, _, _, _, _, _, _, _, _, _, _, _, _, κt, dt, rfl, rfl, hTr, h0, u3⟩
      · rw [if_pos (show (1 : Int32) < nI low from nI_lt (a := 1) (by omega) (by omega)), if_pos (show (2 : Int32) ≤ nI low from le_t (a := 2) (by omega) (by omega))]
        exact ⟨false, _, _, _, _, _, _, _, _, _, _, _, _, _, _, κt, dt, rfl, rfl, hTr, h0, u3⟩
    · rw [decide_eq_false c1, if_pos (show false = false from rfl), if_pos (show false = false from rfl)]
      exact ⟨false, _, _, _, _, _, _, _, _, _, _, _, _, _, _, κt, dt, rfl, rfl, hTr, h0, u3⟩
  · -- dead beginnings
    rw [if_neg (show ¬ nI 6 = 1 by decide), if_neg (show ¬ nI 6 = 1 by decide), if_neg (show ¬ nI 6 = 2 by decide), if_neg (show ¬ nI 6 = 2 by decide), if_neg (show ¬ nI 6 = 3 by decide), if_neg (show ¬ nI 6 = 3 by decide), if_neg (show ¬ nI 6 = 4 by decide), if_neg (show ¬ nI 6 = 4 by decide), if_neg (show ¬ nI 6 = 5 by decide), if_neg (show ¬ nI 6 = 5 by decide), if_pos (show nI 6 = 6 from rfl), if_pos (show nI 6 = 6 from rfl)]
    obtain ⟨mf', l', s', sure', ris', fal', cap', of', u1, u2, u3⟩ := fitTo_eq hN hC t1.1 hnx hNC hK hPC l0 s0 of0 hT
    rw [u1]
    simp only [obd8]
    by_cases c1 : two < 10
    · rw [if_pos (show nI (two / 10) = 0 from (c0 (by omega)).mpr (by omega)), if_neg (show ¬ (10 : Int32) ≤ nI two from le_f (a := 10) c1 (by decide)), dead_eq hN hn hG hPC u2]
      obtain ⟨b', a', v', w1⟩ := pruned_eq hN hC t1.1 hnx hNM (lv := 1) (by decide) hK16 hPM bf af va
      have w1' : f_X10_prunedOn N 1 minputs (nI G) mp pin pga now other one bf af va next = _ := w1
      rw [w1', pr_same]
      simp only [obd1, obd4]
      rw [show two % 10 = two by omega, show (10 : Int32) * nI two + nI low = nI (10 * two + low) by rw [show (10 : Int32) = nI 10 from rfl, pk_mul, nI_add]]
      by_cases c2 : nI (slwB (prC n G L R nx κt) (PL n G L R).length) < nI (10 * two + low)
      · rw [if_pos c2, if_pos c2]
        exact ⟨false, _, _, _, _, _, _, _, _, _, _, _, _, _, _, κt, dt, rfl, rfl, hTr, h0, u3⟩
      · rw [if_neg c2, if_neg c2]
        exact ⟨true, _, _, _, _, _, _, _, _, _, _, _, _, _, _, κt, dt, rfl, rfl, hTr, h0, u3⟩
    · rw [if_neg (show ¬ nI (two / 10) = 0 from fun z => by have := (c0 (by omega)).mp z; omega), if_pos (show (10 : Int32) ≤ nI two from le_t (a := 10) (by omega) (by omega))]
      exact ⟨false, _, _, _, _, _, _, _, _, _, _, _, _, _, _, κt, dt, rfl, rfl, hTr, h0, u3⟩
  · have hne : ∀ k, k < 10 → h ≠ k → ¬ nI h = nI k := fun k hk hx z => hx ((nI_eq (by omega) (by omega)).mp z)
    rw [if_neg (show ¬ nI h = 1 from hne 1 (by decide) n1), if_neg (show ¬ nI h = 1 from hne 1 (by decide) n1), if_neg (show ¬ nI h = 2 from hne 2 (by decide) n2), if_neg (show ¬ nI h = 2 from hne 2 (by decide) n2), if_neg (show ¬ nI h = 3 from hne 3 (by decide) n3), if_neg (show ¬ nI h = 3 from hne 3 (by decide) n3), if_neg (show ¬ nI h = 4 from hne 4 (by decide) n4), if_neg (show ¬ nI h = 4 from hne 4 (by decide) n4), if_neg (show ¬ nI h = 5 from hne 5 (by decide) n5), if_neg (show ¬ nI h = 5 from hne 5 (by decide) n5), if_neg (show ¬ nI h = 6 from hne 6 (by decide) n6), if_neg (show ¬ nI h = 6 from hne 6 (by decide) n6)]
    exact ⟨false, _, _, _, _, _, _, _, _, _, _, _, _, _, _, κt, dt, rfl, rfl, hTr, h0, hT⟩
end JU
