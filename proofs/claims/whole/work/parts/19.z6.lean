-- how many paths there are at most
def fbN : Nat → Nat
  | 0 => 1
  | 1 => 1
  | k + 2 => fbN (k + 1) + fbN k
theorem fb_pos : ∀ k, 1 ≤ fbN k
  | 0 => Nat.le_refl _
  | 1 => Nat.le_refl _
  | k + 2 => by
    have := fb_pos (k + 1)
    rw [fbN]
    omega
theorem fb_up (k : Nat) : fbN k ≤ fbN (k + 1) := by
  cases k with
  | zero => exact Nat.le_refl _
  | succ k =>
    rw [fbN]
    omega
theorem fb_mono {a b : Nat} (h : a ≤ b) : fbN a ≤ fbN b := by
  obtain ⟨k, rfl⟩ : ∃ k, b = a + k := ⟨b - a, by omega⟩
  clear h
  induction k with
  | zero => exact Nat.le_refl _
  | succ k ih => exact Nat.le_trans ih (fb_up (a + k))
def bdN (s : Nat) : Nat := if s < 4 then 1 else fbN (s - 4 + 2)
theorem bd_two {g a b : Nat} (ha : a < 4 + g) (hb : b < 4 + g) (hne : a ≠ b) : bdN a + bdN b ≤ fbN (g + 2) := by
  have key : ∀ a b, a < 4 + g → b < a → bdN a + bdN b ≤ fbN (g + 2) := by
    intro a b ha hb
    have f1 := fb_pos g
    have f2 := fb_pos (g + 1)
    unfold bdN
    have e : fbN (g + 2) = fbN (g + 1) + fbN g := rfl
    rw [e]
    by_cases h4 : a < 4
    · rw [if_pos h4, if_pos (by omega)]
      omega
    · rw [if_neg h4]
      have m1 := fb_mono (show a - 4 + 2 ≤ g + 1 by omega)
      by_cases h5 : b < 4
      · rw [if_pos h5]
        omega
      · rw [if_neg h5]
        have m2 := fb_mono (show b - 4 + 2 ≤ g by omega)
        omega
  rcases Nat.lt_or_ge b a with w | w
  · exact key a b ha w
  · have := key b a hb (by omega)
    omega
theorem ctB_add (f : Nat → Bool) (a : Nat) : ∀ b, ctB f (a + b) = ctB f a + ctB (fun q => f (a + q)) b
  | 0 => rfl
  | b + 1 => by
    rw [← Nat.add_assoc, ctB, ctB, ctB_add f a b]
    omega
theorem slwB_add2 (f g : Nat → Nat) : ∀ n, slwB (fun i => f i + g i) n = slwB f n + slwB g n
  | 0 => rfl
  | n + 1 => by
    rw [slwB, slwB, slwB, slwB_add2 f g n]
    omega
section CN
variable {n G : Nat} {L R nx κ : Nat → Nat} {nt : Nat → Bool}
def wyB (L R : Nat → Nat) (i g s set : Nat) : Bool := decide ((fl L R i set g).1 = s) && (fl L R i set g).2
def cnN (L R : Nat → Nat) (n g s : Nat) : Nat := slwB (fun i => ctB (wyB L R i g s) (2 ^ g)) n
theorem wy_low {i g s set : Nat} (h : set < 2 ^ g) : wyB L R i (g + 1) s set = wyB L R i g s set := by
  unfold wyB
  rw [fl_more h 1]
theorem wy_high {i g s set : Nat} (h : set < 2 ^ g) : wyB L R i (g + 1) s (2 ^ g + set) = (decide (s = 4 + g) && (wyB L R i g (L g) set || wyB L R i g (R g) set)) := by
  have hb : (2 ^ g + set).testBit g = true := by
    rw [Nat.testBit_two_pow_add_eq, Nat.testBit_lt_two_pow h]
    rfl
  have hc : fl L R i (2 ^ g + set) g = fl L R i set g := fl_cong g (fun k hk => Nat.testBit_two_pow_add_gt hk set)
  unfold wyB
  rw [fl, if_pos hb, hc]
  show (decide (4 + g = s) && ((fl L R i set g).2 && (decide (L g = (fl L R i set g).1) || decide (R g = (fl L R i set g).1)))) = _
  have e1 : decide (4 + g = s) = decide (s = 4 + g) := decide_eq_decide.mpr ⟨fun z => z.symm, fun z => z.symm⟩
  have e2 : decide (L g = (fl L R i set g).1) = decide ((fl L R i set g).1 = L g) := decide_eq_decide.mpr ⟨fun z => z.symm, fun z => z.symm⟩
  have e3 : decide (R g = (fl L R i set g).1) = decide ((fl L R i set g).1 = R g) := decide_eq_decide.mpr ⟨fun z => z.symm, fun z => z.symm⟩
  rw [e1, e2, e3]
  cases (fl L R i set g).2 <;> cases decide ((fl L R i set g).1 = L g) <;> cases decide ((fl L R i set g).1 = R g) <;> rfl
theorem ctB_or_le {f g h : Nat → Bool} : ∀ {m : Nat}, (∀ p, p < m → h p = true → f p = true ∨ g p = true) → ctB h m ≤ ctB f m + ctB g m
  | 0, _ => Nat.le_refl _
  | m + 1, H => by
    have ih := ctB_or_le (f := f) (g := g) (h := h) (m := m) (fun p hp => H p (by omega))
    have := H m (by omega)
    rw [ctB, ctB, ctB]
    cases hh : h m with
    | false =>
      rw [if_neg (by decide)]
      split <;> split <;> omega
    | true =>
      rcases this hh with w | w
      · rw [w, if_pos rfl]
        split <;> omega
      · rw [w, if_pos rfl]
        split <;> omega
theorem ctB_none {f : Nat → Bool} : ∀ {m : Nat}, (∀ p, p < m → f p = false) → ctB f m = 0
  | 0, _ => rfl
  | m + 1, h => by
    rw [ctB, ctB_none (fun p hp => h p (by omega)), h m (by omega)]
    rfl
/-- no signal is reached in more ways than the row 1, 1, 2, 3, 5 .. tells -/
theorem cn_le (hC : Circ n G L R nt) : ∀ g, g ≤ G → ∀ s, s < 4 + g → cnN L R n g s ≤ bdN s
  | 0, _, s, hs => by
    have hs4 : s < 4 := by omega
    unfold bdN
    rw [if_pos hs4]
    unfold cnN
    by_cases hn : s < n
    · rw [slwB_one (a := s) hn (fun z hz hne => ctB_none (fun p _ => by
        unfold wyB
        show (decide (z = s) && true) = false
        rw [decide_eq_false hne]
        rfl))]
      exact ctB_le _ _
    · rw [slwB_zero (fun z hz => ctB_none (fun p _ => by
        unfold wyB
        show (decide (z = s) && true) = false
        rw [decide_eq_false (by omega)]
        rfl))]
      exact Nat.zero_le _
  | g + 1, hg, s, hs => by
    have ih := cn_le hC g (by omega)
    obtain ⟨hn, hG8, -, -, hgg⟩ := id hC
    obtain ⟨g1, g2, g3, g4⟩ := hgg g (by omega)
    have l1 := Sg_lt g1 hn
    have l2 := Sg_lt g2 hn
    have split : cnN L R n (g + 1) s = slwB (fun i => ctB (wyB L R i g s) (2 ^ g)) n + slwB (fun i => ctB (fun set => decide (s = 4 + g) && (wyB L R i g (L g) set || wyB L R i g (R g) set)) (2 ^ g)) n := by
      unfold cnN
      rw [← slwB_add2]
      refine slwB_cong (fun i _ => ?_)
      rw [Nat.pow_succ, Nat.mul_two, ctB_add]
      rw [ctB_cong (f := wyB L R i (g + 1) s) (g := wyB L R i g s) (fun p hp => wy_low hp), ctB_cong (f := fun q => wyB L R i (g + 1) s (2 ^ g + q)) (fun p hp => wy_high hp)]
    rw [split]
    by_cases hsg : s = 4 + g
    · subst hsg
      have z1 : slwB (fun i => ctB (wyB L R i g (4 + g)) (2 ^ g)) n = 0 := by
        refine slwB_zero (fun i hi => ctB_none (fun set _ => ?_))
        have hat := Sg_lt (fl_at hC hi (set := set) g (by omega)) hn
        unfold wyB
        rw [decide_eq_false (by omega)]
        rfl
      rw [z1, Nat.zero_add]
      have hbd : bdN (4 + g) = fbN (g + 2) := by
        unfold bdN
        rw [if_neg (by omega), Nat.add_sub_cancel_left]
      rw [hbd]
      cases hnt : nt g with
      | true =>
        have e := g3 hnt
        have : slwB (fun i => ctB (fun set => decide (4 + g = 4 + g) && (wyB L R i g (L g) set || wyB L R i g (R g) set)) (2 ^ g)) n = cnN L R n g (L g) := by
          unfold cnN
          refine slwB_cong (fun i _ => ctB_cong (fun set _ => ?_))
          rw [e, decide_eq_true rfl, Bool.true_and, Bool.or_self]
        rw [this]
        refine Nat.le_trans (ih _ l1) ?_
        unfold bdN
        split
        · exact fb_pos _
        · exact fb_mono (by omega)
      | false =>
        have hle : slwB (fun i => ctB (fun set => decide (4 + g = 4 + g) && (wyB L R i g (L g) set || wyB L R i g (R g) set)) (2 ^ g)) n ≤ cnN L R n g (L g) + cnN L R n g (R g) := by
          unfold cnN
          rw [← slwB_add2]
          have mono : ∀ (f h : Nat → Nat) (k : Nat), (∀ z, z < k → f z ≤ h z) → slwB f k ≤ slwB h k := by
            intro f h k
            induction k with
            | zero => intro _; exact Nat.le_refl _
            | succ k ihk =>
              intro H
              have a := ihk (fun z hz => H z (by omega))
              have b := H k (by omega)
              rw [slwB, slwB]
              omega
          refine mono _ _ n (fun i _ => ctB_or_le (fun set _ hh => ?_))
          rw [Bool.and_eq_true, Bool.or_eq_true] at hh
          exact hh.2
        have a := ih _ l1
        have b := ih _ l2
        have c := bd_two l1 l2 (fun z => g4 hnt z.symm)
        omega
    · have z2 : slwB (fun i => ctB (fun set => decide (s = 4 + g) && (wyB L R i g (L g) set || wyB L R i g (R g) set)) (2 ^ g)) n = 0 := by
        refine slwB_zero (fun i hi => ctB_none (fun set _ => ?_))
        rw [decide_eq_false hsg, Bool.false_and]
      rw [z2, Nat.add_zero]
      exact ih s (by omega)
end CN
theorem list_ct {P : Nat → Bool} : ∀ {m : Nat} {l : List Nat}, l.Nodup → (∀ x, x ∈ l → x < m ∧ P x = true) → l.length ≤ ctB P m
  | 0, l, _, h => by
    cases l with
    | nil => exact Nat.le_refl _
    | cons a t => have := (h a (List.mem_cons_self ..)).1; omega
  | m + 1, l, hn, h => by
    rw [ctB]
    by_cases hm : m ∈ l
    · have e1 := List.length_erase_of_mem hm
      have ih := list_ct (P := P) (m := m) (l := l.erase m) (hn.erase m) (fun x hx => by
        obtain ⟨x1, x2⟩ := (List.Nodup.mem_erase_iff hn).mp hx
        have := h x x2
        exact ⟨by omega, this.2⟩)
      rw [(h m hm).2, if_pos rfl]
      omega
    · have ih := list_ct (P := P) (m := m) hn (fun x hx => by
        have := h x hx
        have hne : x ≠ m := fun z => hm (z ▸ hx)
        exact ⟨by omega, this.2⟩)
      omega
section PN
variable {n G : Nat} {L R nx κ : Nat → Nat} {nt : Nat → Bool}
theorem ps_len (h0 : 0 < G) (hG : G ≤ 8) {i : Nat} : (psets G L R i 255).length ≤ ctB (wyB L R i G (4 + (G - 1))) (2 ^ G) := by
  apply list_ct
  · exact List.Pairwise.imp (fun h => fun z => by rw [z] at h; omega) (psets_ord (Nat.le_refl _))
  · intro x hx
    obtain ⟨q, -, -, -, h4, h5⟩ := psets_mem hx
    refine ⟨half_pos h4 h0, ?_⟩
    unfold wyB
    rw [out_at h0 h4, decide_eq_true rfl, h5]
    rfl
theorem PLn_len : ∀ n, (PLn G L R n).length = slwB (fun i => (psets G L R i 255).length) n
  | 0 => rfl
  | n + 1 => by
    rw [PLn, List.length_append, PLn_len n, List.length_map, slwB]
theorem PL_55 (hC : Circ n G L R nt) : (PL n G L R).length ≤ 55 := by
  have hG := hC.2.1
  rcases Nat.eq_zero_or_pos G with h0 | h0
  · have hn0 := hC.2.2.2.1 h0
    subst hn0
    exact Nat.zero_le _
  · show (PLn G L R n).length ≤ 55
    rw [PLn_len]
    have mono : ∀ (f h : Nat → Nat) (k : Nat), (∀ z, z < k → f z ≤ h z) → slwB f k ≤ slwB h k := by
      intro f h k
      induction k with
      | zero => intro _; exact Nat.le_refl _
      | succ k ihk =>
        intro H
        have a := ihk (fun z hz => H z (by omega))
        have b := H k (by omega)
        rw [slwB, slwB]
        omega
    refine Nat.le_trans (mono _ (fun i => ctB (wyB L R i G (4 + (G - 1))) (2 ^ G)) n (fun i _ => ps_len h0 hG)) ?_
    have := cn_le hC G (Nat.le_refl _) (4 + (G - 1)) (by omega)
    unfold cnN at this
    refine Nat.le_trans this ?_
    unfold bdN
    rw [if_neg (by omega), Nat.add_sub_cancel_left]
    exact Nat.le_trans (fb_mono (show G - 1 + 2 ≤ 9 by omega)) (by decide)
end PN
