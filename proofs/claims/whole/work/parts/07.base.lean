-- PURE BASE: 'o comes to something with P'
def Ok {α : Type} (o : Option α) (P : α → Prop) : Prop := ∃ a, o = some a ∧ P a
theorem Ok.some {α : Type} {P : α → Prop} {a : α} (h : P a) : Ok (some a) P := ⟨a, rfl, h⟩
theorem Ok.eq {α : Type} {P : α → Prop} {a : α} {o : Option α} (e : o = Option.some a) (h : P a) : Ok o P := ⟨a, e, h⟩
theorem Ok.mono {α : Type} {P Q : α → Prop} {o : Option α} (h : Ok o P) (hPQ : ∀ a, P a → Q a) : Ok o Q := by
  obtain ⟨a, e, h⟩ := h
  exact ⟨a, e, hPQ a h⟩
theorem Ok.bnd {α ρ : Type} {x : α} {k : α → Option ρ} {P : ρ → Prop} (h : Ok (k x) P) : Ok (bnd x k) P := h
theorem Ok.grd {ρ : Type} {b : Bool} {k : Option ρ} {P : ρ → Prop} (hb : b = true) (h : Ok k P) : Ok (grd b k) P := by subst hb; exact h
theorem Ok.join {α ρ : Type} {f : α} {k : α → Option ρ} {P : ρ → Prop} (J : α → Prop) (hf : J f) (hk : ∀ j, J j → Ok (k j) P) : Ok (_root_.Jvm.Pilot.@@N@@.bnd f k) P := hk f hf
theorem Ok.ite {ρ : Type} {c : Prop} [Decidable c] {a b : Option ρ} {P : ρ → Prop} (h1 : c → Ok a P) (h2 : ¬ c → Ok b P) : Ok (if c then a else b) P := by
  by_cases h : c
  · rw [if_pos h]; exact h1 h
  · rw [if_neg h]; exact h2 h
theorem bnd_eq {α ρ : Type} (x : α) (k : α → Option ρ) : bnd x k = k x := rfl
theorem grd_t {ρ : Type} {b : Bool} {k : Option ρ} (h : b = true) : grd b k = k := by subst h; rfl
theorem inb_nI {a n : Nat} (h : a < n) (hn : n ≤ 2 ^ 31) : inb (nI a) n = true := by
  have e := nI_toInt (n := a) (by omega)
  simp only [inb, e, Bool.and_eq_true, decide_eq_true_eq]
  omega
theorem grd_nI {ρ : Type} {a n : Nat} {k : Option ρ} (h : a < n) (hn : n ≤ 2 ^ 31) : grd (inb (nI a) n) k = k := grd_t (inb_nI h hn)
theorem fa_lt (a b : Int32) : a < b ↔ a.toInt < b.toInt := Int32.lt_iff_toInt_lt
theorem fa_le (a b : Int32) : a ≤ b ↔ a.toInt ≤ b.toInt := Int32.le_iff_toInt_le
theorem fa_eq (a b : Int32) : a = b ↔ a.toInt = b.toInt := Int32.toInt_inj.symm
theorem fa_lt64 (a b : Int64) : a < b ↔ a.toInt < b.toInt := Int64.lt_iff_toInt_lt
theorem fa_le64 (a b : Int64) : a ≤ b ↔ a.toInt ≤ b.toInt := Int64.le_iff_toInt_le
theorem fa_eq64 (a b : Int64) : a = b ↔ a.toInt = b.toInt := Int64.toInt_inj.symm
theorem in_spec (N : Nat) (a b c : Int64) : f_X10_in N a b c = some (if b.toInt ≤ a.toInt ∧ a.toInt ≤ c.toInt then 1 else 0) := by
  have hc : ∀ x y : Int64, (lg_cmp x y < 0 ↔ x.toInt < y.toInt) ∧ (0 < lg_cmp x y ↔ y.toInt < x.toInt) := by
    intro x y
    unfold lg_cmp
    by_cases h1 : x > y
    · rw [if_pos h1]
      have h1 := (fa_lt64 y x).mp h1
      constructor
      · constructor
        · intro h; exact absurd h (by decide)
        · intro h; omega
      · constructor
        · intro _; exact h1
        · intro _; decide
    · rw [if_neg h1]
      have h1 : ¬ y.toInt < x.toInt := fun h => h1 ((fa_lt64 y x).mpr h)
      by_cases h2 : x = y
      · rw [if_pos h2]
        subst h2
        constructor
        · constructor
          · intro h; exact absurd h (by decide)
          · intro h; omega
        · constructor
          · intro h; exact absurd h (by decide)
          · intro h; omega
      · rw [if_neg h2]
        have h2 : ¬ x.toInt = y.toInt := fun h => h2 ((fa_eq64 x y).mpr h)
        constructor
        · constructor
          · intro _; omega
          · intro _; decide
        · constructor
          · intro h; exact absurd h (by decide)
          · intro h; omega
  rw [f_X10_in]
  simp only [bnd, hc]
  by_cases h1 : a.toInt < b.toInt
  · rw [if_pos h1, if_neg (by omega)]
  · rw [if_neg h1]
    by_cases h2 : c.toInt < a.toInt
    · rw [if_pos h2, if_neg (by omega)]
    · rw [if_neg h2, if_pos (by omega)]
theorem in32 (N : Nat) (y : Int32) (b c : Int64) : f_X10_in N y.toInt64 b c = some (if b.toInt ≤ y.toInt ∧ y.toInt ≤ c.toInt then 1 else 0) := by
  rw [in_spec, Int32.toInt_toInt64]
theorem one_ne : ¬ (1 : Int32) = 0 := by decide
theorem zo0 (c : Prop) [Decidable c] : ((if c then (1 : Int32) else 0) = 0) ↔ ¬ c := by
  by_cases h : c
  · rw [if_pos h]; exact ⟨fun e => absurd e one_ne, fun n => absurd h n⟩
  · rw [if_neg h]; exact ⟨fun _ => h, fun _ => rfl⟩
-- THE TEXT
def RText (size : Int32) (letters : Nat → Int32) (len : Int32) (text : Nat → Int32) : Prop := ∃ k : Nat, k ≤ 40 ∧ size = nI k ∧ len = nI k ∧ ∀ j, j < k → letters j = text j ∧ 0 ≤ (text j).toInt ∧ (text j).toInt ≤ 255
theorem sm_write (N : Nat) (y : Int32) {size len : Int32} {letters text : Nat → Int32} (h : RText size letters len text) : ∃ r size' letters' len' text', f_X9_write N y size letters = some (r, size', letters') ∧ f_X10_write N y len text = some (r, len', text') ∧ RText size' letters' len' text' := by
  obtain ⟨k, hk, rfl, rfl, ht⟩ := id h
  rw [f_X9_write, f_X10_write, in32]
  have e0 : (0 : Int32).toInt = 0 := rfl
  have e1 : (255 : Int32).toInt = 255 := rfl
  have e2 : (0 : Int64).toInt = 0 := rfl
  have e3 : (255 : Int64).toInt = 255 := rfl
  have e4 : (40 : Int32).toInt = 40 := rfl
  have ek : (nI k).toInt = k := nI_toInt (by omega)
  simp only [obd1, zo0, fa_lt, fa_le, e0, e1, e2, e3, e4, ek]
  by_cases h1 : y.toInt < 0
  · rw [if_pos h1, if_pos (by omega)]
    exact ⟨_, _, _, _, _, rfl, rfl, h⟩
  · rw [if_neg h1]
    by_cases h2 : y.toInt ≤ 255
    · rw [if_pos h2, if_neg (c := ¬ (0 ≤ y.toInt ∧ y.toInt ≤ 255)) (by omega)]
      by_cases h3 : k < 40
      · rw [if_pos (by omega), if_neg (by rw [fa_eq, ek, e4]; omega), grd_nI h3 (by decide), grd_nI h3 (by decide)]
        simp only [bnd, nI_clamp (show k < 2 ^ 31 by omega), nI_1]
        refine ⟨_, _, _, _, _, rfl, rfl, k + 1, by omega, rfl, rfl, fun j hj => ?_⟩
        by_cases hjk : j = k
        · subst hjk
          rw [pk_us, pk_us]
          exact ⟨rfl, by omega, by omega⟩
        · rw [pk_un hjk, pk_un hjk]
          exact ht j (by omega)
      · rw [if_neg (by omega), if_pos (by rw [fa_eq, ek, e4]; omega)]
        exact ⟨_, _, _, _, _, rfl, rfl, h⟩
    · rw [if_neg h2, if_pos (by omega)]
      exact ⟨_, _, _, _, _, rfl, rfl, h⟩
theorem sm_wipe (N : Nat) {size len : Int32} {letters text : Nat → Int32} (h : RText size letters len text) : ∃ r size' len', f_X9_wipe N size = some (r, size') ∧ f_X10_wipe N len = some (r, len') ∧ RText size' letters len' text := by
  obtain ⟨k, hk, rfl, rfl, ht⟩ := h
  exact ⟨_, _, _, rfl, rfl, 0, by omega, rfl, rfl, fun j hj => by omega⟩
-- WHAT WAS SEEN
def RSeen (size : Int32) (pairs times lates : Nat → Int32) (seen : Int32) (sp sq sl : Nat → Int32) : Prop := ∃ k : Nat, k ≤ 6 ∧ size = nI k ∧ seen = nI k ∧ ∀ j, j < k → (∃ p, p < 256 ∧ pairs j = nI p ∧ sp j = nI p) ∧ (∃ t, t < 100 ∧ times j = nI t ∧ sq j = nI t) ∧ ∃ b, b < 2 ∧ lates j = nI b ∧ sl j = nI b
theorem nI_of_rng {y : Int32} {n : Nat} (h0 : 0 ≤ y.toInt) (h1 : y.toInt < n) (hn : n ≤ 2 ^ 31) : ∃ j, j < n ∧ y = nI j := by
  refine ⟨y.toInt.toNat, by omega, ?_⟩
  rw [fa_eq, nI_toInt (by omega)]
  omega
theorem sm_see (N : Nat) (y1 y2 y3 : Int32) {size seen : Int32} {pairs times lates sp sq sl : Nat → Int32} (h : RSeen size pairs times lates seen sp sq sl) : ∃ r size' pairs' times' lates' seen' sp' sq' sl', f_X9_see N y1 y2 y3 size pairs times lates = some (r, size', pairs', times', lates') ∧ f_X10_see N y1 y2 y3 seen sp sq sl = some (r, seen', sp', sq', sl') ∧ RSeen size' pairs' times' lates' seen' sp' sq' sl' := by
  obtain ⟨k, hk, rfl, rfl, ht⟩ := id h
  rw [f_X9_see, f_X10_see, in32, in32, in32]
  have e0 : (0 : Int32).toInt = 0 := rfl
  have e1 : (256 : Int32).toInt = 256 := rfl
  have e2 : (0 : Int64).toInt = 0 := rfl
  have e3 : (255 : Int64).toInt = 255 := rfl
  have e4 : (99 : Int32).toInt = 99 := rfl
  have e5 : (99 : Int64).toInt = 99 := rfl
  have e6 : (1 : Int32).toInt = 1 := rfl
  have e7 : (1 : Int64).toInt = 1 := rfl
  have e8 : (6 : Int32).toInt = 6 := rfl
  have ek : (nI k).toInt = k := nI_toInt (by omega)
  simp only [obd1, zo0, fa_lt, fa_le, e0, e1, e2, e3, e4, e5, e6, e7, e8, ek]
  by_cases h1 : 0 ≤ y1.toInt ∧ y1.toInt ≤ 255
  · rw [if_neg (by omega), if_neg (by omega), if_neg (c := ¬ (0 ≤ y1.toInt ∧ y1.toInt ≤ 255)) (fun q => q h1)]
    by_cases h2 : 0 ≤ y2.toInt ∧ y2.toInt ≤ 99
    · rw [if_neg (by omega), if_neg (by omega), if_neg (c := ¬ (0 ≤ y2.toInt ∧ y2.toInt ≤ 99)) (fun q => q h2)]
      by_cases h3 : 0 ≤ y3.toInt ∧ y3.toInt ≤ 1
      · rw [if_neg (by omega), if_pos (by omega), if_neg (c := ¬ (0 ≤ y3.toInt ∧ y3.toInt ≤ 1)) (fun q => q h3)]
        by_cases h4 : k < 6
        · rw [if_pos (by omega), if_neg (by rw [fa_eq, ek, e8]; omega), f_X6_add, if_neg (by rw [fa_le, ek, e8]; omega)]
          rw [grd_nI h4 (by decide), grd_nI h4 (by decide)]
          simp only [bnd, obd4, nI_clamp (show k < 2 ^ 31 by omega), nI_1, grd_nI h4 (show 6 ≤ 2 ^ 31 by decide)]
          refine ⟨_, _, _, _, _, _, _, _, _, rfl, rfl, k + 1, by omega, rfl, rfl, fun j hj => ?_⟩
          by_cases hjk : j = k
          · subst hjk
            simp only [pk_us]
            obtain ⟨p, hp, rfl⟩ := nI_of_rng (y := y1) (n := 256) h1.1 (by omega) (by decide)
            obtain ⟨t, ht2, rfl⟩ := nI_of_rng (y := y2) (n := 100) h2.1 (by omega) (by decide)
            obtain ⟨b, hb, rfl⟩ := nI_of_rng (y := y3) (n := 2) h3.1 (by omega) (by decide)
            exact ⟨⟨p, hp, rfl, rfl⟩, ⟨t, ht2, rfl, rfl⟩, b, hb, rfl, rfl⟩
          · simp only [pk_un hjk]
            exact ht j (by omega)
        · rw [if_neg (by omega), if_pos (by rw [fa_eq, ek, e8]; omega)]
          exact ⟨_, _, _, _, _, _, _, _, _, rfl, rfl, h⟩
      · rw [if_pos (c := ¬ (0 ≤ y3.toInt ∧ y3.toInt ≤ 1)) h3]
        by_cases h4 : y3.toInt < 0
        · rw [if_pos h4]
          exact ⟨_, _, _, _, _, _, _, _, _, rfl, rfl, h⟩
        · rw [if_neg h4, if_neg (by omega)]
          exact ⟨_, _, _, _, _, _, _, _, _, rfl, rfl, h⟩
    · rw [if_pos (c := ¬ (0 ≤ y2.toInt ∧ y2.toInt ≤ 99)) h2]
      by_cases h4 : y2.toInt < 0
      · rw [if_pos h4]
        exact ⟨_, _, _, _, _, _, _, _, _, rfl, rfl, h⟩
      · rw [if_neg h4, if_pos (by omega)]
        exact ⟨_, _, _, _, _, _, _, _, _, rfl, rfl, h⟩
  · rw [if_pos (c := ¬ (0 ≤ y1.toInt ∧ y1.toInt ≤ 255)) h1]
    by_cases h4 : y1.toInt < 0
    · rw [if_pos h4]
      exact ⟨_, _, _, _, _, _, _, _, _, rfl, rfl, h⟩
    · rw [if_neg h4, if_pos (by omega)]
      exact ⟨_, _, _, _, _, _, _, _, _, rfl, rfl, h⟩
theorem sm_unsee (N : Nat) {size seen : Int32} {pairs times lates sp sq sl : Nat → Int32} (h : RSeen size pairs times lates seen sp sq sl) : ∃ r size' seen', f_X9_unsee N size = some (r, size') ∧ f_X10_unsee N seen = some (r, seen') ∧ RSeen size' pairs times lates seen' sp sq sl := by
  obtain ⟨k, hk, rfl, rfl, ht⟩ := h
  exact ⟨_, _, _, rfl, rfl, 0, by omega, rfl, rfl, fun j hj => by omega⟩
