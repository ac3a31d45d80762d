-- CORE: small words for the pure side (a method as an Option-valued function), the world in one hypothesis, rows over it
def bnd {α ρ : Type} (x : α) (k : α → Option ρ) : Option ρ := k x
theorem bnd_at {α ρ : Type} {x y : α} {k : α → Option ρ} {r : ρ} (e : y = x) (h : bnd x k = some r) : k y = some r := by subst e; exact h
theorem bnd_ex {α ρ : Type} {x : α} {k : α → Option ρ} {r : ρ} (h : bnd x k = some r) : ∃ y, y = x ∧ k y = some r := ⟨x, rfl, h⟩
def grd {ρ : Type} (b : Bool) (k : Option ρ) : Option ρ := match b with
  | true => k
  | false => none
theorem grd_el {ρ : Type} {b : Bool} {k : Option ρ} {r : ρ} (h : grd b k = some r) : b = true ∧ k = some r := by
  cases b with
  | true => exact ⟨rfl, h⟩
  | false => cases h
def inb (i : Int32) (n : Nat) : Bool := decide (0 ≤ i.toInt) && decide (i.toInt < (n : Int))
theorem inb_in {i : Int32} {n : Nat} (h : inb i n = true) : vp_in i n := by
  simp only [inb, Bool.and_eq_true, decide_eq_true_eq] at h
  exact vp_in_iff.mpr h
def nzI (i : Int32) : Bool := decide (¬ i = 0)
theorem nzI_ne {i : Int32} (h : nzI i = true) : ¬ i = 0 := of_decide_eq_true h
def nzL (i : Int64) : Bool := decide (¬ i = 0)
theorem nzL_ne {i : Int64} (h : nzL i = true) : ¬ i = 0 := of_decide_eq_true h
def isZ (i : Int32) : Bool := decide (i = 0 ∨ i = 1)
theorem isZ_narrow {i : Int32} (h : isZ i = true) : narrow .boolean (.int i) = .int i := by
  rcases of_decide_eq_true h with rfl | rfl <;> rfl
theorem if_t {ρ : Type} {c : Prop} [Decidable c] {a b : Option ρ} {r : ρ} (hc : c) (h : (if c then a else b) = some r) : a = some r := by
  rw [if_pos hc] at h; exact h
theorem if_f {ρ : Type} {c : Prop} [Decidable c] {a b : Option ρ} {r : ρ} (hc : ¬ c) (h : (if c then a else b) = some r) : b = some r := by
  rw [if_neg hc] at h; exact h
def obd0 {ρ : Type} (o : Option Unit) (k : Option ρ) : Option ρ := match o with
  | none => none
  | some _ => k
theorem obd0_el {ρ : Type} {o : Option Unit} {k : Option ρ} {r : ρ} (h : obd0 o k = some r) : o = some () ∧ k = some r := by
  cases o with
  | none => cases h
  | some u => exact ⟨rfl, h⟩
theorem ap0 {γ : Type} {f g : γ} (e : f = g) {r : γ} (h : f = r) : g = r := e ▸ h

def obd1 {α1 ρ : Type} (o : Option (α1)) (k : α1 → Option ρ) : Option ρ := match o with
  | none => none
  | some x1 => k x1
theorem obd1_el {α1 ρ : Type} {o : Option (α1)} {k : α1 → Option ρ} {r : ρ} (h : obd1 o k = some r) : ∃ x1, o = some x1 ∧ k x1 = some r := by
  cases o with
  | none => cases h
  | some u => exact ⟨u, rfl, h⟩
theorem ap1 {α1 γ : Type} {f g : α1 → γ} (e : f = g) {x1 : α1} {r : γ} (h : f x1 = r) : g x1 = r := e ▸ h
def obd2 {α1 α2 ρ : Type} (o : Option (α1 × α2)) (k : α1 → α2 → Option ρ) : Option ρ := match o with
  | none => none
  | some (x1, x2) => k x1 x2
theorem obd2_el {α1 α2 ρ : Type} {o : Option (α1 × α2)} {k : α1 → α2 → Option ρ} {r : ρ} (h : obd2 o k = some r) : ∃ x1 x2, o = some (x1, x2) ∧ k x1 x2 = some r := by
  cases o with
  | none => cases h
  | some u => obtain ⟨x1, x2⟩ := u; exact ⟨x1, x2, rfl, h⟩
theorem ap2 {α1 α2 γ : Type} {f g : α1 → α2 → γ} (e : f = g) {x1 : α1} {x2 : α2} {r : γ} (h : f x1 x2 = r) : g x1 x2 = r := e ▸ h
def obd3 {α1 α2 α3 ρ : Type} (o : Option (α1 × α2 × α3)) (k : α1 → α2 → α3 → Option ρ) : Option ρ := match o with
  | none => none
  | some (x1, x2, x3) => k x1 x2 x3
theorem obd3_el {α1 α2 α3 ρ : Type} {o : Option (α1 × α2 × α3)} {k : α1 → α2 → α3 → Option ρ} {r : ρ} (h : obd3 o k = some r) : ∃ x1 x2 x3, o = some (x1, x2, x3) ∧ k x1 x2 x3 = some r := by
  cases o with
  | none => cases h
  | some u => obtain ⟨x1, x2, x3⟩ := u; exact ⟨x1, x2, x3, rfl, h⟩
theorem ap3 {α1 α2 α3 γ : Type} {f g : α1 → α2 → α3 → γ} (e : f = g) {x1 : α1} {x2 : α2} {x3 : α3} {r : γ} (h : f x1 x2 x3 = r) : g x1 x2 x3 = r := e ▸ h
def obd4 {α1 α2 α3 α4 ρ : Type} (o : Option (α1 × α2 × α3 × α4)) (k : α1 → α2 → α3 → α4 → Option ρ) : Option ρ := match o with
  | none => none
  | some (x1, x2, x3, x4) => k x1 x2 x3 x4
theorem obd4_el {α1 α2 α3 α4 ρ : Type} {o : Option (α1 × α2 × α3 × α4)} {k : α1 → α2 → α3 → α4 → Option ρ} {r : ρ} (h : obd4 o k = some r) : ∃ x1 x2 x3 x4, o = some (x1, x2, x3, x4) ∧ k x1 x2 x3 x4 = some r := by
  cases o with
  | none => cases h
  | some u => obtain ⟨x1, x2, x3, x4⟩ := u; exact ⟨x1, x2, x3, x4, rfl, h⟩
theorem ap4 {α1 α2 α3 α4 γ : Type} {f g : α1 → α2 → α3 → α4 → γ} (e : f = g) {x1 : α1} {x2 : α2} {x3 : α3} {x4 : α4} {r : γ} (h : f x1 x2 x3 x4 = r) : g x1 x2 x3 x4 = r := e ▸ h
def obd5 {α1 α2 α3 α4 α5 ρ : Type} (o : Option (α1 × α2 × α3 × α4 × α5)) (k : α1 → α2 → α3 → α4 → α5 → Option ρ) : Option ρ := match o with
  | none => none
  | some (x1, x2, x3, x4, x5) => k x1 x2 x3 x4 x5
theorem obd5_el {α1 α2 α3 α4 α5 ρ : Type} {o : Option (α1 × α2 × α3 × α4 × α5)} {k : α1 → α2 → α3 → α4 → α5 → Option ρ} {r : ρ} (h : obd5 o k = some r) : ∃ x1 x2 x3 x4 x5, o = some (x1, x2, x3, x4, x5) ∧ k x1 x2 x3 x4 x5 = some r := by
  cases o with
  | none => cases h
  | some u => obtain ⟨x1, x2, x3, x4, x5⟩ := u; exact ⟨x1, x2, x3, x4, x5, rfl, h⟩
theorem ap5 {α1 α2 α3 α4 α5 γ : Type} {f g : α1 → α2 → α3 → α4 → α5 → γ} (e : f = g) {x1 : α1} {x2 : α2} {x3 : α3} {x4 : α4} {x5 : α5} {r : γ} (h : f x1 x2 x3 x4 x5 = r) : g x1 x2 x3 x4 x5 = r := e ▸ h
def obd6 {α1 α2 α3 α4 α5 α6 ρ : Type} (o : Option (α1 × α2 × α3 × α4 × α5 × α6)) (k : α1 → α2 → α3 → α4 → α5 → α6 → Option ρ) : Option ρ := match o with
  | none => none
  | some (x1, x2, x3, x4, x5, x6) => k x1 x2 x3 x4 x5 x6
theorem obd6_el {α1 α2 α3 α4 α5 α6 ρ : Type} {o : Option (α1 × α2 × α3 × α4 × α5 × α6)} {k : α1 → α2 → α3 → α4 → α5 → α6 → Option ρ} {r : ρ} (h : obd6 o k = some r) : ∃ x1 x2 x3 x4 x5 x6, o = some (x1, x2, x3, x4, x5, x6) ∧ k x1 x2 x3 x4 x5 x6 = some r := by
  cases o with
  | none => cases h
  | some u => obtain ⟨x1, x2, x3, x4, x5, x6⟩ := u; exact ⟨x1, x2, x3, x4, x5, x6, rfl, h⟩
theorem ap6 {α1 α2 α3 α4 α5 α6 γ : Type} {f g : α1 → α2 → α3 → α4 → α5 → α6 → γ} (e : f = g) {x1 : α1} {x2 : α2} {x3 : α3} {x4 : α4} {x5 : α5} {x6 : α6} {r : γ} (h : f x1 x2 x3 x4 x5 x6 = r) : g x1 x2 x3 x4 x5 x6 = r := e ▸ h
def obd7 {α1 α2 α3 α4 α5 α6 α7 ρ : Type} (o : Option (α1 × α2 × α3 × α4 × α5 × α6 × α7)) (k : α1 → α2 → α3 → α4 → α5 → α6 → α7 → Option ρ) : Option ρ := match o with
  | none => none
  | some (x1, x2, x3, x4, x5, x6, x7) => k x1 x2 x3 x4 x5 x6 x7
theorem obd7_el {α1 α2 α3 α4 α5 α6 α7 ρ : Type} {o : Option (α1 × α2 × α3 × α4 × α5 × α6 × α7)} {k : α1 → α2 → α3 → α4 → α5 → α6 → α7 → Option ρ} {r : ρ} (h : obd7 o k = some r) : ∃ x1 x2 x3 x4 x5 x6 x7, o = some (x1, x2, x3, x4, x5, x6, x7) ∧ k x1 x2 x3 x4 x5 x6 x7 = some r := by
  cases o with
  | none => cases h
  | some u => obtain ⟨x1, x2, x3, x4, x5, x6, x7⟩ := u; exact ⟨x1, x2, x3, x4, x5, x6, x7, rfl, h⟩
theorem ap7 {α1 α2 α3 α4 α5 α6 α7 γ : Type} {f g : α1 → α2 → α3 → α4 → α5 → α6 → α7 → γ} (e : f = g) {x1 : α1} {x2 : α2} {x3 : α3} {x4 : α4} {x5 : α5} {x6 : α6} {x7 : α7} {r : γ} (h : f x1 x2 x3 x4 x5 x6 x7 = r) : g x1 x2 x3 x4 x5 x6 x7 = r := e ▸ h
def obd8 {α1 α2 α3 α4 α5 α6 α7 α8 ρ : Type} (o : Option (α1 × α2 × α3 × α4 × α5 × α6 × α7 × α8)) (k : α1 → α2 → α3 → α4 → α5 → α6 → α7 → α8 → Option ρ) : Option ρ := match o with
  | none => none
  | some (x1, x2, x3, x4, x5, x6, x7, x8) => k x1 x2 x3 x4 x5 x6 x7 x8
theorem obd8_el {α1 α2 α3 α4 α5 α6 α7 α8 ρ : Type} {o : Option (α1 × α2 × α3 × α4 × α5 × α6 × α7 × α8)} {k : α1 → α2 → α3 → α4 → α5 → α6 → α7 → α8 → Option ρ} {r : ρ} (h : obd8 o k = some r) : ∃ x1 x2 x3 x4 x5 x6 x7 x8, o = some (x1, x2, x3, x4, x5, x6, x7, x8) ∧ k x1 x2 x3 x4 x5 x6 x7 x8 = some r := by
  cases o with
  | none => cases h
  | some u => obtain ⟨x1, x2, x3, x4, x5, x6, x7, x8⟩ := u; exact ⟨x1, x2, x3, x4, x5, x6, x7, x8, rfl, h⟩
theorem ap8 {α1 α2 α3 α4 α5 α6 α7 α8 γ : Type} {f g : α1 → α2 → α3 → α4 → α5 → α6 → α7 → α8 → γ} (e : f = g) {x1 : α1} {x2 : α2} {x3 : α3} {x4 : α4} {x5 : α5} {x6 : α6} {x7 : α7} {x8 : α8} {r : γ} (h : f x1 x2 x3 x4 x5 x6 x7 x8 = r) : g x1 x2 x3 x4 x5 x6 x7 x8 = r := e ▸ h
def obd9 {α1 α2 α3 α4 α5 α6 α7 α8 α9 ρ : Type} (o : Option (α1 × α2 × α3 × α4 × α5 × α6 × α7 × α8 × α9)) (k : α1 → α2 → α3 → α4 → α5 → α6 → α7 → α8 → α9 → Option ρ) : Option ρ := match o with
  | none => none
  | some (x1, x2, x3, x4, x5, x6, x7, x8, x9) => k x1 x2 x3 x4 x5 x6 x7 x8 x9
theorem obd9_el {α1 α2 α3 α4 α5 α6 α7 α8 α9 ρ : Type} {o : Option (α1 × α2 × α3 × α4 × α5 × α6 × α7 × α8 × α9)} {k : α1 → α2 → α3 → α4 → α5 → α6 → α7 → α8 → α9 → Option ρ} {r : ρ} (h : obd9 o k = some r) : ∃ x1 x2 x3 x4 x5 x6 x7 x8 x9, o = some (x1, x2, x3, x4, x5, x6, x7, x8, x9) ∧ k x1 x2 x3 x4 x5 x6 x7 x8 x9 = some r := by
  cases o with
  | none => cases h
  | some u => obtain ⟨x1, x2, x3, x4, x5, x6, x7, x8, x9⟩ := u; exact ⟨x1, x2, x3, x4, x5, x6, x7, x8, x9, rfl, h⟩
theorem ap9 {α1 α2 α3 α4 α5 α6 α7 α8 α9 γ : Type} {f g : α1 → α2 → α3 → α4 → α5 → α6 → α7 → α8 → α9 → γ} (e : f = g) {x1 : α1} {x2 : α2} {x3 : α3} {x4 : α4} {x5 : α5} {x6 : α6} {x7 : α7} {x8 : α8} {x9 : α9} {r : γ} (h : f x1 x2 x3 x4 x5 x6 x7 x8 x9 = r) : g x1 x2 x3 x4 x5 x6 x7 x8 x9 = r := e ▸ h
def obd10 {α1 α2 α3 α4 α5 α6 α7 α8 α9 α10 ρ : Type} (o : Option (α1 × α2 × α3 × α4 × α5 × α6 × α7 × α8 × α9 × α10)) (k : α1 → α2 → α3 → α4 → α5 → α6 → α7 → α8 → α9 → α10 → Option ρ) : Option ρ := match o with
  | none => none
  | some (x1, x2, x3, x4, x5, x6, x7, x8, x9, x10) => k x1 x2 x3 x4 x5 x6 x7 x8 x9 x10
theorem obd10_el {α1 α2 α3 α4 α5 α6 α7 α8 α9 α10 ρ : Type} {o : Option (α1 × α2 × α3 × α4 × α5 × α6 × α7 × α8 × α9 × α10)} {k : α1 → α2 → α3 → α4 → α5 → α6 → α7 → α8 → α9 → α10 → Option ρ} {r : ρ} (h : obd10 o k = some r) : ∃ x1 x2 x3 x4 x5 x6 x7 x8 x9 x10, o = some (x1, x2, x3, x4, x5, x6, x7, x8, x9, x10) ∧ k x1 x2 x3 x4 x5 x6 x7 x8 x9 x10 = some r := by
  cases o with
  | none => cases h
  | some u => obtain ⟨x1, x2, x3, x4, x5, x6, x7, x8, x9, x10⟩ := u; exact ⟨x1, x2, x3, x4, x5, x6, x7, x8, x9, x10, rfl, h⟩
theorem ap10 {α1 α2 α3 α4 α5 α6 α7 α8 α9 α10 γ : Type} {f g : α1 → α2 → α3 → α4 → α5 → α6 → α7 → α8 → α9 → α10 → γ} (e : f = g) {x1 : α1} {x2 : α2} {x3 : α3} {x4 : α4} {x5 : α5} {x6 : α6} {x7 : α7} {x8 : α8} {x9 : α9} {x10 : α10} {r : γ} (h : f x1 x2 x3 x4 x5 x6 x7 x8 x9 x10 = r) : g x1 x2 x3 x4 x5 x6 x7 x8 x9 x10 = r := e ▸ h
def obd11 {α1 α2 α3 α4 α5 α6 α7 α8 α9 α10 α11 ρ : Type} (o : Option (α1 × α2 × α3 × α4 × α5 × α6 × α7 × α8 × α9 × α10 × α11)) (k : α1 → α2 → α3 → α4 → α5 → α6 → α7 → α8 → α9 → α10 → α11 → Option ρ) : Option ρ := match o with
  | none => none
  | some (x1, x2, x3, x4, x5, x6, x7, x8, x9, x10, x11) => k x1 x2 x3 x4 x5 x6 x7 x8 x9 x10 x11
theorem obd11_el {α1 α2 α3 α4 α5 α6 α7 α8 α9 α10 α11 ρ : Type} {o : Option (α1 × α2 × α3 × α4 × α5 × α6 × α7 × α8 × α9 × α10 × α11)} {k : α1 → α2 → α3 → α4 → α5 → α6 → α7 → α8 → α9 → α10 → α11 → Option ρ} {r : ρ} (h : obd11 o k = some r) : ∃ x1 x2 x3 x4 x5 x6 x7 x8 x9 x10 x11, o = some (x1, x2, x3, x4, x5, x6, x7, x8, x9, x10, x11) ∧ k x1 x2 x3 x4 x5 x6 x7 x8 x9 x10 x11 = some r := by
  cases o with
  | none => cases h
  | some u => obtain ⟨x1, x2, x3, x4, x5, x6, x7, x8, x9, x10, x11⟩ := u; exact ⟨x1, x2, x3, x4, x5, x6, x7, x8, x9, x10, x11, rfl, h⟩
theorem ap11 {α1 α2 α3 α4 α5 α6 α7 α8 α9 α10 α11 γ : Type} {f g : α1 → α2 → α3 → α4 → α5 → α6 → α7 → α8 → α9 → α10 → α11 → γ} (e : f = g) {x1 : α1} {x2 : α2} {x3 : α3} {x4 : α4} {x5 : α5} {x6 : α6} {x7 : α7} {x8 : α8} {x9 : α9} {x10 : α10} {x11 : α11} {r : γ} (h : f x1 x2 x3 x4 x5 x6 x7 x8 x9 x10 x11 = r) : g x1 x2 x3 x4 x5 x6 x7 x8 x9 x10 x11 = r := e ▸ h
def obd12 {α1 α2 α3 α4 α5 α6 α7 α8 α9 α10 α11 α12 ρ : Type} (o : Option (α1 × α2 × α3 × α4 × α5 × α6 × α7 × α8 × α9 × α10 × α11 × α12)) (k : α1 → α2 → α3 → α4 → α5 → α6 → α7 → α8 → α9 → α10 → α11 → α12 → Option ρ) : Option ρ := match o with
  | none => none
  | some (x1, x2, x3, x4, x5, x6, x7, x8, x9, x10, x11, x12) => k x1 x2 x3 x4 x5 x6 x7 x8 x9 x10 x11 x12
theorem obd12_el {α1 α2 α3 α4 α5 α6 α7 α8 α9 α10 α11 α12 ρ : Type} {o : Option (α1 × α2 × α3 × α4 × α5 × α6 × α7 × α8 × α9 × α10 × α11 × α12)} {k : α1 → α2 → α3 → α4 → α5 → α6 → α7 → α8 → α9 → α10 → α11 → α12 → Option ρ} {r : ρ} (h : obd12 o k = some r) : ∃ x1 x2 x3 x4 x5 x6 x7 x8 x9 x10 x11 x12, o = some (x1, x2, x3, x4, x5, x6, x7, x8, x9, x10, x11, x12) ∧ k x1 x2 x3 x4 x5 x6 x7 x8 x9 x10 x11 x12 = some r := by
  cases o with
  | none => cases h
  | some u => obtain ⟨x1, x2, x3, x4, x5, x6, x7, x8, x9, x10, x11, x12⟩ := u; exact ⟨x1, x2, x3, x4, x5, x6, x7, x8, x9, x10, x11, x12, rfl, h⟩
theorem ap12 {α1 α2 α3 α4 α5 α6 α7 α8 α9 α10 α11 α12 γ : Type} {f g : α1 → α2 → α3 → α4 → α5 → α6 → α7 → α8 → α9 → α10 → α11 → α12 → γ} (e : f = g) {x1 : α1} {x2 : α2} {x3 : α3} {x4 : α4} {x5 : α5} {x6 : α6} {x7 : α7} {x8 : α8} {x9 : α9} {x10 : α10} {x11 : α11} {x12 : α12} {r : γ} (h : f x1 x2 x3 x4 x5 x6 x7 x8 x9 x10 x11 x12 = r) : g x1 x2 x3 x4 x5 x6 x7 x8 x9 x10 x11 x12 = r := e ▸ h
def obd13 {α1 α2 α3 α4 α5 α6 α7 α8 α9 α10 α11 α12 α13 ρ : Type} (o : Option (α1 × α2 × α3 × α4 × α5 × α6 × α7 × α8 × α9 × α10 × α11 × α12 × α13)) (k : α1 → α2 → α3 → α4 → α5 → α6 → α7 → α8 → α9 → α10 → α11 → α12 → α13 → Option ρ) : Option ρ := match o with
  | none => none
  | some (x1, x2, x3, x4, x5, x6, x7, x8, x9, x10, x11, x12, x13) => k x1 x2 x3 x4 x5 x6 x7 x8 x9 x10 x11 x12 x13
theorem obd13_el {α1 α2 α3 α4 α5 α6 α7 α8 α9 α10 α11 α12 α13 ρ : Type} {o : Option (α1 × α2 × α3 × α4 × α5 × α6 × α7 × α8 × α9 × α10 × α11 × α12 × α13)} {k : α1 → α2 → α3 → α4 → α5 → α6 → α7 → α8 → α9 → α10 → α11 → α12 → α13 → Option ρ} {r : ρ} (h : obd13 o k = some r) : ∃ x1 x2 x3 x4 x5 x6 x7 x8 x9 x10 x11 x12 x13, o = some (x1, x2, x3, x4, x5, x6, x7, x8, x9, x10, x11, x12, x13) ∧ k x1 x2 x3 x4 x5 x6 x7 x8 x9 x10 x11 x12 x13 = some r := by
  cases o with
  | none => cases h
  | some u => obtain ⟨x1, x2, x3, x4, x5, x6, x7, x8, x9, x10, x11, x12, x13⟩ := u; exact ⟨x1, x2, x3, x4, x5, x6, x7, x8, x9, x10, x11, x12, x13, rfl, h⟩
theorem ap13 {α1 α2 α3 α4 α5 α6 α7 α8 α9 α10 α11 α12 α13 γ : Type} {f g : α1 → α2 → α3 → α4 → α5 → α6 → α7 → α8 → α9 → α10 → α11 → α12 → α13 → γ} (e : f = g) {x1 : α1} {x2 : α2} {x3 : α3} {x4 : α4} {x5 : α5} {x6 : α6} {x7 : α7} {x8 : α8} {x9 : α9} {x10 : α10} {x11 : α11} {x12 : α12} {x13 : α13} {r : γ} (h : f x1 x2 x3 x4 x5 x6 x7 x8 x9 x10 x11 x12 x13 = r) : g x1 x2 x3 x4 x5 x6 x7 x8 x9 x10 x11 x12 x13 = r := e ▸ h
def obd14 {α1 α2 α3 α4 α5 α6 α7 α8 α9 α10 α11 α12 α13 α14 ρ : Type} (o : Option (α1 × α2 × α3 × α4 × α5 × α6 × α7 × α8 × α9 × α10 × α11 × α12 × α13 × α14)) (k : α1 → α2 → α3 → α4 → α5 → α6 → α7 → α8 → α9 → α10 → α11 → α12 → α13 → α14 → Option ρ) : Option ρ := match o with
  | none => none
  | some (x1, x2, x3, x4, x5, x6, x7, x8, x9, x10, x11, x12, x13, x14) => k x1 x2 x3 x4 x5 x6 x7 x8 x9 x10 x11 x12 x13 x14
theorem obd14_el {α1 α2 α3 α4 α5 α6 α7 α8 α9 α10 α11 α12 α13 α14 ρ : Type} {o : Option (α1 × α2 × α3 × α4 × α5 × α6 × α7 × α8 × α9 × α10 × α11 × α12 × α13 × α14)} {k : α1 → α2 → α3 → α4 → α5 → α6 → α7 → α8 → α9 → α10 → α11 → α12 → α13 → α14 → Option ρ} {r : ρ} (h : obd14 o k = some r) : ∃ x1 x2 x3 x4 x5 x6 x7 x8 x9 x10 x11 x12 x13 x14, o = some (x1, x2, x3, x4, x5, x6, x7, x8, x9, x10, x11, x12, x13, x14) ∧ k x1 x2 x3 x4 x5 x6 x7 x8 x9 x10 x11 x12 x13 x14 = some r := by
  cases o with
  | none => cases h
  | some u => obtain ⟨x1, x2, x3, x4, x5, x6, x7, x8, x9, x10, x11, x12, x13, x14⟩ := u; exact ⟨x1, x2, x3, x4, x5, x6, x7, x8, x9, x10, x11, x12, x13, x14, rfl, h⟩
theorem ap14 {α1 α2 α3 α4 α5 α6 α7 α8 α9 α10 α11 α12 α13 α14 γ : Type} {f g : α1 → α2 → α3 → α4 → α5 → α6 → α7 → α8 → α9 → α10 → α11 → α12 → α13 → α14 → γ} (e : f = g) {x1 : α1} {x2 : α2} {x3 : α3} {x4 : α4} {x5 : α5} {x6 : α6} {x7 : α7} {x8 : α8} {x9 : α9} {x10 : α10} {x11 : α11} {x12 : α12} {x13 : α13} {x14 : α14} {r : γ} (h : f x1 x2 x3 x4 x5 x6 x7 x8 x9 x10 x11 x12 x13 x14 = r) : g x1 x2 x3 x4 x5 x6 x7 x8 x9 x10 x11 x12 x13 x14 = r := e ▸ h
def obd15 {α1 α2 α3 α4 α5 α6 α7 α8 α9 α10 α11 α12 α13 α14 α15 ρ : Type} (o : Option (α1 × α2 × α3 × α4 × α5 × α6 × α7 × α8 × α9 × α10 × α11 × α12 × α13 × α14 × α15)) (k : α1 → α2 → α3 → α4 → α5 → α6 → α7 → α8 → α9 → α10 → α11 → α12 → α13 → α14 → α15 → Option ρ) : Option ρ := match o with
  | none => none
  | some (x1, x2, x3, x4, x5, x6, x7, x8, x9, x10, x11, x12, x13, x14, x15) => k x1 x2 x3 x4 x5 x6 x7 x8 x9 x10 x11 x12 x13 x14 x15
theorem obd15_el {α1 α2 α3 α4 α5 α6 α7 α8 α9 α10 α11 α12 α13 α14 α15 ρ : Type} {o : Option (α1 × α2 × α3 × α4 × α5 × α6 × α7 × α8 × α9 × α10 × α11 × α12 × α13 × α14 × α15)} {k : α1 → α2 → α3 → α4 → α5 → α6 → α7 → α8 → α9 → α10 → α11 → α12 → α13 → α14 → α15 → Option ρ} {r : ρ} (h : obd15 o k = some r) : ∃ x1 x2 x3 x4 x5 x6 x7 x8 x9 x10 x11 x12 x13 x14 x15, o = some (x1, x2, x3, x4, x5, x6, x7, x8, x9, x10, x11, x12, x13, x14, x15) ∧ k x1 x2 x3 x4 x5 x6 x7 x8 x9 x10 x11 x12 x13 x14 x15 = some r := by
  cases o with
  | none => cases h
  | some u => obtain ⟨x1, x2, x3, x4, x5, x6, x7, x8, x9, x10, x11, x12, x13, x14, x15⟩ := u; exact ⟨x1, x2, x3, x4, x5, x6, x7, x8, x9, x10, x11, x12, x13, x14, x15, rfl, h⟩
theorem ap15 {α1 α2 α3 α4 α5 α6 α7 α8 α9 α10 α11 α12 α13 α14 α15 γ : Type} {f g : α1 → α2 → α3 → α4 → α5 → α6 → α7 → α8 → α9 → α10 → α11 → α12 → α13 → α14 → α15 → γ} (e : f = g) {x1 : α1} {x2 : α2} {x3 : α3} {x4 : α4} {x5 : α5} {x6 : α6} {x7 : α7} {x8 : α8} {x9 : α9} {x10 : α10} {x11 : α11} {x12 : α12} {x13 : α13} {x14 : α14} {x15 : α15} {r : γ} (h : f x1 x2 x3 x4 x5 x6 x7 x8 x9 x10 x11 x12 x13 x14 x15 = r) : g x1 x2 x3 x4 x5 x6 x7 x8 x9 x10 x11 x12 x13 x14 x15 = r := e ▸ h
def obd16 {α1 α2 α3 α4 α5 α6 α7 α8 α9 α10 α11 α12 α13 α14 α15 α16 ρ : Type} (o : Option (α1 × α2 × α3 × α4 × α5 × α6 × α7 × α8 × α9 × α10 × α11 × α12 × α13 × α14 × α15 × α16)) (k : α1 → α2 → α3 → α4 → α5 → α6 → α7 → α8 → α9 → α10 → α11 → α12 → α13 → α14 → α15 → α16 → Option ρ) : Option ρ := match o with
  | none => none
  | some (x1, x2, x3, x4, x5, x6, x7, x8, x9, x10, x11, x12, x13, x14, x15, x16) => k x1 x2 x3 x4 x5 x6 x7 x8 x9 x10 x11 x12 x13 x14 x15 x16
theorem obd16_el {α1 α2 α3 α4 α5 α6 α7 α8 α9 α10 α11 α12 α13 α14 α15 α16 ρ : Type} {o : Option (α1 × α2 × α3 × α4 × α5 × α6 × α7 × α8 × α9 × α10 × α11 × α12 × α13 × α14 × α15 × α16)} {k : α1 → α2 → α3 → α4 → α5 → α6 → α7 → α8 → α9 → α10 → α11 → α12 → α13 → α14 → α15 → α16 → Option ρ} {r : ρ} (h : obd16 o k = some r) : ∃ x1 x2 x3 x4 x5 x6 x7 x8 x9 x10 x11 x12 x13 x14 x15 x16, o = some (x1, x2, x3, x4, x5, x6, x7, x8, x9, x10, x11, x12, x13, x14, x15, x16) ∧ k x1 x2 x3 x4 x5 x6 x7 x8 x9 x10 x11 x12 x13 x14 x15 x16 = some r := by
  cases o with
  | none => cases h
  | some u => obtain ⟨x1, x2, x3, x4, x5, x6, x7, x8, x9, x10, x11, x12, x13, x14, x15, x16⟩ := u; exact ⟨x1, x2, x3, x4, x5, x6, x7, x8, x9, x10, x11, x12, x13, x14, x15, x16, rfl, h⟩
theorem ap16 {α1 α2 α3 α4 α5 α6 α7 α8 α9 α10 α11 α12 α13 α14 α15 α16 γ : Type} {f g : α1 → α2 → α3 → α4 → α5 → α6 → α7 → α8 → α9 → α10 → α11 → α12 → α13 → α14 → α15 → α16 → γ} (e : f = g) {x1 : α1} {x2 : α2} {x3 : α3} {x4 : α4} {x5 : α5} {x6 : α6} {x7 : α7} {x8 : α8} {x9 : α9} {x10 : α10} {x11 : α11} {x12 : α12} {x13 : α13} {x14 : α14} {x15 : α15} {x16 : α16} {r : γ} (h : f x1 x2 x3 x4 x5 x6 x7 x8 x9 x10 x11 x12 x13 x14 x15 x16 = r) : g x1 x2 x3 x4 x5 x6 x7 x8 x9 x10 x11 x12 x13 x14 x15 x16 = r := e ▸ h
def obd17 {α1 α2 α3 α4 α5 α6 α7 α8 α9 α10 α11 α12 α13 α14 α15 α16 α17 ρ : Type} (o : Option (α1 × α2 × α3 × α4 × α5 × α6 × α7 × α8 × α9 × α10 × α11 × α12 × α13 × α14 × α15 × α16 × α17)) (k : α1 → α2 → α3 → α4 → α5 → α6 → α7 → α8 → α9 → α10 → α11 → α12 → α13 → α14 → α15 → α16 → α17 → Option ρ) : Option ρ := match o with
  | none => none
  | some (x1, x2, x3, x4, x5, x6, x7, x8, x9, x10, x11, x12, x13, x14, x15, x16, x17) => k x1 x2 x3 x4 x5 x6 x7 x8 x9 x10 x11 x12 x13 x14 x15 x16 x17
theorem obd17_el {α1 α2 α3 α4 α5 α6 α7 α8 α9 α10 α11 α12 α13 α14 α15 α16 α17 ρ : Type} {o : Option (α1 × α2 × α3 × α4 × α5 × α6 × α7 × α8 × α9 × α10 × α11 × α12 × α13 × α14 × α15 × α16 × α17)} {k : α1 → α2 → α3 → α4 → α5 → α6 → α7 → α8 → α9 → α10 → α11 → α12 → α13 → α14 → α15 → α16 → α17 → Option ρ} {r : ρ} (h : obd17 o k = some r) : ∃ x1 x2 x3 x4 x5 x6 x7 x8 x9 x10 x11 x12 x13 x14 x15 x16 x17, o = some (x1, x2, x3, x4, x5, x6, x7, x8, x9, x10, x11, x12, x13, x14, x15, x16, x17) ∧ k x1 x2 x3 x4 x5 x6 x7 x8 x9 x10 x11 x12 x13 x14 x15 x16 x17 = some r := by
  cases o with
  | none => cases h
  | some u => obtain ⟨x1, x2, x3, x4, x5, x6, x7, x8, x9, x10, x11, x12, x13, x14, x15, x16, x17⟩ := u; exact ⟨x1, x2, x3, x4, x5, x6, x7, x8, x9, x10, x11, x12, x13, x14, x15, x16, x17, rfl, h⟩
theorem ap17 {α1 α2 α3 α4 α5 α6 α7 α8 α9 α10 α11 α12 α13 α14 α15 α16 α17 γ : Type} {f g : α1 → α2 → α3 → α4 → α5 → α6 → α7 → α8 → α9 → α10 → α11 → α12 → α13 → α14 → α15 → α16 → α17 → γ} (e : f = g) {x1 : α1} {x2 : α2} {x3 : α3} {x4 : α4} {x5 : α5} {x6 : α6} {x7 : α7} {x8 : α8} {x9 : α9} {x10 : α10} {x11 : α11} {x12 : α12} {x13 : α13} {x14 : α14} {x15 : α15} {x16 : α16} {x17 : α17} {r : γ} (h : f x1 x2 x3 x4 x5 x6 x7 x8 x9 x10 x11 x12 x13 x14 x15 x16 x17 = r) : g x1 x2 x3 x4 x5 x6 x7 x8 x9 x10 x11 x12 x13 x14 x15 x16 x17 = r := e ▸ h
def obd18 {α1 α2 α3 α4 α5 α6 α7 α8 α9 α10 α11 α12 α13 α14 α15 α16 α17 α18 ρ : Type} (o : Option (α1 × α2 × α3 × α4 × α5 × α6 × α7 × α8 × α9 × α10 × α11 × α12 × α13 × α14 × α15 × α16 × α17 × α18)) (k : α1 → α2 → α3 → α4 → α5 → α6 → α7 → α8 → α9 → α10 → α11 → α12 → α13 → α14 → α15 → α16 → α17 → α18 → Option ρ) : Option ρ := match o with
  | none => none
  | some (x1, x2, x3, x4, x5, x6, x7, x8, x9, x10, x11, x12, x13, x14, x15, x16, x17, x18) => k x1 x2 x3 x4 x5 x6 x7 x8 x9 x10 x11 x12 x13 x14 x15 x16 x17 x18
theorem obd18_el {α1 α2 α3 α4 α5 α6 α7 α8 α9 α10 α11 α12 α13 α14 α15 α16 α17 α18 ρ : Type} {o : Option (α1 × α2 × α3 × α4 × α5 × α6 × α7 × α8 × α9 × α10 × α11 × α12 × α13 × α14 × α15 × α16 × α17 × α18)} {k : α1 → α2 → α3 → α4 → α5 → α6 → α7 → α8 → α9 → α10 → α11 → α12 → α13 → α14 → α15 → α16 → α17 → α18 → Option ρ} {r : ρ} (h : obd18 o k = some r) : ∃ x1 x2 x3 x4 x5 x6 x7 x8 x9 x10 x11 x12 x13 x14 x15 x16 x17 x18, o = some (x1, x2, x3, x4, x5, x6, x7, x8, x9, x10, x11, x12, x13, x14, x15, x16, x17, x18) ∧ k x1 x2 x3 x4 x5 x6 x7 x8 x9 x10 x11 x12 x13 x14 x15 x16 x17 x18 = some r := by
  cases o with
  | none => cases h
  | some u => obtain ⟨x1, x2, x3, x4, x5, x6, x7, x8, x9, x10, x11, x12, x13, x14, x15, x16, x17, x18⟩ := u; exact ⟨x1, x2, x3, x4, x5, x6, x7, x8, x9, x10, x11, x12, x13, x14, x15, x16, x17, x18, rfl, h⟩
theorem ap18 {α1 α2 α3 α4 α5 α6 α7 α8 α9 α10 α11 α12 α13 α14 α15 α16 α17 α18 γ : Type} {f g : α1 → α2 → α3 → α4 → α5 → α6 → α7 → α8 → α9 → α10 → α11 → α12 → α13 → α14 → α15 → α16 → α17 → α18 → γ} (e : f = g) {x1 : α1} {x2 : α2} {x3 : α3} {x4 : α4} {x5 : α5} {x6 : α6} {x7 : α7} {x8 : α8} {x9 : α9} {x10 : α10} {x11 : α11} {x12 : α12} {x13 : α13} {x14 : α14} {x15 : α15} {x16 : α16} {x17 : α17} {x18 : α18} {r : γ} (h : f x1 x2 x3 x4 x5 x6 x7 x8 x9 x10 x11 x12 x13 x14 x15 x16 x17 x18 = r) : g x1 x2 x3 x4 x5 x6 x7 x8 x9 x10 x11 x12 x13 x14 x15 x16 x17 x18 = r := e ▸ h
def obd19 {α1 α2 α3 α4 α5 α6 α7 α8 α9 α10 α11 α12 α13 α14 α15 α16 α17 α18 α19 ρ : Type} (o : Option (α1 × α2 × α3 × α4 × α5 × α6 × α7 × α8 × α9 × α10 × α11 × α12 × α13 × α14 × α15 × α16 × α17 × α18 × α19)) (k : α1 → α2 → α3 → α4 → α5 → α6 → α7 → α8 → α9 → α10 → α11 → α12 → α13 → α14 → α15 → α16 → α17 → α18 → α19 → Option ρ) : Option ρ := match o with
  | none => none
  | some (x1, x2, x3, x4, x5, x6, x7, x8, x9, x10, x11, x12, x13, x14, x15, x16, x17, x18, x19) => k x1 x2 x3 x4 x5 x6 x7 x8 x9 x10 x11 x12 x13 x14 x15 x16 x17 x18 x19
theorem obd19_el {α1 α2 α3 α4 α5 α6 α7 α8 α9 α10 α11 α12 α13 α14 α15 α16 α17 α18 α19 ρ : Type} {o : Option (α1 × α2 × α3 × α4 × α5 × α6 × α7 × α8 × α9 × α10 × α11 × α12 × α13 × α14 × α15 × α16 × α17 × α18 × α19)} {k : α1 → α2 → α3 → α4 → α5 → α6 → α7 → α8 → α9 → α10 → α11 → α12 → α13 → α14 → α15 → α16 → α17 → α18 → α19 → Option ρ} {r : ρ} (h : obd19 o k = some r) : ∃ x1 x2 x3 x4 x5 x6 x7 x8 x9 x10 x11 x12 x13 x14 x15 x16 x17 x18 x19, o = some (x1, x2, x3, x4, x5, x6, x7, x8, x9, x10, x11, x12, x13, x14, x15, x16, x17, x18, x19) ∧ k x1 x2 x3 x4 x5 x6 x7 x8 x9 x10 x11 x12 x13 x14 x15 x16 x17 x18 x19 = some r := by
  cases o with
  | none => cases h
  | some u => obtain ⟨x1, x2, x3, x4, x5, x6, x7, x8, x9, x10, x11, x12, x13, x14, x15, x16, x17, x18, x19⟩ := u; exact ⟨x1, x2, x3, x4, x5, x6, x7, x8, x9, x10, x11, x12, x13, x14, x15, x16, x17, x18, x19, rfl, h⟩
theorem ap19 {α1 α2 α3 α4 α5 α6 α7 α8 α9 α10 α11 α12 α13 α14 α15 α16 α17 α18 α19 γ : Type} {f g : α1 → α2 → α3 → α4 → α5 → α6 → α7 → α8 → α9 → α10 → α11 → α12 → α13 → α14 → α15 → α16 → α17 → α18 → α19 → γ} (e : f = g) {x1 : α1} {x2 : α2} {x3 : α3} {x4 : α4} {x5 : α5} {x6 : α6} {x7 : α7} {x8 : α8} {x9 : α9} {x10 : α10} {x11 : α11} {x12 : α12} {x13 : α13} {x14 : α14} {x15 : α15} {x16 : α16} {x17 : α17} {x18 : α18} {x19 : α19} {r : γ} (h : f x1 x2 x3 x4 x5 x6 x7 x8 x9 x10 x11 x12 x13 x14 x15 x16 x17 x18 x19 = r) : g x1 x2 x3 x4 x5 x6 x7 x8 x9 x10 x11 x12 x13 x14 x15 x16 x17 x18 x19 = r := e ▸ h
def obd20 {α1 α2 α3 α4 α5 α6 α7 α8 α9 α10 α11 α12 α13 α14 α15 α16 α17 α18 α19 α20 ρ : Type} (o : Option (α1 × α2 × α3 × α4 × α5 × α6 × α7 × α8 × α9 × α10 × α11 × α12 × α13 × α14 × α15 × α16 × α17 × α18 × α19 × α20)) (k : α1 → α2 → α3 → α4 → α5 → α6 → α7 → α8 → α9 → α10 → α11 → α12 → α13 → α14 → α15 → α16 → α17 → α18 → α19 → α20 → Option ρ) : Option ρ := match o with
  | none => none
  | some (x1, x2, x3, x4, x5, x6, x7, x8, x9, x10, x11, x12, x13, x14, x15, x16, x17, x18, x19, x20) => k x1 x2 x3 x4 x5 x6 x7 x8 x9 x10 x11 x12 x13 x14 x15 x16 x17 x18 x19 x20
theorem obd20_el {α1 α2 α3 α4 α5 α6 α7 α8 α9 α10 α11 α12 α13 α14 α15 α16 α17 α18 α19 α20 ρ : Type} {o : Option (α1 × α2 × α3 × α4 × α5 × α6 × α7 × α8 × α9 × α10 × α11 × α12 × α13 × α14 × α15 × α16 × α17 × α18 × α19 × α20)} {k : α1 → α2 → α3 → α4 → α5 → α6 → α7 → α8 → α9 → α10 → α11 → α12 → α13 → α14 → α15 → α16 → α17 → α18 → α19 → α20 → Option ρ} {r : ρ} (h : obd20 o k = some r) : ∃ x1 x2 x3 x4 x5 x6 x7 x8 x9 x10 x11 x12 x13 x14 x15 x16 x17 x18 x19 x20, o = some (x1, x2, x3, x4, x5, x6, x7, x8, x9, x10, x11, x12, x13, x14, x15, x16, x17, x18, x19, x20) ∧ k x1 x2 x3 x4 x5 x6 x7 x8 x9 x10 x11 x12 x13 x14 x15 x16 x17 x18 x19 x20 = some r := by
  cases o with
  | none => cases h
  | some u => obtain ⟨x1, x2, x3, x4, x5, x6, x7, x8, x9, x10, x11, x12, x13, x14, x15, x16, x17, x18, x19, x20⟩ := u; exact ⟨x1, x2, x3, x4, x5, x6, x7, x8, x9, x10, x11, x12, x13, x14, x15, x16, x17, x18, x19, x20, rfl, h⟩
theorem ap20 {α1 α2 α3 α4 α5 α6 α7 α8 α9 α10 α11 α12 α13 α14 α15 α16 α17 α18 α19 α20 γ : Type} {f g : α1 → α2 → α3 → α4 → α5 → α6 → α7 → α8 → α9 → α10 → α11 → α12 → α13 → α14 → α15 → α16 → α17 → α18 → α19 → α20 → γ} (e : f = g) {x1 : α1} {x2 : α2} {x3 : α3} {x4 : α4} {x5 : α5} {x6 : α6} {x7 : α7} {x8 : α8} {x9 : α9} {x10 : α10} {x11 : α11} {x12 : α12} {x13 : α13} {x14 : α14} {x15 : α15} {x16 : α16} {x17 : α17} {x18 : α18} {x19 : α19} {x20 : α20} {r : γ} (h : f x1 x2 x3 x4 x5 x6 x7 x8 x9 x10 x11 x12 x13 x14 x15 x16 x17 x18 x19 x20 = r) : g x1 x2 x3 x4 x5 x6 x7 x8 x9 x10 x11 x12 x13 x14 x15 x16 x17 x18 x19 x20 = r := e ▸ h

-- the world in one hypothesis
def ordN (j : Nat) : Int32 := match j with
  | 0 => 1
  | 1 => 1
  | 2 => 2
  | 3 => 6
  | 4 => 24
  | 5 => 120
  | 6 => 720
  | 7 => 5040
  | _ => 40320
def Zt (A : Nat → Prop) (U : State) (H : Heap) : Prop := ∃ t : Nat, va_Z "SlowPaths" "ORDERS" "[I" (.ref t) A U H ∧ va_T .int t 9 (fun j => .int (ordN j)) A U H
theorem Zt.moved {A : Nat → Prop} {u U : State} {H : Heap} (hvm : u.vm.Alike U.vm) (h : Zt A u H) : Zt A U H := by
  obtain ⟨t, h1, h2⟩ := h
  exact ⟨t, h1.moved hvm, h2.moved hvm⟩
theorem Zt.kept {A : Nat → Prop} {U : State} {H H1 : Heap} (h : Zt A U H) (hq : ∀ a : Nat, a < H.size → ¬ A a → H1[a]? = H[a]?) : Zt A U H1 := by
  obtain ⟨t, h1, h2⟩ := h
  exact ⟨t, h1.kept hq, h2.kept hq⟩
theorem Zt.narrow {A B : Nat → Prop} {U : State} {H : Heap} (h : Zt A U H) (hAB : ∀ q, B q → A q) : Zt B U H := by
  obtain ⟨t, h1, h2⟩ := h
  exact ⟨t, h1.narrow hAB, h2.narrow hAB⟩
def Wd (D : va_G) (tys : List (ClassId × FieldType)) (A : Nat → Prop) (s : State) (ws : va_W) (H : Heap) (locs : List Loc) : Prop := va_K D vwCl tys s ∧ va_P D vwCl ws H ∧ va_D A ws ∧ va_S A s.heap H locs ∧ (∀ q, s.heap.size ≤ q → A q) ∧ Zt A s s.heap
theorem fm_of_map {ws ws' : va_W} {is : List Nat} (hs : is.map (fun i => ws[i]?) = ws'.map some) : is.filterMap (fun i => ws[i]?) = ws' := by
  have h : (is.map (fun i => ws[i]?)).filterMap id = (ws'.map some).filterMap id := by rw [hs]
  rw [List.filterMap_map, List.filterMap_map] at h
  have h1 : is.filterMap (id ∘ fun i => ws[i]?) = is.filterMap (fun i => ws[i]?) := rfl
  rw [h1] at h
  rw [h]
  induction ws' with
  | nil => rfl
  | cons a t ih =>
    clear hs h h1 ih
    induction t generalizing a with
    | nil => rfl
    | cons b t ih => simp [List.filterMap_cons]
theorem Wd.sub {D : va_G} {tys : List (ClassId × FieldType)} {A : Nat → Prop} {s : State} {ws ws' : va_W} {H : Heap} {locs : List Loc} (h : Wd D tys A s ws H locs) (is : List Nat) (hn : va_nd is = true) (hs : is.map (fun i => ws[i]?) = ws'.map some) : Wd D tys A s ws' H locs :=
  ⟨h.1, h.2.1.sub is (fm_of_map hs), h.2.2.1.sub is hn hs, h.2.2.2⟩
-- contracts: cells w before, w' behind
def Pcw (D : va_G) (tys : List (ClassId × FieldType)) (w : va_W) (sz : Nat) (av : List Value) : Array Value → State → Prop := va_Pc av (fun U => U.heap.size = sz ∧ va_P D vwCl w U.heap ∧ va_K D vwCl tys U ∧ va_D (fun _ => True) w ∧ Zt (va_A w sz) U U.heap)
def Bw (D : va_G) (tys : List (ClassId × FieldType)) (A : Nat → Prop) (w' : va_W) : Unit → State → Prop := fun _ t => va_P D vwCl w' t.heap ∧ va_K D vwCl tys t ∧ va_D A w'
def MetI (l : Launch) (y : MethodName) (wsl : List Cond) (rm : Room) (D : va_G) (tys : List (ClassId × FieldType)) (w : va_W) (sz : Nat) (av : List Value) (res : Int32) (w' : va_W) : Prop := Met l y wsl rm (Pcw D tys w sz av) (va_Qi (fun r (_ : Unit) => res = r) (Bw D tys (va_A w sz) w') (va_A w sz)) 0 0 (va_A w sz)
def MetL (l : Launch) (y : MethodName) (wsl : List Cond) (rm : Room) (D : va_G) (tys : List (ClassId × FieldType)) (w : va_W) (sz : Nat) (av : List Value) (res : Int64) (w' : va_W) : Prop := Met l y wsl rm (Pcw D tys w sz av) (va_Ql (fun r (_ : Unit) => res = r) (Bw D tys (va_A w sz) w') (va_A w sz)) 0 0 (va_A w sz)
def MetV (l : Launch) (y : MethodName) (wsl : List Cond) (rm : Room) (D : va_G) (tys : List (ClassId × FieldType)) (w : va_W) (sz : Nat) (av : List Value) (w' : va_W) : Prop := Met l y wsl rm (Pcw D tys w sz av) (va_Qv (fun (_ : Unit) => True) (Bw D tys (va_A w sz) w') (va_A w sz)) 0 0 (va_A w sz)
-- those that write nothing: the heap is the same
def MetIr (l : Launch) (y : MethodName) (wsl : List Cond) (rm : Room) (D : va_G) (tys : List (ClassId × FieldType)) (w : va_W) (sz : Nat) (av : List Value) (res : Int32) : Prop := Met l y wsl rm (Pcw D tys w sz av) (vp_Si (fun r => res = r)) 0 0 (fun _ => False)
def MetLr (l : Launch) (y : MethodName) (wsl : List Cond) (rm : Room) (D : va_G) (tys : List (ClassId × FieldType)) (w : va_W) (sz : Nat) (av : List Value) (res : Int64) : Prop := Met l y wsl rm (Pcw D tys w sz av) (vp_Sl (fun r => res = r)) 0 0 (fun _ => False)
abbrev QI (D : va_G) (tys : List (ClassId × FieldType)) (A : Nat → Prop) (res : Int32) (w' : va_W) := va_Qi (fun r (_ : Unit) => res = r) (Bw D tys A w') A
abbrev QL (D : va_G) (tys : List (ClassId × FieldType)) (A : Nat → Prop) (res : Int64) (w' : va_W) := va_Ql (fun r (_ : Unit) => res = r) (Bw D tys A w') A
abbrev QV (D : va_G) (tys : List (ClassId × FieldType)) (A : Nat → Prop) (w' : va_W) := va_Qv (fun (_ : Unit) => True) (Bw D tys A w') A
abbrev Fix (p : Program) (m : MethodId) (meth : Method) (c : Code) (cc : ByteArray) (nL : Nat) (s : State) (args : Array Value) (Ts : List Cond) (own : String) : Prop := CallFix p m c cc nL s args Ts own ∧ meth.locks = false

theorem entI {l : Launch} {y : MethodName} {wsl ws2 : List Cond} {rm : Room} {D : va_G} {tys : List (ClassId × FieldType)} {w : va_W} {sz : Nat} {av : List Value} {res : Int32} {w' : va_W} {cc : ByteArray} {maxL : Nat} {own : String} (hy : plainName y.cls = true) (ho : y.cls = own) (hwsl : wsl = Cond.code y cc maxL (some .int) :: ws2) (hlen : (lg_sl av).length ≤ maxL)
    (body : ∀ (p : Program) (e : Env) (s : State) (m : MethodId) (args : Array Value) (below : List Frame) (meth : Method) (c : Code) (A : Nat → Prop) (ls : Array Slot) (Q : State → Prop) (H : Heap) (locs : List Loc), Fix p m meth c cc maxL s args wsl own → meth.sig.returnType = (some .int) → Wd D tys A s w H locs → lv_has ls maxL (lv_args 0 av) → Q = MQ below (QI D tys A res w') args s 0 0 (A) → W p l e rm s m args below meth c H locs 0 0 Q (F0 m 0 ls [])) : MetI l y wsl rm D tys w sz av res w' := by
  refine Met.ofW (cc := cc) (maxL := maxL) (ret := (some .int)) hy hwsl ?_
  intro p e s m args below meth c s₁ B hml hv
  obtain ⟨rfl, hsz, hP, hK, hD0, hZ⟩ := hv
  have hx := B.exec
  have hb := B.bytes
  have hr := B.returns
  have hts := atoms_spec (ws := wsl) B.pre
  have hown : s.vm.findClass y.cls = some m.cls := findClass_of_methodNamed B.named
  have hlocks := B.notSynchronized
  subst hsz
  subst ho
  have hl := lv_entry av (n := maxL) hlen
  rw [lg_entry_eq]
  exact body p e s m _ below meth c (va_A w s.heap.size) _ _ s.heap [] ⟨⟨hx, hb, hml, hown, hts⟩, hlocks⟩ hr ⟨hK, hP, hD0.self (sz := s.heap.size), va_S.rf, (fun q h => Or.inr h), hZ⟩ hl rfl
theorem entZ {l : Launch} {y : MethodName} {wsl ws2 : List Cond} {rm : Room} {D : va_G} {tys : List (ClassId × FieldType)} {w : va_W} {sz : Nat} {av : List Value} {res : Int32} {w' : va_W} {cc : ByteArray} {maxL : Nat} {own : String} (hy : plainName y.cls = true) (ho : y.cls = own) (hwsl : wsl = Cond.code y cc maxL (some .boolean) :: ws2) (hlen : (lg_sl av).length ≤ maxL)
    (body : ∀ (p : Program) (e : Env) (s : State) (m : MethodId) (args : Array Value) (below : List Frame) (meth : Method) (c : Code) (A : Nat → Prop) (ls : Array Slot) (Q : State → Prop) (H : Heap) (locs : List Loc), Fix p m meth c cc maxL s args wsl own → meth.sig.returnType = (some .boolean) → Wd D tys A s w H locs → lv_has ls maxL (lv_args 0 av) → Q = MQ below (QI D tys A res w') args s 0 0 (A) → W p l e rm s m args below meth c H locs 0 0 Q (F0 m 0 ls [])) : MetI l y wsl rm D tys w sz av res w' := by
  refine Met.ofW (cc := cc) (maxL := maxL) (ret := (some .boolean)) hy hwsl ?_
  intro p e s m args below meth c s₁ B hml hv
  obtain ⟨rfl, hsz, hP, hK, hD0, hZ⟩ := hv
  have hx := B.exec
  have hb := B.bytes
  have hr := B.returns
  have hts := atoms_spec (ws := wsl) B.pre
  have hown : s.vm.findClass y.cls = some m.cls := findClass_of_methodNamed B.named
  have hlocks := B.notSynchronized
  subst hsz
  subst ho
  have hl := lv_entry av (n := maxL) hlen
  rw [lg_entry_eq]
  exact body p e s m _ below meth c (va_A w s.heap.size) _ _ s.heap [] ⟨⟨hx, hb, hml, hown, hts⟩, hlocks⟩ hr ⟨hK, hP, hD0.self (sz := s.heap.size), va_S.rf, (fun q h => Or.inr h), hZ⟩ hl rfl
theorem entL {l : Launch} {y : MethodName} {wsl ws2 : List Cond} {rm : Room} {D : va_G} {tys : List (ClassId × FieldType)} {w : va_W} {sz : Nat} {av : List Value} {res : Int64} {w' : va_W} {cc : ByteArray} {maxL : Nat} {own : String} (hy : plainName y.cls = true) (ho : y.cls = own) (hwsl : wsl = Cond.code y cc maxL (some .long) :: ws2) (hlen : (lg_sl av).length ≤ maxL)
    (body : ∀ (p : Program) (e : Env) (s : State) (m : MethodId) (args : Array Value) (below : List Frame) (meth : Method) (c : Code) (A : Nat → Prop) (ls : Array Slot) (Q : State → Prop) (H : Heap) (locs : List Loc), Fix p m meth c cc maxL s args wsl own → meth.sig.returnType = (some .long) → Wd D tys A s w H locs → lv_has ls maxL (lv_args 0 av) → Q = MQ below (QL D tys A res w') args s 0 0 (A) → W p l e rm s m args below meth c H locs 0 0 Q (F0 m 0 ls [])) : MetL l y wsl rm D tys w sz av res w' := by
  refine Met.ofW (cc := cc) (maxL := maxL) (ret := (some .long)) hy hwsl ?_
  intro p e s m args below meth c s₁ B hml hv
  obtain ⟨rfl, hsz, hP, hK, hD0, hZ⟩ := hv
  have hx := B.exec
  have hb := B.bytes
  have hr := B.returns
  have hts := atoms_spec (ws := wsl) B.pre
  have hown : s.vm.findClass y.cls = some m.cls := findClass_of_methodNamed B.named
  have hlocks := B.notSynchronized
  subst hsz
  subst ho
  have hl := lv_entry av (n := maxL) hlen
  rw [lg_entry_eq]
  exact body p e s m _ below meth c (va_A w s.heap.size) _ _ s.heap [] ⟨⟨hx, hb, hml, hown, hts⟩, hlocks⟩ hr ⟨hK, hP, hD0.self (sz := s.heap.size), va_S.rf, (fun q h => Or.inr h), hZ⟩ hl rfl
theorem entV {l : Launch} {y : MethodName} {wsl ws2 : List Cond} {rm : Room} {D : va_G} {tys : List (ClassId × FieldType)} {w : va_W} {sz : Nat} {av : List Value} {w' : va_W} {cc : ByteArray} {maxL : Nat} {own : String} (hy : plainName y.cls = true) (ho : y.cls = own) (hwsl : wsl = Cond.code y cc maxL none :: ws2) (hlen : (lg_sl av).length ≤ maxL)
    (body : ∀ (p : Program) (e : Env) (s : State) (m : MethodId) (args : Array Value) (below : List Frame) (meth : Method) (c : Code) (A : Nat → Prop) (ls : Array Slot) (Q : State → Prop) (H : Heap) (locs : List Loc), Fix p m meth c cc maxL s args wsl own → meth.sig.returnType = none → Wd D tys A s w H locs → lv_has ls maxL (lv_args 0 av) → Q = MQ below (QV D tys A w') args s 0 0 (A) → W p l e rm s m args below meth c H locs 0 0 Q (F0 m 0 ls [])) : MetV l y wsl rm D tys w sz av w' := by
  refine Met.ofW (cc := cc) (maxL := maxL) (ret := none) hy hwsl ?_
  intro p e s m args below meth c s₁ B hml hv
  obtain ⟨rfl, hsz, hP, hK, hD0, hZ⟩ := hv
  have hx := B.exec
  have hb := B.bytes
  have hr := B.returns
  have hts := atoms_spec (ws := wsl) B.pre
  have hown : s.vm.findClass y.cls = some m.cls := findClass_of_methodNamed B.named
  have hlocks := B.notSynchronized
  subst hsz
  subst ho
  have hl := lv_entry av (n := maxL) hlen
  rw [lg_entry_eq]
  exact body p e s m _ below meth c (va_A w s.heap.size) _ _ s.heap [] ⟨⟨hx, hb, hml, hown, hts⟩, hlocks⟩ hr ⟨hK, hP, hD0.self (sz := s.heap.size), va_S.rf, (fun q h => Or.inr h), hZ⟩ hl rfl
theorem entIr {l : Launch} {y : MethodName} {wsl ws2 : List Cond} {rm : Room} {D : va_G} {tys : List (ClassId × FieldType)} {w : va_W} {sz : Nat} {av : List Value} {res : Int32} {cc : ByteArray} {maxL : Nat} {own : String} (hy : plainName y.cls = true) (ho : y.cls = own) (hwsl : wsl = Cond.code y cc maxL (some .int) :: ws2) (hlen : (lg_sl av).length ≤ maxL)
    (body : ∀ (p : Program) (e : Env) (s : State) (m : MethodId) (args : Array Value) (below : List Frame) (meth : Method) (c : Code) (A : Nat → Prop) (ls : Array Slot) (Q : State → Prop), Fix p m meth c cc maxL s args wsl own → meth.sig.returnType = (some .int) → Wd D tys A s w s.heap [] → lv_has ls maxL (lv_args 0 av) → Q = MQ below (vp_Si (fun r => res = r)) args s 0 0 (fun _ => False) → W p l e rm s m args below meth c s.heap [] 0 0 Q (F0 m 0 ls [])) : MetIr l y wsl rm D tys w sz av res := by
  refine Met.ofW (cc := cc) (maxL := maxL) (ret := (some .int)) hy hwsl ?_
  intro p e s m args below meth c s₁ B hml hv
  obtain ⟨rfl, hsz, hP, hK, hD0, hZ⟩ := hv
  have hx := B.exec
  have hb := B.bytes
  have hr := B.returns
  have hts := atoms_spec (ws := wsl) B.pre
  have hown : s.vm.findClass y.cls = some m.cls := findClass_of_methodNamed B.named
  have hlocks := B.notSynchronized
  subst hsz
  subst ho
  have hl := lv_entry av (n := maxL) hlen
  rw [lg_entry_eq]
  exact body p e s m _ below meth c (va_A w s.heap.size) _ _ ⟨⟨hx, hb, hml, hown, hts⟩, hlocks⟩ hr ⟨hK, hP, hD0.self (sz := s.heap.size), va_S.rf, (fun q h => Or.inr h), hZ⟩ hl rfl
theorem entZr {l : Launch} {y : MethodName} {wsl ws2 : List Cond} {rm : Room} {D : va_G} {tys : List (ClassId × FieldType)} {w : va_W} {sz : Nat} {av : List Value} {res : Int32} {cc : ByteArray} {maxL : Nat} {own : String} (hy : plainName y.cls = true) (ho : y.cls = own) (hwsl : wsl = Cond.code y cc maxL (some .boolean) :: ws2) (hlen : (lg_sl av).length ≤ maxL)
    (body : ∀ (p : Program) (e : Env) (s : State) (m : MethodId) (args : Array Value) (below : List Frame) (meth : Method) (c : Code) (A : Nat → Prop) (ls : Array Slot) (Q : State → Prop), Fix p m meth c cc maxL s args wsl own → meth.sig.returnType = (some .boolean) → Wd D tys A s w s.heap [] → lv_has ls maxL (lv_args 0 av) → Q = MQ below (vp_Si (fun r => res = r)) args s 0 0 (fun _ => False) → W p l e rm s m args below meth c s.heap [] 0 0 Q (F0 m 0 ls [])) : MetIr l y wsl rm D tys w sz av res := by
  refine Met.ofW (cc := cc) (maxL := maxL) (ret := (some .boolean)) hy hwsl ?_
  intro p e s m args below meth c s₁ B hml hv
  obtain ⟨rfl, hsz, hP, hK, hD0, hZ⟩ := hv
  have hx := B.exec
  have hb := B.bytes
  have hr := B.returns
  have hts := atoms_spec (ws := wsl) B.pre
  have hown : s.vm.findClass y.cls = some m.cls := findClass_of_methodNamed B.named
  have hlocks := B.notSynchronized
  subst hsz
  subst ho
  have hl := lv_entry av (n := maxL) hlen
  rw [lg_entry_eq]
  exact body p e s m _ below meth c (va_A w s.heap.size) _ _ ⟨⟨hx, hb, hml, hown, hts⟩, hlocks⟩ hr ⟨hK, hP, hD0.self (sz := s.heap.size), va_S.rf, (fun q h => Or.inr h), hZ⟩ hl rfl
theorem entLr {l : Launch} {y : MethodName} {wsl ws2 : List Cond} {rm : Room} {D : va_G} {tys : List (ClassId × FieldType)} {w : va_W} {sz : Nat} {av : List Value} {res : Int64} {cc : ByteArray} {maxL : Nat} {own : String} (hy : plainName y.cls = true) (ho : y.cls = own) (hwsl : wsl = Cond.code y cc maxL (some .long) :: ws2) (hlen : (lg_sl av).length ≤ maxL)
    (body : ∀ (p : Program) (e : Env) (s : State) (m : MethodId) (args : Array Value) (below : List Frame) (meth : Method) (c : Code) (A : Nat → Prop) (ls : Array Slot) (Q : State → Prop), Fix p m meth c cc maxL s args wsl own → meth.sig.returnType = (some .long) → Wd D tys A s w s.heap [] → lv_has ls maxL (lv_args 0 av) → Q = MQ below (vp_Sl (fun r => res = r)) args s 0 0 (fun _ => False) → W p l e rm s m args below meth c s.heap [] 0 0 Q (F0 m 0 ls [])) : MetLr l y wsl rm D tys w sz av res := by
  refine Met.ofW (cc := cc) (maxL := maxL) (ret := (some .long)) hy hwsl ?_
  intro p e s m args below meth c s₁ B hml hv
  obtain ⟨rfl, hsz, hP, hK, hD0, hZ⟩ := hv
  have hx := B.exec
  have hb := B.bytes
  have hr := B.returns
  have hts := atoms_spec (ws := wsl) B.pre
  have hown : s.vm.findClass y.cls = some m.cls := findClass_of_methodNamed B.named
  have hlocks := B.notSynchronized
  subst hsz
  subst ho
  have hl := lv_entry av (n := maxL) hlen
  rw [lg_entry_eq]
  exact body p e s m _ below meth c (va_A w s.heap.size) _ _ ⟨⟨hx, hb, hml, hown, hts⟩, hlocks⟩ hr ⟨hK, hP, hD0.self (sz := s.heap.size), va_S.rf, (fun q h => Or.inr h), hZ⟩ hl rfl
section CR
variable {p : Program} {l : Launch} {e : Env} {R : Room} {s : State} {m : MethodId} {args : Array Value} {below : List Frame} {meth : Method} {c : Code} {H : Heap} {locs : List Loc} {cells slots : Nat} {Q : State → Prop}
variable {D : va_G} {tys : List (ClassId × FieldType)} {A : Nat → Prop} {ws : va_W} {cc : ByteArray} {nL pc : Nat} {Ts : List Cond} {own : String} {ls : Array Slot} {rest : List Value}
-- fields
def FLk (s : State) (args : Array Value) (Ts : List Cond) (own : String) (index : Nat) (C : String) (T : u_T) (N ci k : Nat) : Prop := (∀ w ∈ u_ws C T N, w ∈ Ts) ∧ vwCl[ci]? = some (C, T, N) ∧ k < N ∧ (Cond.fieldLink own index (T k).1 (T k).2.1 (T k).2.2.1).before args s = true
def PLk (T : u_T) (N k : Nat) (ty0 : Nat → FieldType) (fin : Bool) (ty : FieldType) : Prop := (∀ k, k < N → parseFieldDescriptor (T k).2.2.1 = some (ty0 k)) ∧ (∀ a, a < N → ∀ b, b < N → a ≠ b → (T a).2.1 ≠ (T b).2.1) ∧ (T k).2.2.2 = fin ∧ ty0 k = ty
theorem z_get {C : String} {T : u_T} {N ci k index : Nat} {a : Nat} (S : Fix p m meth c cc nL s args Ts own) (hw : Wd D tys A s ws H locs) (F : FLk s args Ts own index C T N ci k) (q0 : Nat) {fs : List Value} {v : Value} (he : ws[q0]? = some (a, .inr (ci, fs))) (hv : fs[k]? = some v) (hdg : decode cc pc = .ok (.getfield index, 3))
    (kk : W p l e R s m args below meth c H locs cells slots Q (F0 m (pc + 3) ls (v :: rest))) : W p l e R s m args below meth c H locs cells slots Q (F0 m pc ls (.ref a :: rest)) :=
  va_get S.1.1 S.1.2.1 S.1.2.2.2.2 F.1 S.1.2.2.2.1 hw.1 hw.2.1 q0 he F.2.1 k F.2.2.1 F.2.2.2 (fun _ h => h) hv hdg kk
theorem z_put {C : String} {T : u_T} {N ci k index : Nat} {a : Nat} {ty0 : Nat → FieldType} {ty : FieldType} {v : Value} (S : Fix p m meth c cc nL s args Ts own) (hw : Wd D tys A s ws H locs) (F : FLk s args Ts own index C T N ci k) (P : PLk T N k ty0 false ty) (hn : narrow ty v = v) (hfit : fits ty v = true) (q0 : Nat) {fs : List Value} (he : ws[q0]? = some (a, .inr (ci, fs))) (hl : k < fs.length) (hdg : decode cc pc = .ok (.putfield index, 3))
    (kk : ∀ (H : Heap) (locs : List Loc), Wd D tys A s (ws.set q0 (a, .inr (ci, fs.set k v))) H locs → W p l e R s m args below meth c H locs cells slots Q (F0 m (pc + 3) ls rest)) : W p l e R s m args below meth c H locs cells slots Q (F0 m pc ls (v :: .ref a :: rest)) :=
  va_put S.1.1 S.1.2.1 S.1.2.2.2.2 F.1 ty0 P.1 P.2.1 S.1.2.2.2.1 hw.1 hw.2.1 hw.2.2.1 hw.2.2.2.1 q0 he F.2.1 k F.2.2.1 F.2.2.2 (fun _ h => h) P.2.2.1 (by rw [P.1 k F.2.2.1, P.2.2.2]) hn hfit hl hdg (fun H1 locs1 h1 h2 h3 => kk H1 locs1 ⟨hw.1, h1, h2, h3, hw.2.2.2.2⟩)
theorem z_putF {C : String} {T : u_T} {N ci k index : Nat} {a : Nat} {ty0 : Nat → FieldType} {ty : FieldType} {v : Value} (S : Fix p m meth c cc nL s args Ts own) (hin2 : meth.name = "<init>") (hw : Wd D tys A s ws H locs) (F : FLk s args Ts own index C T N ci k) (P : PLk T N k ty0 true ty) (hdecl : (T k).1 = own) (hn : narrow ty v = v) (hfit : fits ty v = true) (q0 : Nat) {fs : List Value} (he : ws[q0]? = some (a, .inr (ci, fs))) (hl : k < fs.length) (hdg : decode cc pc = .ok (.putfield index, 3))
    (kk : ∀ (H : Heap) (locs : List Loc), Wd D tys A s (ws.set q0 (a, .inr (ci, fs.set k v))) H locs → W p l e R s m args below meth c H locs cells slots Q (F0 m (pc + 3) ls rest)) : W p l e R s m args below meth c H locs cells slots Q (F0 m pc ls (v :: .ref a :: rest)) :=
  va_putF S.1.1 S.1.2.1 S.1.2.2.2.2 F.1 ty0 P.1 P.2.1 S.1.2.2.2.1 hw.1 hw.2.1 hw.2.2.1 hw.2.2.2.1 q0 he F.2.1 k F.2.2.1 F.2.2.2 (fun _ h => h) P.2.2.1 hin2 hdecl (by rw [P.1 k F.2.2.1, P.2.2.2]) hn hfit hl hdg (fun H1 locs1 h1 h2 h3 => kk H1 locs1 ⟨hw.1, h1, h2, h3, hw.2.2.2.2⟩)
-- arrays
theorem z_iald {a : Nat} {cA : ClassId} {n : Nat} {f : Nat → Int32} {i : Int32} (S : Fix p m meth c cc nL s args Ts own) (hw : Wd D tys A s ws H locs) (q0 t0 : Nat) (ha : ws[q0]? = some (a, .inl (cA, n, .inl f))) (ht : tys[t0]? = some (cA, .int)) (hin : inb i n = true) (hdg : decode cc pc = .ok (.iaload, 1))
    (kk : W p l e R s m args below meth c H locs cells slots Q (F0 m (pc + 1) ls (.int (f i.toNatClampNeg) :: rest))) : W p l e R s m args below meth c H locs cells slots Q (F0 m pc ls (.int i :: .ref a :: rest)) :=
  va_iald S.1.1 S.1.2.1 hw.1 hw.2.1 q0 t0 ha ht (inb_in hin) hdg kk
theorem z_zald {a : Nat} {cA : ClassId} {n : Nat} {f : Nat → Int32} {i : Int32} (S : Fix p m meth c cc nL s args Ts own) (hw : Wd D tys A s ws H locs) (q0 t0 : Nat) (ha : ws[q0]? = some (a, .inl (cA, n, .inl f))) (ht : tys[t0]? = some (cA, .boolean)) (hin : inb i n = true) (hdg : decode cc pc = .ok (.baload, 1))
    (kk : W p l e R s m args below meth c H locs cells slots Q (F0 m (pc + 1) ls (.int (f i.toNatClampNeg) :: rest))) : W p l e R s m args below meth c H locs cells slots Q (F0 m pc ls (.int i :: .ref a :: rest)) :=
  va_zald S.1.1 S.1.2.1 hw.1 hw.2.1 q0 t0 ha ht (inb_in hin) hdg kk
theorem z_lald {a : Nat} {cA : ClassId} {n : Nat} {f : Nat → Int64} {i : Int32} (S : Fix p m meth c cc nL s args Ts own) (hw : Wd D tys A s ws H locs) (q0 t0 : Nat) (ha : ws[q0]? = some (a, .inl (cA, n, .inr (.inl f)))) (ht : tys[t0]? = some (cA, .long)) (hin : inb i n = true) (hdg : decode cc pc = .ok (.laload, 1))
    (kk : W p l e R s m args below meth c H locs cells slots Q (F0 m (pc + 1) ls (.long (f i.toNatClampNeg) :: rest))) : W p l e R s m args below meth c H locs cells slots Q (F0 m pc ls (.int i :: .ref a :: rest)) :=
  va_lald S.1.1 S.1.2.1 hw.1 hw.2.1 q0 t0 ha ht (inb_in hin) hdg kk
theorem z_aldq {a : Nat} {cA : ClassId} {C : String} {n : Nat} {f : Nat → Option Nat} {i : Int32} {v : Value} (S : Fix p m meth c cc nL s args Ts own) (hw : Wd D tys A s ws H locs) (q0 t0 : Nat) (ha : ws[q0]? = some (a, .inl (cA, n, .inr (.inr (.inr (.inr f)))))) (ht : tys[t0]? = some (cA, .object C)) (hin : vp_in i n) (hv : va_rf (f i.toNatClampNeg) = v) (hdg : decode cc pc = .ok (.aaload, 1))
    (kk : W p l e R s m args below meth c H locs cells slots Q (F0 m (pc + 1) ls (v :: rest))) : W p l e R s m args below meth c H locs cells slots Q (F0 m pc ls (.int i :: .ref a :: rest)) :=
  va_aldq S.1.1 S.1.2.1 hw.1 hw.2.1 q0 t0 ha ht hin hdg (by rw [hv]; exact kk)
theorem z_iast {a : Nat} {cA : ClassId} {n : Nat} {f f1 : Nat → Int32} {i x : Int32} (S : Fix p m meth c cc nL s args Ts own) (hw : Wd D tys A s ws H locs) (ef : f1 = upd f i.toNatClampNeg x) (q0 t0 : Nat) (ha : ws[q0]? = some (a, .inl (cA, n, .inl f))) (ht : tys[t0]? = some (cA, .int)) (hin : inb i n = true) (hdg : decode cc pc = .ok (.iastore, 1))
    (kk : ∀ (H : Heap) (locs : List Loc), Wd D tys A s (ws.set q0 (a, .inl (cA, n, .inl f1))) H locs → W p l e R s m args below meth c H locs cells slots Q (F0 m (pc + 1) ls rest)) : W p l e R s m args below meth c H locs cells slots Q (F0 m pc ls (.int x :: .int i :: .ref a :: rest)) := by
  subst ef
  exact va_iast S.1.1 S.1.2.1 hw.1 hw.2.1 hw.2.2.1 hw.2.2.2.1 q0 t0 ha ht (inb_in hin) hdg (fun H1 locs1 h1 h2 h3 => kk H1 locs1 ⟨hw.1, h1, h2, h3, hw.2.2.2.2⟩)
theorem z_zast {a : Nat} {cA : ClassId} {n : Nat} {f f1 : Nat → Int32} {i x : Int32} (S : Fix p m meth c cc nL s args Ts own) (hw : Wd D tys A s ws H locs) (ef : f1 = upd f i.toNatClampNeg (vp_nar .boolean x)) (q0 t0 : Nat) (ha : ws[q0]? = some (a, .inl (cA, n, .inl f))) (ht : tys[t0]? = some (cA, .boolean)) (hin : inb i n = true) (hdg : decode cc pc = .ok (.bastore, 1))
    (kk : ∀ (H : Heap) (locs : List Loc), Wd D tys A s (ws.set q0 (a, .inl (cA, n, .inl f1))) H locs → W p l e R s m args below meth c H locs cells slots Q (F0 m (pc + 1) ls rest)) : W p l e R s m args below meth c H locs cells slots Q (F0 m pc ls (.int x :: .int i :: .ref a :: rest)) := by
  subst ef
  exact va_zast S.1.1 S.1.2.1 hw.1 hw.2.1 hw.2.2.1 hw.2.2.2.1 q0 t0 ha ht (inb_in hin) hdg (fun H1 locs1 h1 h2 h3 => kk H1 locs1 ⟨hw.1, h1, h2, h3, hw.2.2.2.2⟩)
theorem z_last {a : Nat} {cA : ClassId} {n : Nat} {f f1 : Nat → Int64} {i : Int32} {x : Int64} (S : Fix p m meth c cc nL s args Ts own) (hw : Wd D tys A s ws H locs) (ef : f1 = vp_updL f i.toNatClampNeg x) (q0 t0 : Nat) (ha : ws[q0]? = some (a, .inl (cA, n, .inr (.inl f)))) (ht : tys[t0]? = some (cA, .long)) (hin : inb i n = true) (hdg : decode cc pc = .ok (.lastore, 1))
    (kk : ∀ (H : Heap) (locs : List Loc), Wd D tys A s (ws.set q0 (a, .inl (cA, n, .inr (.inl f1)))) H locs → W p l e R s m args below meth c H locs cells slots Q (F0 m (pc + 1) ls rest)) : W p l e R s m args below meth c H locs cells slots Q (F0 m pc ls (.long x :: .int i :: .ref a :: rest)) := by
  subst ef
  exact va_last S.1.1 S.1.2.1 hw.1 hw.2.1 hw.2.2.1 hw.2.2.2.1 q0 t0 ha ht (inb_in hin) hdg (fun H1 locs1 h1 h2 h3 => kk H1 locs1 ⟨hw.1, h1, h2, h3, hw.2.2.2.2⟩)
-- the static row ORDERS
theorem z_gets {index : Nat} (S : Fix p m meth c cc nL s args Ts own) (hw : Wd D tys A s ws H locs) (hlink : (Cond.fieldLink own index "SlowPaths" "ORDERS" "[I").before args s = true) (hdg : decode cc pc = .ok (.getstatic index, 3))
    (kk : ∀ t : Nat, va_T .int t 9 (fun j => .int (ordN j)) A s s.heap → W p l e R s m args below meth c H locs cells slots Q (F0 m (pc + 3) ls (.ref t :: rest))) : W p l e R s m args below meth c H locs cells slots Q (F0 m pc ls rest) := by
  obtain ⟨t, h1, h2⟩ := hw.2.2.2.2.2
  exact va_gets S.1.1 S.1.2.1 h1 hw.2.2.2.1 S.1.2.2.2.1 hlink (fun _ h => h) hdg (kk t h2)
theorem z_tald {t : Nat} {i : Int32} (S : Fix p m meth c cc nL s args Ts own) (hw : Wd D tys A s ws H locs) (hT : va_T .int t 9 (fun j => .int (ordN j)) A s s.heap) (hin : inb i 9 = true) (hdg : decode cc pc = .ok (.iaload, 1))
    (kk : W p l e R s m args below meth c H locs cells slots Q (F0 m (pc + 1) ls (.int (ordN i.toNatClampNeg) :: rest))) : W p l e R s m args below meth c H locs cells slots Q (F0 m pc ls (.int i :: .ref t :: rest)) :=
  va_ti S.1.1 S.1.2.1 hT hw.2.2.2.1 (inb_in hin) rfl hdg kk
theorem z_tlen {t : Nat} (S : Fix p m meth c cc nL s args Ts own) (hw : Wd D tys A s ws H locs) (hT : va_T .int t 9 (fun j => .int (ordN j)) A s s.heap) (hdg : decode cc pc = .ok (.arraylength, 1))
    (kk : W p l e R s m args below meth c H locs cells slots Q (F0 m (pc + 1) ls (.int 9 :: rest))) : W p l e R s m args below meth c H locs cells slots Q (F0 m pc ls (.ref t :: rest)) :=
  va_tlen S.1.1 S.1.2.1 hT hw.2.2.2.1 (by decide) hdg kk
-- returns
theorem z_iret {v : Int32} {w' : va_W} (S : Fix p m meth c cc nL s args Ts own) (hQ : Q = MQ below (QI D tys A v w') args s 0 0 A) (hr : meth.sig.returnType = some .int) (hw : Wd D tys A s ws H locs) (is : List Nat) (hn : va_nd is = true) (hs : is.map (fun i => ws[i]?) = w'.map some) (hdg : decode cc pc = .ok (.ireturn, 1)) : W p l e R s m args below meth c H locs 0 0 Q (F0 m pc ls [.int v]) := by
  subst hQ
  have hlocks := S.2
  have h9 := hw.sub is hn hs
  exact W.iret S.1.1 S.1.2.1 hr (fun t ht hW => ⟨⟨v, (), rfl, rfl, by rw [ht]; exact h9.2.1, va_K.moved hW.alike h9.1, h9.2.2.1⟩, h9.2.2.2.1.F ht⟩) h9.2.2.2.1.2.2 hdg
theorem z_zret {v : Int32} {w' : va_W} (S : Fix p m meth c cc nL s args Ts own) (hQ : Q = MQ below (QI D tys A v w') args s 0 0 A) (hr : meth.sig.returnType = some .boolean) (hv : narrow .boolean (.int v) = .int v) (hw : Wd D tys A s ws H locs) (is : List Nat) (hn : va_nd is = true) (hs : is.map (fun i => ws[i]?) = w'.map some) (hdg : decode cc pc = .ok (.ireturn, 1)) : W p l e R s m args below meth c H locs 0 0 Q (F0 m pc ls [.int v]) := by
  subst hQ
  have hlocks := S.2
  have h9 := hw.sub is hn hs
  exact W.zret S.1.1 S.1.2.1 hr hv (fun t ht hW => ⟨⟨v, (), rfl, rfl, by rw [ht]; exact h9.2.1, va_K.moved hW.alike h9.1, h9.2.2.1⟩, h9.2.2.2.1.F ht⟩) h9.2.2.2.1.2.2 hdg
theorem z_lret {v : Int64} {w' : va_W} (S : Fix p m meth c cc nL s args Ts own) (hQ : Q = MQ below (QL D tys A v w') args s 0 0 A) (hr : meth.sig.returnType = some .long) (hw : Wd D tys A s ws H locs) (is : List Nat) (hn : va_nd is = true) (hs : is.map (fun i => ws[i]?) = w'.map some) (hdg : decode cc pc = .ok (.lreturn, 1)) : W p l e R s m args below meth c H locs 0 0 Q (F0 m pc ls [.long v]) := by
  subst hQ
  have hlocks := S.2
  have h9 := hw.sub is hn hs
  exact W.lret S.1.1 S.1.2.1 hr (fun t ht hW => ⟨⟨v, (), rfl, rfl, by rw [ht]; exact h9.2.1, va_K.moved hW.alike h9.1, h9.2.2.1⟩, h9.2.2.2.1.F ht⟩) h9.2.2.2.1.2.2 hdg
theorem z_vret {w' : va_W} (S : Fix p m meth c cc nL s args Ts own) (hQ : Q = MQ below (QV D tys A w') args s 0 0 A) (hr : meth.sig.returnType = none) (hw : Wd D tys A s ws H locs) (is : List Nat) (hn : va_nd is = true) (hs : is.map (fun i => ws[i]?) = w'.map some) (hdg : decode cc pc = .ok (.return_, 1)) : W p l e R s m args below meth c H locs 0 0 Q (F0 m pc ls []) := by
  subst hQ
  have hlocks := S.2
  have h9 := hw.sub is hn hs
  exact W.vret S.1.1 S.1.2.1 hr (fun t ht hW => ⟨⟨(), rfl, trivial, by rw [ht]; exact h9.2.1, va_K.moved hW.alike h9.1, h9.2.2.1⟩, h9.2.2.2.1.F ht⟩) h9.2.2.2.1.2.2 hdg
theorem z_iretr {v : Int32} (S : Fix p m meth c cc nL s args Ts own) (hQ : Q = MQ below (vp_Si (fun r => v = r)) args s 0 0 (fun _ => False)) (hr : meth.sig.returnType = some .int) (hdg : decode cc pc = .ok (.ireturn, 1)) : W p l e R s m args below meth c s.heap [] 0 0 Q (F0 m pc ls [.int v]) := by
  subst hQ
  have hlocks := S.2
  exact W.iret S.1.1 S.1.2.1 hr (fun t ht hW => ⟨v, rfl, rfl, ht⟩) (fun _ h => by cases h) hdg
theorem z_zretr {v : Int32} (S : Fix p m meth c cc nL s args Ts own) (hQ : Q = MQ below (vp_Si (fun r => v = r)) args s 0 0 (fun _ => False)) (hr : meth.sig.returnType = some .boolean) (hv : narrow .boolean (.int v) = .int v) (hdg : decode cc pc = .ok (.ireturn, 1)) : W p l e R s m args below meth c s.heap [] 0 0 Q (F0 m pc ls [.int v]) := by
  subst hQ
  have hlocks := S.2
  exact W.zret S.1.1 S.1.2.1 hr hv (fun t ht hW => ⟨v, rfl, rfl, ht⟩) (fun _ h => by cases h) hdg
theorem z_lretr {v : Int64} (S : Fix p m meth c cc nL s args Ts own) (hQ : Q = MQ below (vp_Sl (fun r => v = r)) args s 0 0 (fun _ => False)) (hr : meth.sig.returnType = some .long) (hdg : decode cc pc = .ok (.lreturn, 1)) : W p l e R s m args below meth c s.heap [] 0 0 Q (F0 m pc ls [.long v]) := by
  subst hQ
  have hlocks := S.2
  exact W.lret S.1.1 S.1.2.1 hr (fun t ht hW => ⟨v, rfl, rfl, ht⟩) (fun _ h => by cases h) hdg
-- calls
variable {y : MethodName} {bytes : ByteArray} {maxL n index : Nat} {ret : Option FieldType} {wsl : List Cond} {rm : Room} {C : String} {b : Addr} {As : List Value} {wc wr wc' : va_W} {st : List Value}
theorem Pcw_blind {sz : Nat} {av : List Value} {w : va_W} : FrameBlind (Pcw D tys w sz av) := fun a U g mk q => by
  obtain ⟨q0, q1, qP, qK, qD, qZ⟩ := q
  exact ⟨q0, q1, qP, va_K.moved (u := U) (U := U.calling g mk a) (Vm.Alike.refl U.vm) qK, qD, Zt.moved (u := U) (U := U.calling g mk a) (Vm.Alike.refl U.vm) qZ⟩
theorem Pcw_at {av : List Value} (hw : Wd D tys A s ws H locs) (isC : List Nat) (hnC : va_nd isC = true) (hC : isC.map (fun i => ws[i]?) = wc.map some) : ∀ U : State, U.heap = H → s.WarmedH U.vm → Pcw D tys wc H.size av av.toArray U := fun U hU hW =>
  ⟨rfl, by rw [hU], by rw [hU]; exact (hw.sub isC hnC hC).2.1, va_K.moved hW.alike hw.1, (hw.sub isC hnC hC).2.2.1.weaken (fun _ _ _ _ => trivial), by rw [hU]; exact Zt.moved hW.alike ((hw.2.2.2.2.2.kept hw.2.2.2.1.2.1).narrow (va_free (wc := wc) hw.2.2.1 hw.2.2.2.1 hw.2.2.2.2.1 isC hC))⟩
theorem Wd_join {H1 : Heap} {locs1 : List Loc} {t : State} (hw : Wd D tys A s ws H locs) (isC isR : List Nat) (hC : isC.map (fun i => ws[i]?) = wc.map some) (hR : isR.map (fun i => ws[i]?) = wr.map some) (hn : va_nd isR = true) (hdis : ∀ i ∈ isR, i ∉ isC) (ht : t.heap = H1) (hB : Bw D tys (va_A wc H.size) wc' () t) (hk1 : ∀ q : Nat, q < H.size → ¬ va_A wc H.size q → H1[q]? = H[q]?) (hS1 : va_S A s.heap H1 locs1) : Wd D tys A s (wr ++ wc') H1 locs1 := by
  obtain ⟨hP1, -, hD1⟩ := hB
  rw [ht] at hP1
  have hF := va_free (wc := wc) hw.2.2.1 hw.2.2.2.1 hw.2.2.2.2.1 isC hC
  obtain ⟨hP2, hD2⟩ := va_join (wr := wr) (w1 := wc') hw.2.1 hw.2.2.1 isC isR hC hR hn hdis hk1 hF hP1 hD1
  exact ⟨hw.1, hP2, hD2, hS1, hw.2.2.2.2⟩

theorem zc_VI {res : Int32} {q0 ci : Nat} {fs : List Value} {qc : vw_C} (S : Fix p m meth c cc nL s args Ts own) (hw : Wd D tys A s ws H locs) (hM : MetI l y wsl rm D tys wc H.size (.ref b :: As) res wc') (cw : CallW R s args own C index y bytes maxL ret wsl rm 0 0 n) (isC isR : List Nat) (hC : isC.map (fun i => ws[i]?) = wc.map some) (hR : isR.map (fun i => ws[i]?) = wr.map some) (hnC : va_nd isC = true) (hn : va_nd isR = true) (hdis : ∀ i ∈ isR, i ∉ isC) (hq : wc[q0]? = some (b, .inr (ci, fs))) (hcl : vwCl[ci]? = some qc) (hqc : qc.1 = C) (hlen : As.length = n) (hsize : ls.size = nL) (hst : st = As.reverse ++ .ref b :: rest) (hW : (rest.map fun v => v.category).sum ≤ 8) (hdg : decode cc pc = .ok (.invokevirtual index, 3)) (hf : cells ≤ R.cells ∧ slots ≤ R.slots)
    (kk : ∀ (H : Heap) (locs : List Loc), Wd D tys A s (wr ++ wc') H locs → W p l e R s m args below meth c H locs cells slots Q (F0 m (pc + 3) ls (.int res :: rest))) : W p l e R s m args below meth c H locs cells slots Q (F0 m pc ls st) := by
  have hF := va_free (wc := wc) hw.2.2.1 hw.2.2.2.1 hw.2.2.2.2.1 isC hC
  refine va_calli (va_runV (rest := rest) S.1 hM cw ⟨Pcw_blind, by have h8 := va_recv hw.1 (hw.sub isC hnC hC).2.1 hcl hq; rw [hqc] at h8; exact h8, Pcw_at hw isC hnC hC⟩ rfl hlen hsize hst (lv_room hW) hdg hf) hw.2.2.2.1 (fun q _ h => hF q h) hF (fun r u t H1 locs1 ht hvm hp hB hz1 hk1 hS => ?_)
  cases u
  subst hp
  exact kk H1 locs1 (Wd_join hw isC isR hC hR hn hdis ht hB hk1 hS)
theorem zc_SI {res : Int32} {q0 ci : Nat} {fs : List Value} {qc : vw_C} (S : Fix p m meth c cc nL s args Ts own) (hw : Wd D tys A s ws H locs) (hM : MetI l y wsl rm D tys wc H.size As res wc') (cw : CallB R s args own index y bytes maxL ret wsl rm 0 0 n ∧ (Cond.static y).before args s = true) (isC isR : List Nat) (hC : isC.map (fun i => ws[i]?) = wc.map some) (hR : isR.map (fun i => ws[i]?) = wr.map some) (hnC : va_nd isC = true) (hn : va_nd isR = true) (hdis : ∀ i ∈ isR, i ∉ isC) (hlen : As.length = n) (hsize : ls.size = nL) (hst : st = As.reverse ++ rest) (hW : (rest.map fun v => v.category).sum ≤ 8) (hdg : decode cc pc = .ok (.invokestatic index, 3)) (hf : cells ≤ R.cells ∧ slots ≤ R.slots)
    (kk : ∀ (H : Heap) (locs : List Loc), Wd D tys A s (wr ++ wc') H locs → W p l e R s m args below meth c H locs cells slots Q (F0 m (pc + 3) ls (.int res :: rest))) : W p l e R s m args below meth c H locs cells slots Q (F0 m pc ls st) := by
  have hF := va_free (wc := wc) hw.2.2.1 hw.2.2.2.1 hw.2.2.2.2.1 isC hC
  refine va_calli (va_runS (rest := rest) S.1 hM cw ⟨Pcw_blind, Pcw_at hw isC hnC hC⟩ rfl hlen hsize hst (lv_room hW) hdg hf) hw.2.2.2.1 (fun q _ h => hF q h) hF (fun r u t H1 locs1 ht hvm hp hB hz1 hk1 hS => ?_)
  cases u
  subst hp
  exact kk H1 locs1 (Wd_join hw isC isR hC hR hn hdis ht hB hk1 hS)
theorem zc_VL {res : Int64} {q0 ci : Nat} {fs : List Value} {qc : vw_C} (S : Fix p m meth c cc nL s args Ts own) (hw : Wd D tys A s ws H locs) (hM : MetL l y wsl rm D tys wc H.size (.ref b :: As) res wc') (cw : CallW R s args own C index y bytes maxL ret wsl rm 0 0 n) (isC isR : List Nat) (hC : isC.map (fun i => ws[i]?) = wc.map some) (hR : isR.map (fun i => ws[i]?) = wr.map some) (hnC : va_nd isC = true) (hn : va_nd isR = true) (hdis : ∀ i ∈ isR, i ∉ isC) (hq : wc[q0]? = some (b, .inr (ci, fs))) (hcl : vwCl[ci]? = some qc) (hqc : qc.1 = C) (hlen : As.length = n) (hsize : ls.size = nL) (hst : st = As.reverse ++ .ref b :: rest) (hW : (rest.map fun v => v.category).sum ≤ 8) (hdg : decode cc pc = .ok (.invokevirtual index, 3)) (hf : cells ≤ R.cells ∧ slots ≤ R.slots)
    (kk : ∀ (H : Heap) (locs : List Loc), Wd D tys A s (wr ++ wc') H locs → W p l e R s m args below meth c H locs cells slots Q (F0 m (pc + 3) ls (.long res :: rest))) : W p l e R s m args below meth c H locs cells slots Q (F0 m pc ls st) := by
  have hF := va_free (wc := wc) hw.2.2.1 hw.2.2.2.1 hw.2.2.2.2.1 isC hC
  refine va_calll (va_runV (rest := rest) S.1 hM cw ⟨Pcw_blind, by have h8 := va_recv hw.1 (hw.sub isC hnC hC).2.1 hcl hq; rw [hqc] at h8; exact h8, Pcw_at hw isC hnC hC⟩ rfl hlen hsize hst (lv_room hW) hdg hf) hw.2.2.2.1 (fun q _ h => hF q h) hF (fun r u t H1 locs1 ht hvm hp hB hz1 hk1 hS => ?_)
  cases u
  subst hp
  exact kk H1 locs1 (Wd_join hw isC isR hC hR hn hdis ht hB hk1 hS)
theorem zc_SL {res : Int64} {q0 ci : Nat} {fs : List Value} {qc : vw_C} (S : Fix p m meth c cc nL s args Ts own) (hw : Wd D tys A s ws H locs) (hM : MetL l y wsl rm D tys wc H.size As res wc') (cw : CallB R s args own index y bytes maxL ret wsl rm 0 0 n ∧ (Cond.static y).before args s = true) (isC isR : List Nat) (hC : isC.map (fun i => ws[i]?) = wc.map some) (hR : isR.map (fun i => ws[i]?) = wr.map some) (hnC : va_nd isC = true) (hn : va_nd isR = true) (hdis : ∀ i ∈ isR, i ∉ isC) (hlen : As.length = n) (hsize : ls.size = nL) (hst : st = As.reverse ++ rest) (hW : (rest.map fun v => v.category).sum ≤ 8) (hdg : decode cc pc = .ok (.invokestatic index, 3)) (hf : cells ≤ R.cells ∧ slots ≤ R.slots)
    (kk : ∀ (H : Heap) (locs : List Loc), Wd D tys A s (wr ++ wc') H locs → W p l e R s m args below meth c H locs cells slots Q (F0 m (pc + 3) ls (.long res :: rest))) : W p l e R s m args below meth c H locs cells slots Q (F0 m pc ls st) := by
  have hF := va_free (wc := wc) hw.2.2.1 hw.2.2.2.1 hw.2.2.2.2.1 isC hC
  refine va_calll (va_runS (rest := rest) S.1 hM cw ⟨Pcw_blind, Pcw_at hw isC hnC hC⟩ rfl hlen hsize hst (lv_room hW) hdg hf) hw.2.2.2.1 (fun q _ h => hF q h) hF (fun r u t H1 locs1 ht hvm hp hB hz1 hk1 hS => ?_)
  cases u
  subst hp
  exact kk H1 locs1 (Wd_join hw isC isR hC hR hn hdis ht hB hk1 hS)
theorem zc_VV {q0 ci : Nat} {fs : List Value} {qc : vw_C} (S : Fix p m meth c cc nL s args Ts own) (hw : Wd D tys A s ws H locs) (hM : MetV l y wsl rm D tys wc H.size (.ref b :: As) wc') (cw : CallW R s args own C index y bytes maxL ret wsl rm 0 0 n) (isC isR : List Nat) (hC : isC.map (fun i => ws[i]?) = wc.map some) (hR : isR.map (fun i => ws[i]?) = wr.map some) (hnC : va_nd isC = true) (hn : va_nd isR = true) (hdis : ∀ i ∈ isR, i ∉ isC) (hq : wc[q0]? = some (b, .inr (ci, fs))) (hcl : vwCl[ci]? = some qc) (hqc : qc.1 = C) (hlen : As.length = n) (hsize : ls.size = nL) (hst : st = As.reverse ++ .ref b :: rest) (hW : (rest.map fun v => v.category).sum ≤ 8) (hdg : decode cc pc = .ok (.invokevirtual index, 3)) (hf : cells ≤ R.cells ∧ slots ≤ R.slots)
    (kk : ∀ (H : Heap) (locs : List Loc), Wd D tys A s (wr ++ wc') H locs → W p l e R s m args below meth c H locs cells slots Q (F0 m (pc + 3) ls (rest))) : W p l e R s m args below meth c H locs cells slots Q (F0 m pc ls st) := by
  have hF := va_free (wc := wc) hw.2.2.1 hw.2.2.2.1 hw.2.2.2.2.1 isC hC
  refine va_callv (va_runV (rest := rest) S.1 hM cw ⟨Pcw_blind, by have h8 := va_recv hw.1 (hw.sub isC hnC hC).2.1 hcl hq; rw [hqc] at h8; exact h8, Pcw_at hw isC hnC hC⟩ rfl hlen hsize hst (lv_room hW) hdg hf) hw.2.2.2.1 (fun q _ h => hF q h) hF (fun u t H1 locs1 ht hvm hp hB hz1 hk1 hS => ?_)
  cases u
  skip
  exact kk H1 locs1 (Wd_join hw isC isR hC hR hn hdis ht hB hk1 hS)
theorem zc_SV {q0 ci : Nat} {fs : List Value} {qc : vw_C} (S : Fix p m meth c cc nL s args Ts own) (hw : Wd D tys A s ws H locs) (hM : MetV l y wsl rm D tys wc H.size As wc') (cw : CallB R s args own index y bytes maxL ret wsl rm 0 0 n ∧ (Cond.static y).before args s = true) (isC isR : List Nat) (hC : isC.map (fun i => ws[i]?) = wc.map some) (hR : isR.map (fun i => ws[i]?) = wr.map some) (hnC : va_nd isC = true) (hn : va_nd isR = true) (hdis : ∀ i ∈ isR, i ∉ isC) (hlen : As.length = n) (hsize : ls.size = nL) (hst : st = As.reverse ++ rest) (hW : (rest.map fun v => v.category).sum ≤ 8) (hdg : decode cc pc = .ok (.invokestatic index, 3)) (hf : cells ≤ R.cells ∧ slots ≤ R.slots)
    (kk : ∀ (H : Heap) (locs : List Loc), Wd D tys A s (wr ++ wc') H locs → W p l e R s m args below meth c H locs cells slots Q (F0 m (pc + 3) ls (rest))) : W p l e R s m args below meth c H locs cells slots Q (F0 m pc ls st) := by
  have hF := va_free (wc := wc) hw.2.2.1 hw.2.2.2.1 hw.2.2.2.2.1 isC hC
  refine va_callv (va_runS (rest := rest) S.1 hM cw ⟨Pcw_blind, Pcw_at hw isC hnC hC⟩ rfl hlen hsize hst (lv_room hW) hdg hf) hw.2.2.2.1 (fun q _ h => hF q h) hF (fun u t H1 locs1 ht hvm hp hB hz1 hk1 hS => ?_)
  cases u
  skip
  exact kk H1 locs1 (Wd_join hw isC isR hC hR hn hdis ht hB hk1 hS)
theorem zr_VI {res : Int32} {q0 ci : Nat} {fs : List Value} {qc : vw_C} (S : Fix p m meth c cc nL s args Ts own) (hw : Wd D tys A s ws H locs) (hM : MetIr l y wsl rm D tys wc H.size (.ref b :: As) res) (cw : CallW R s args own C index y bytes maxL ret wsl rm 0 0 n) (isC : List Nat) (hC : isC.map (fun i => ws[i]?) = wc.map some) (hnC : va_nd isC = true) (hq : wc[q0]? = some (b, .inr (ci, fs))) (hcl : vwCl[ci]? = some qc) (hqc : qc.1 = C) (hlen : As.length = n) (hsize : ls.size = nL) (hst : st = As.reverse ++ .ref b :: rest) (hW : (rest.map fun v => v.category).sum ≤ 8) (hdg : decode cc pc = .ok (.invokevirtual index, 3)) (hf : cells ≤ R.cells ∧ slots ≤ R.slots)
    (kk : W p l e R s m args below meth c H locs cells slots Q (F0 m (pc + 3) ls (.int res :: rest))) : W p l e R s m args below meth c H locs cells slots Q (F0 m pc ls st) := by
  refine vp_callSi (W.runV (rest := rest) S.1 hM cw ⟨Pcw_blind, by have h8 := va_recv hw.1 (hw.sub isC hnC hC).2.1 hcl hq; rw [hqc] at h8; exact h8, Pcw_at hw isC hnC hC⟩ rfl hlen hsize hst (lv_room hW) hdg hf) (fun r hp => ?_)
  subst hp
  exact kk
theorem zr_SI {res : Int32} {q0 ci : Nat} {fs : List Value} {qc : vw_C} (S : Fix p m meth c cc nL s args Ts own) (hw : Wd D tys A s ws H locs) (hM : MetIr l y wsl rm D tys wc H.size As res) (cw : CallB R s args own index y bytes maxL ret wsl rm 0 0 n ∧ (Cond.static y).before args s = true) (isC : List Nat) (hC : isC.map (fun i => ws[i]?) = wc.map some) (hnC : va_nd isC = true) (hlen : As.length = n) (hsize : ls.size = nL) (hst : st = As.reverse ++ rest) (hW : (rest.map fun v => v.category).sum ≤ 8) (hdg : decode cc pc = .ok (.invokestatic index, 3)) (hf : cells ≤ R.cells ∧ slots ≤ R.slots)
    (kk : W p l e R s m args below meth c H locs cells slots Q (F0 m (pc + 3) ls (.int res :: rest))) : W p l e R s m args below meth c H locs cells slots Q (F0 m pc ls st) := by
  refine vp_callSi (W.runS (rest := rest) S.1 hM cw ⟨Pcw_blind, Pcw_at hw isC hnC hC⟩ rfl hlen hsize hst (lv_room hW) hdg hf) (fun r hp => ?_)
  subst hp
  exact kk
theorem zr_VL {res : Int64} {q0 ci : Nat} {fs : List Value} {qc : vw_C} (S : Fix p m meth c cc nL s args Ts own) (hw : Wd D tys A s ws H locs) (hM : MetLr l y wsl rm D tys wc H.size (.ref b :: As) res) (cw : CallW R s args own C index y bytes maxL ret wsl rm 0 0 n) (isC : List Nat) (hC : isC.map (fun i => ws[i]?) = wc.map some) (hnC : va_nd isC = true) (hq : wc[q0]? = some (b, .inr (ci, fs))) (hcl : vwCl[ci]? = some qc) (hqc : qc.1 = C) (hlen : As.length = n) (hsize : ls.size = nL) (hst : st = As.reverse ++ .ref b :: rest) (hW : (rest.map fun v => v.category).sum ≤ 8) (hdg : decode cc pc = .ok (.invokevirtual index, 3)) (hf : cells ≤ R.cells ∧ slots ≤ R.slots)
    (kk : W p l e R s m args below meth c H locs cells slots Q (F0 m (pc + 3) ls (.long res :: rest))) : W p l e R s m args below meth c H locs cells slots Q (F0 m pc ls st) := by
  refine vp_callSl (W.runV (rest := rest) S.1 hM cw ⟨Pcw_blind, by have h8 := va_recv hw.1 (hw.sub isC hnC hC).2.1 hcl hq; rw [hqc] at h8; exact h8, Pcw_at hw isC hnC hC⟩ rfl hlen hsize hst (lv_room hW) hdg hf) (fun r hp => ?_)
  subst hp
  exact kk
theorem zr_SL {res : Int64} {q0 ci : Nat} {fs : List Value} {qc : vw_C} (S : Fix p m meth c cc nL s args Ts own) (hw : Wd D tys A s ws H locs) (hM : MetLr l y wsl rm D tys wc H.size As res) (cw : CallB R s args own index y bytes maxL ret wsl rm 0 0 n ∧ (Cond.static y).before args s = true) (isC : List Nat) (hC : isC.map (fun i => ws[i]?) = wc.map some) (hnC : va_nd isC = true) (hlen : As.length = n) (hsize : ls.size = nL) (hst : st = As.reverse ++ rest) (hW : (rest.map fun v => v.category).sum ≤ 8) (hdg : decode cc pc = .ok (.invokestatic index, 3)) (hf : cells ≤ R.cells ∧ slots ≤ R.slots)
    (kk : W p l e R s m args below meth c H locs cells slots Q (F0 m (pc + 3) ls (.long res :: rest))) : W p l e R s m args below meth c H locs cells slots Q (F0 m pc ls st) := by
  refine vp_callSl (W.runS (rest := rest) S.1 hM cw ⟨Pcw_blind, Pcw_at hw isC hnC hC⟩ rfl hlen hsize hst (lv_room hW) hdg hf) (fun r hp => ?_)
  subst hp
  exact kk
end CR
-- classes of arrays
def slF (a b : Nat) : Nat → Option Nat := va_up (va_up (fun _ => none) 0 (some a)) 1 (some b)
abbrev tyA (cI cJ cZ cS : ClassId) : List (ClassId × FieldType) := [(cI, .int), (cJ, .long), (cZ, .boolean), (cS, .object "SlowPaths$Setting")]
theorem tb_out {x : Int32} {lo hi : Int} (h : ∀ j : Int, lo ≤ j → j ≤ hi → ¬ x = Int32.ofInt j) : x.toInt < lo ∨ hi < x.toInt := by
  by_cases h1 : x.toInt < lo
  · exact Or.inl h1
  · by_cases h2 : hi < x.toInt
    · exact Or.inr h2
    · exact absurd (Int32.ofInt_toInt x).symm (h x.toInt (by omega) (by omega))

