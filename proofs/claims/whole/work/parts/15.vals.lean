-- VALUES: small tables by the kernel, then the class's and the reference's loops
theorem made_tab : ∀ k, k < 5 → ∀ a, a < 4 → ∀ b, b < 4 → f_X1_made 0 (nI k) (nI a) (nI b) = some (nI (mk4 k a b)) := by decide +kernel
theorem made_eq (N : Nat) {k a b : Nat} (hk : k ≤ 4) (ha : a < 4) (hb : b < 4) : f_X1_made N (nI k) (nI a) (nI b) = some (nI (mk4 k a b)) := made_tab k (by omega) a ha b hb
theorem valueOf_tab : ∀ k, k < 5 → ∀ a, a < 4 → ∀ b, b < 4 → f_X10_valueOf 0 (nI k) (nI a) (nI b) = some (nI (mk4 k a b)) := by decide +kernel
theorem valueOf_eq (N : Nat) {k a b : Nat} (hk : k ≤ 4) (ha : a < 4) (hb : b < 4) : f_X10_valueOf N (nI k) (nI a) (nI b) = some (nI (mk4 k a b)) := valueOf_tab k (by omega) a ha b hb
/-- a gate's value of bits -/
def mk1 (k a b : Nat) : Nat := if k = 0 then a * b else if k = 1 then a + b - a * b else if k = 2 then 1 - a * b else if k = 3 then 1 - (a + b - a * b) else 1 - a
theorem makes_tab : ∀ k, k < 5 → ∀ a, a < 2 → ∀ b, b < 2 → f_X10_makes 0 (nI k) (nI a) (nI b) = some (nI (mk1 k a b)) := by decide +kernel
theorem makes_eq (N : Nat) {k a b : Nat} (hk : k ≤ 4) (ha : a < 2) (hb : b < 2) : f_X10_makes N (nI k) (nI a) (nI b) = some (nI (mk1 k a b)) := makes_tab k (by omega) a ha b hb
theorem mk1_lt : ∀ k, k < 5 → ∀ a, a < 2 → ∀ b, b < 2 → mk1 k a b < 2 := by decide
theorem mk4_lt : ∀ k, k < 5 → ∀ a, a < 4 → ∀ b, b < 4 → mk4 k a b < 4 ∧ mk4 k a b % 2 = mk1 k (a % 2) (b % 2) ∧ (a < 2 → b < 2 → mk4 k a b = mk1 k a b) := by decide +kernel
/-- what a pattern makes of the signals, the first so many gates made -/
def Bs (L R κ : Nat → Nat) (pat : Nat) : Nat → Nat → Nat
  | 0, s => bitN pat s
  | g + 1, s => if s = 4 + g then mk1 (κ g) (Bs L R κ pat g (L g)) (Bs L R κ pat g (R g)) else Bs L R κ pat g s
theorem bitN_lt (v i : Nat) : bitN v i < 2 := Nat.mod_lt _ (by decide)
theorem V0_lt (pair s : Nat) : V0 pair s < 4 := by
  have h1 := bitN_lt (pair % 16) s
  unfold V0
  split <;> omega
theorem V0_mod (pair s : Nat) : V0 pair s % 2 = bitN (pair % 16) s := by
  have h1 := bitN_lt (pair % 16) s
  unfold V0
  split <;> omega
theorem V0_ge (pair s : Nat) : V0 pair s < 2 ↔ bitN (pair / 16) s = bitN (pair % 16) s := by
  have h1 := bitN_lt (pair % 16) s
  unfold V0
  split
  · constructor
    · intro _; assumption
    · intro _; exact h1
  · constructor
    · intro _; omega
    · intro _; contradiction
section VV
variable {n G : Nat} {L R κ : Nat → Nat} {nt : Nat → Bool}
theorem Bs_lt (hκ : ∀ g, g < G → κ g ≤ 4) (pat : Nat) : ∀ g, g ≤ G → ∀ s, Bs L R κ pat g s < 2
  | 0, _, s => bitN_lt pat s
  | g + 1, h, s => by
    rw [Bs]
    split
    · exact mk1_lt _ (by have := hκ g (by omega); omega) _ (Bs_lt hκ pat g (by omega) _) _ (Bs_lt hκ pat g (by omega) _)
    · exact Bs_lt hκ pat g (by omega) s
theorem Vs_lt (hκ : ∀ g, g < G → κ g ≤ 4) (pair : Nat) : ∀ g, g ≤ G → ∀ s, Vs L R κ pair g s < 4
  | 0, _, s => V0_lt pair s
  | g + 1, h, s => by
    rw [Vs]
    split
    · exact (mk4_lt _ (by have := hκ g (by omega); omega) _ (Vs_lt hκ pair g (by omega) _) _ (Vs_lt hκ pair g (by omega) _)).1
    · exact Vs_lt hκ pair g (by omega) s
theorem Vs_mod (hκ : ∀ g, g < G → κ g ≤ 4) (pair : Nat) : ∀ g, g ≤ G → ∀ s, Vs L R κ pair g s % 2 = Bs L R κ (pair % 16) g s
  | 0, _, s => V0_mod pair s
  | g + 1, h, s => by
    rw [Vs, Bs]
    split
    · rw [(mk4_lt _ (by have := hκ g (by omega); omega) _ (Vs_lt hκ pair g (by omega) _) _ (Vs_lt hκ pair g (by omega) _)).2.1, Vs_mod hκ pair g (by omega), Vs_mod hκ pair g (by omega)]
    · exact Vs_mod hκ pair g (by omega) s
theorem Vs_stay (pair : Nat) {g : Nat} : ∀ k s, s < 4 + g → Vs L R κ pair (g + k) s = Vs L R κ pair g s
  | 0, _, _ => rfl
  | k + 1, s, h => by
    rw [← Nat.add_assoc, Vs, if_neg (by omega)]
    exact Vs_stay pair k s h
theorem Vs_at (pair : Nat) {g s : Nat} (hg : g ≤ G) (h : s < 4 + g) : Vs L R κ pair G s = Vs L R κ pair g s := by
  have e := Vs_stay (L := L) (R := R) (κ := κ) pair (g := g) (G - g) s h
  rw [show g + (G - g) = G by omega] at e
  exact e
theorem Bs_stay (pat : Nat) {g : Nat} : ∀ k s, s < 4 + g → Bs L R κ pat (g + k) s = Bs L R κ pat g s
  | 0, _, _ => rfl
  | k + 1, s, h => by
    rw [← Nat.add_assoc, Bs, if_neg (by omega)]
    exact Bs_stay pat k s h
end VV
theorem sh1 {v k : Nat} (hv : v < 2 ^ 31) (hk : k < 32) : (nI v >>> (nI k &&& 31)) &&& 1 = nI (bitN v k) := bit_nI hv hk
theorem d16 {p : Nat} (hp : p < 2 ^ 31) : nI p / (16 : Int32) = nI (p / 16) := pk_div hp (by decide) (by decide)
theorem r16 {p : Nat} (hp : p < 2 ^ 31) : nI p - nI p / (16 : Int32) * 16 = nI (p % 16) := pk_rem hp (by decide) (by decide)
theorem bitN_pair (p i : Nat) (hi : i < 4) : bitN p (4 + i) = bitN (p / 16) i ∧ bitN p i = bitN (p % 16) i := by
  unfold bitN
  rcases (show i = 0 ∨ i = 1 ∨ i = 2 ∨ i = 3 by omega) with rfl | rfl | rfl | rfl <;> constructor <;> omega
-- signals by the class's code
def unc (c : Nat) : Nat := if c < 10 then c else c - 6
theorem cs_in {n g s : Nat} (h : Sg n g s) (hn : n ≤ 4) (hg : g ≤ 8) : cs s < 18 ∧ cs s < 10 + g := by
  unfold cs
  rcases h with h | h <;> split <;> omega
