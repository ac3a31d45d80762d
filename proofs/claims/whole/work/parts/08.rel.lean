-- THE RELATION between the class and the reference, by way of a circuit in plain numbers:
-- n inputs, G gates, L and R the signals of a gate (0 to 3 inputs, 4 and on gates; R g = L g if it is a 'not'), nx what is next, nt g: gate g is a 'not'; κ kinds, d delays
def Sg (n g s : Nat) : Prop := s < n ∨ (4 ≤ s ∧ s < 4 + g)
def Circ (n G : Nat) (L R : Nat → Nat) (nt : Nat → Bool) : Prop := n ≤ 4 ∧ G ≤ 8 ∧ (0 < G → 0 < n) ∧ (G = 0 → n = 0) ∧ ∀ g, g < G → Sg n g (L g) ∧ Sg n g (R g) ∧ (nt g = true → R g = L g) ∧ (nt g = false → R g ≠ L g)
def cs (s : Nat) : Nat := if s < 4 then s else s + 6
def NetC (n G : Nat) (L R nx : Nat → Nat) (nt : Nat → Bool) (inputs gates : Int32) (lefts rights nexts : Nat → Int32) : Prop := inputs = nI n ∧ gates = nI G ∧ (∀ g, g < G → lefts g = nI (cs (L g)) ∧ rights g = if nt g then -9 else nI (cs (R g))) ∧ ∀ i, i < n → nexts i = nI (cs (nx i))
def NetM (n G : Nat) (L R nx : Nat → Nat) (nt : Nat → Bool) (inputs gates : Int32) (one other next : Nat → Int32) : Prop := inputs = nI n ∧ gates = nI G ∧ (∀ g, g < G → one g = nI (L g) ∧ other g = if nt g then -9 else nI (R g)) ∧ ∀ i, i < n → next i = nI (nx i)
-- kinds and delays
def KOk (G : Nat) (nt : Nat → Bool) (κ : Nat → Nat) : Prop := ∀ g, g < G → κ g ≤ 4 ∧ (κ g = 4 ↔ nt g = true)
def SetOk (G : Nat) (nt : Nat → Bool) (κ d : Nat → Nat) : Prop := KOk G nt κ ∧ ∀ g, g < G → 1 ≤ d g ∧ d g ≤ 9
def SetC (G : Nat) (κ d : Nat → Nat) (kinds delays : Nat → Int32) : Prop := ∀ g, g < G → kinds g = nI (κ g) ∧ delays g = nI (d g)
def SetM (G : Nat) (κ d : Nat → Nat) (now : Nat → Int32) (base : Nat) : Prop := ∀ g, g < G → now (base + g) = nI (κ g) ∧ now (base + 8 + g) = nI (d g)
def RNow (G : Nat) (nt : Nat → Bool) (κ d : Nat → Nat) (kinds delays now : Nat → Int32) : Prop := SetOk G nt κ d ∧ SetC G κ d kinds delays ∧ SetM G κ d now 0
-- paths: an input and a set of gates (bit g: gate g)
def fl (L R : Nat → Nat) (i set : Nat) : Nat → Nat × Bool
  | 0 => (i, true)
  | g + 1 => if set.testBit g then (4 + g, (fl L R i set g).2 && (decide (L g = (fl L R i set g).1) || decide (R g = (fl L R i set g).1))) else fl L R i set g
def lm (L R : Nat → Nat) (i set : Nat) : Nat → Nat
  | 0 => 0
  | g + 1 => if set.testBit g then lm L R i set g + (if L g = (fl L R i set g).1 then 1 else 2) * 4 ^ g else lm L R i set g
def ones (set : Nat) : Nat → Nat
  | 0 => 0
  | g + 1 => ones set g + if set.testBit g then 1 else 0
/-- the k-th gate of a set, among the first so many -/
def nth (set k : Nat) : Nat → Nat
  | 0 => 0
  | g + 1 => if ones set g = k ∧ set.testBit g then g else nth set k g
def rev8 (v : Nat) : Nat := (if v.testBit 0 then 128 else 0) + (if v.testBit 1 then 64 else 0) + (if v.testBit 2 then 32 else 0) + (if v.testBit 3 then 16 else 0) + (if v.testBit 4 then 8 else 0) + (if v.testBit 5 then 4 else 0) + (if v.testBit 6 then 2 else 0) + (if v.testBit 7 then 1 else 0)
/-- the sets of an input's paths, in their order: v from so many downwards -/
def psets (G : Nat) (L R : Nat → Nat) (i : Nat) : Nat → List Nat
  | 0 => []
  | v + 1 => (if rev8 (v + 1) / 2 ^ (G - 1) = 1 ∧ (fl L R i (rev8 (v + 1)) G).2 = true then [rev8 (v + 1)] else []) ++ psets G L R i v
def PLn (G : Nat) (L R : Nat → Nat) : Nat → List (Nat × Nat)
  | 0 => []
  | n + 1 => PLn G L R n ++ (psets G L R n 255).map (fun set => (n, set))
def PL (n G : Nat) (L R : Nat → Nat) : List (Nat × Nat) := PLn G L R n
def PathC (G : Nat) (L R : Nat → Nat) (P : List (Nat × Nat)) (paths : Int32) (starts sizes steps links : Nat → Int32) : Prop := paths = nI P.length ∧ P.length ≤ 55 ∧ ∀ (p i set : Nat), P[p]? = some (i, set) → starts p = nI i ∧ sizes p = nI (ones set G) ∧ links p = nI (lm L R i set G) ∧ ∀ k, k < ones set G → steps (p * 8 + k) = nI (nth set k G)
def PathM (P : List (Nat × Nat)) (paths : Int32) (pathInput pathGates : Nat → Int32) : Prop := paths = nI P.length ∧ P.length ≤ 55 ∧ ∀ (p i set : Nat), P[p]? = some (i, set) → pathInput p = nI i ∧ pathGates p = nI set
def RNet (n G : Nat) (L R nx : Nat → Nat) (nt : Nat → Bool) (inputs gates paths : Int32) (lefts rights nexts starts sizes steps links : Nat → Int32) (minputs mgates mpaths : Int32) (one other next pathInput pathGates : Nat → Int32) : Prop :=
  Circ n G L R nt ∧ (∀ i, i < n → Sg n G (nx i)) ∧ NetC n G L R nx nt inputs gates lefts rights nexts ∧ NetM n G L R nx nt minputs mgates one other next ∧ PathC G L R (PL n G L R) paths starts sizes steps links ∧ PathM (PL n G L R) mpaths pathInput pathGates
-- acts: what undoing the last j of them gives
def RActs (G : Nat) (nt : Nat → Bool) (κ d : Nat → Nat) (size : Int32) (gates turned olds : Nat → Int32) (acts turn : Int32) (row : Nat → Int32) : Prop := ∃ (a t : Nat) (K E : Nat → Nat → Nat), a ≤ 14 ∧ t < 14 ∧ size = nI a ∧ acts = nI a ∧ turn = nI t ∧ (∀ g, g < G → K 0 g = κ g ∧ E 0 g = d g) ∧
  ∀ j, j < a → SetOk G nt (K (j + 1)) (E (j + 1)) ∧ SetM G (K (j + 1)) (E (j + 1)) row (16 * ((t + 13 - j) % 14)) ∧
    ∃ g0, g0 < G ∧ gates (a - 1 - j) = nI g0 ∧ (∀ g, g < G → g ≠ g0 → K (j + 1) g = K j g ∧ E (j + 1) g = E j g) ∧
      ((turned (a - 1 - j) = 1 ∧ olds (a - 1 - j) = nI (K (j + 1) g0) ∧ E (j + 1) g0 = E j g0) ∨ (turned (a - 1 - j) = 0 ∧ olds (a - 1 - j) = nI (E (j + 1) g0) ∧ K (j + 1) g0 = K j g0))
-- slots
def RSlot (G : Nat) (nt : Nat → Bool) (k : Nat) (held : Int32) (kinds delays isKept kept : Nat → Int32) : Prop := (held = 0 ∧ isKept k = 0) ∨ (held = 1 ∧ isKept k = 1 ∧ ∃ κ d, SetOk G nt κ d ∧ SetC G κ d kinds delays ∧ SetM G κ d kept (16 * k))
-- values by a pair, links
def bitN (v i : Nat) : Nat := v / 2 ^ i % 2
def both4 (a b : Nat) : Nat := if a = 0 ∨ b = 0 then 0 else if a = 1 ∧ b = 1 then 1 else if a % 2 = 1 ∧ b % 2 = 1 then 3 else 2
def any4 (a b : Nat) : Nat := if a = 1 ∨ b = 1 then 1 else if a = 0 ∧ b = 0 then 0 else if a % 2 = 0 ∧ b % 2 = 0 then 2 else 3
def sw4 (a : Nat) : Nat := if a % 2 = 0 then a + 1 else a - 1
def mk4 (k a b : Nat) : Nat := if k = 0 then both4 a b else if k = 1 then any4 a b else if k = 2 then sw4 (both4 a b) else if k = 3 then sw4 (any4 a b) else sw4 a
def V0 (pair s : Nat) : Nat := if bitN (pair / 16) s = bitN (pair % 16) s then bitN (pair % 16) s else 2 + bitN (pair % 16) s
/-- VALUES of the signals, with the first so many gates made -/
def Vs (L R κ : Nat → Nat) (pair : Nat) : Nat → Nat → Nat
  | 0, s => V0 pair s
  | g + 1, s => if s = 4 + g then mk4 (κ g) (Vs L R κ pair g (L g)) (Vs L R κ pair g (R g)) else Vs L R κ pair g s
def letsN (k : Nat) : Nat := if k = 0 ∨ k = 2 then 1 else 0
/-- at a gate of kind k: a path that comes in by a signal of value a, its side of value b: 0 not tested, 1 tested, 2 surely -/
def far1 (k a b : Nat) : Nat := if k = 4 then 2 else if b % 2 = letsN k then (if a % 2 = letsN k ∨ b = letsN k then 2 else 1) else 0
def lnkM (L R κ : Nat → Nat) (pair G : Nat) (f : Nat) : Nat → Nat
  | 0 => 0
  | g + 1 => lnkM L R κ pair G f g + (if f ≤ far1 (κ g) (Vs L R κ pair G (L g)) (Vs L R κ pair G (R g)) then 4 ^ g else 0) + (if f ≤ far1 (κ g) (Vs L R κ pair G (R g)) (Vs L R κ pair G (L g)) then 2 * 4 ^ g else 0)
def okPair (n pair : Nat) : Prop := pair < 256 ∧ pair / 16 < 2 ^ n ∧ pair % 16 < 2 ^ n
/-- how far a pair tests gates that follow an input -/
def tst (L R κ : Nat → Nat) (pair G i set : Nat) : Nat → Nat
  | 0 => if V0 pair i < 2 then 0 else 2
  | g + 1 => if set.testBit g then min (tst L R κ pair G i set g) (if L g = (fl L R i set g).1 then far1 (κ g) (Vs L R κ pair G (L g)) (Vs L R κ pair G (R g)) else far1 (κ g) (Vs L R κ pair G (R g)) (Vs L R κ pair G (L g))) else tst L R κ pair G i set g
def bsum (f : Nat → Bool) : Nat → Nat
  | 0 => 0
  | p + 1 => bsum f p + if f p then 2 ^ p else 0
/-- path p is tested surely by the pair, and rises (1) or falls (0) -/
def prv (G : Nat) (L R κ : Nat → Nat) (P : List (Nat × Nat)) (pair to p : Nat) : Bool := match P[p]? with
  | some (i, set) => decide (tst L R κ pair G i set G = 2) && decide (bitN (pair % 16) i = to)
  | none => false
def pkK (κ : Nat → Nat) : Nat → Nat
  | 0 => 0
  | g + 1 => pkK κ g + κ g * 8 ^ g
def capN (n G : Nat) (L R nx κ : Nat → Nat) (pat : Nat) : Nat → Nat
  | 0 => 0
  | i + 1 => capN n G L R nx κ pat i + Vs L R κ (17 * pat) G (nx i) * 2 ^ i
def TabOf (n G : Nat) (L R nx κ : Nat → Nat) (sureLinks : Nat → Int32) (risers fallers : Nat → Int64) (captured : Nat → Int32) : Prop :=
  (∀ pair, okPair n pair → sureLinks pair = nI (lnkM L R κ pair G 2 G) ∧ risers pair = lN (bsum (prv G L R κ (PL n G L R) pair 1) (PL n G L R).length) ∧ fallers pair = lN (bsum (prv G L R κ (PL n G L R) pair 0) (PL n G L R).length)) ∧
  (∀ pair, pair < 256 → ¬ okPair n pair → sureLinks pair = 0 ∧ risers pair = 0 ∧ fallers pair = 0) ∧
  ∀ pat, pat < 2 ^ n → captured pat = nI (capN n G L R nx κ pat n)
def RTab (n G : Nat) (L R nx : Nat → Nat) (nt : Nat → Bool) (madeFor : Int32) (sureLinks : Nat → Int32) (risers fallers : Nat → Int64) (captured : Nat → Int32) : Prop := madeFor = -1 ∨ ∃ κ, KOk G nt κ ∧ madeFor = nI (pkK κ G) ∧ TabOf n G L R nx κ sureLinks risers fallers captured
