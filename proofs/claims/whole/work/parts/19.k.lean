-- does a setting agree with all that was seen
section AG
variable {n G : Nat} {L R nx κ d : Nat → Nat} {nt : Nat → Bool}
def agO (L R κ d : Nat → Nat) (G : Nat) (P T B : Nat → Nat) (j : Nat) : Bool := decide (ltE L R κ d G (P j) (T j) = decide (B j = 1))
def agA (L R κ d : Nat → Nat) (G : Nat) (P T B : Nat → Nat) : Nat → Nat → Bool
  | _, 0 => true
  | j, m + 1 => agO L R κ d G P T B j && agA L R κ d G P T B (j + 1) m
theorem bz (b : Nat) (hb : b < 2) : (nI b = 1) ↔ b = 1 := by
  rcases (show b = 0 ∨ b = 1 by omega) with rfl | rfl <;> decide
theorem selZ {ρ : Type} {a : Bool} {b : Nat} (hb : b < 2) {X Y : ρ} : (if nI b = 1 then (if zI a = 1 then X else Y) else (if zI a = 0 then X else Y)) = if a = decide (b = 1) then X else Y := by
  rcases (show b = 0 ∨ b = 1 by omega) with rfl | rfl <;> cases a <;> rfl
theorem zI_eq (a b : Bool) : zI a = zI b ↔ a = b := by cases a <;> cases b <;> decide
theorem agC_L {N : Nat} (hN : 1000 ≤ N) (hC : Circ n G L R nt) (h0 : 0 < G) (hκ : KOk G nt κ) (hd : ∀ g, g < G → 1 ≤ d g ∧ d g ≤ 18) {inputs gates : Int32} {lefts rights nexts kinds delays : Nat → Int32} (hNC : NetC n G L R nx nt inputs gates lefts rights nexts) (hK : ∀ g, g < G → kinds g = nI (κ g)) (hD : ∀ g, g < G → delays g = nI (d g)) {k : Nat} (hk : k ≤ 6) {P T B : Nat → Nat} {pairs times lates : Nat → Int32} (hS : ∀ j, j < k → (P j < 256 ∧ pairs j = nI (P j)) ∧ (T j < 100 ∧ times j = nI (T j)) ∧ B j < 2 ∧ lates j = nI (B j)) (J : (Nat → Int64) → (Nat → Int64) → (Nat → Int64) → (Nat → Int64) → Option (Int32 × (Nat → Int64) × (Nat → Int64) × (Nat → Int64) × (Nat → Int64))) : ∀ (m j nf : Nat) (c1 c2 c3 c4 : Nat → Int64), j + m = k → m < nf → ∃ c1' c2' c3' c4', f_X9_agreesWithSeen_L2 N (nI k) inputs gates pairs kinds delays lefts rights times lates J nf (nI j) c1 c2 c3 c4 = if agA L R κ d G P T B j m = true then J c1' c2' c3' c4' else some (0, c1', c2', c3', c4') := by
  intro m
  induction m with
  | zero =>
    intro j nf c1 c2 c3 c4 hj hnf
    obtain ⟨q, rfl⟩ : ∃ q, nf = q + 1 := ⟨nf - 1, by omega⟩
    refine ⟨c1, c2, c3, c4, ?_⟩
    rw [f_X9_agreesWithSeen_L2, if_pos (le_t (by omega) (by omega)), agA, if_pos rfl]
  | succ m ih =>
    intro j nf c1 c2 c3 c4 hj hnf
    obtain ⟨q, rfl⟩ : ∃ q, nf = q + 1 := ⟨nf - 1, by omega⟩
    obtain ⟨⟨p1, p2⟩, ⟨t1, t2⟩, b1, b2⟩ := hS j (by omega)
    have hn := hC.1
    have hG := hC.2.1
    have hκ4 : ∀ g, g < G → κ g ≤ 4 := fun g h => (hκ g h).1
    have ei := hNC.1
    have eg := hNC.2.1
    have hp := mskP_lt n (by omega) _ p1
    obtain ⟨c1', c2', c3', c4', hI⟩ := ih (j + 1) q (bfL L R κ (mskP n (P j) / 16) n c1 G) (bfL L R κ (mskP n (P j) % 16) n c2 G) (wvL L R κ d (mskP n (P j)) n 0 c3 G) (wvL L R κ d (mskP n (P j)) n 64 c4 G) (by omega) (by omega)
    have hrun := run_eq hN hC hκ hd hNC hK hD hp c1 c2 c3 c4
    rw [f_X9_agreesWithSeen_L2, if_neg (le_f (by omega) (by omega))]
    rw [nI_clamp (show j < 2 ^ 31 by omega), p2, t2, b2, grd_nI (show j < 6 by omega) (by decide)]
    subst ei
    subst eg
    rw [pairWithin_eq N hn p1]
    simp only [obd1]
    rw [hrun]
    simp only [obd4]
    rw [grd_nI (show j < 6 by omega) (by decide), lateC N hn hG h0 hκ4 t1, ltE_msk hC h0 p1]
    simp only
    rw [grd_nI (show j < 6 by omega) (by decide)]
    simp only [bnd, nI_1]
    rw [selZ b1, agA]
    by_cases ha : ltE L R κ d G (P j) (T j) = decide (B j = 1)
    · have hO : agO L R κ d G P T B j = true := by
        unfold agO
        simp [ha]
      rw [hO, Bool.true_and, if_pos ha, hI]
      exact ⟨c1', c2', c3', c4', rfl⟩
    · have hO : agO L R κ d G P T B j = false := by
        unfold agO
        simp [ha]
      rw [hO, Bool.false_and, if_neg ha]
      exact ⟨_, _, _, _, rfl⟩
theorem agC {N : Nat} (hN : 1000 ≤ N) (hC : Circ n G L R nt) (h0 : 0 < G) (hκ : KOk G nt κ) (hd : ∀ g, g < G → 1 ≤ d g ∧ d g ≤ 18) {inputs gates : Int32} {lefts rights nexts kinds delays : Nat → Int32} (hNC : NetC n G L R nx nt inputs gates lefts rights nexts) (hK : ∀ g, g < G → kinds g = nI (κ g)) (hD : ∀ g, g < G → delays g = nI (d g)) {k : Nat} (hk : k ≤ 6) {P T B : Nat → Nat} {pairs times lates : Nat → Int32} (hS : ∀ j, j < k → (P j < 256 ∧ pairs j = nI (P j)) ∧ (T j < 100 ∧ times j = nI (T j)) ∧ B j < 2 ∧ lates j = nI (B j)) (c1 c2 c3 c4 : Nat → Int64) : ∃ c1' c2' c3' c4', f_X9_agreesWithSeen N (nI k) inputs gates pairs kinds delays lefts rights c1 c2 c3 c4 times lates = some (zI (agA L R κ d G P T B 0 k), c1', c2', c3', c4') := by
  obtain ⟨c1', c2', c3', c4', h⟩ := agC_L hN hC h0 hκ hd hNC hK hD hk hS (fun a b c e => some (1, a, b, c, e)) k 0 N c1 c2 c3 c4 (by omega) (by omega)
  refine ⟨c1', c2', c3', c4', ?_⟩
  rw [f_X9_agreesWithSeen]
  simp only [bnd]
  refine Eq.trans h ?_
  cases agA L R κ d G P T B 0 k <;> rfl
theorem agM_L {N : Nat} (hN : 1000 ≤ N) (hC : Circ n G L R nt) (h0 : 0 < G) (hκ : KOk G nt κ) (hd : ∀ g, g < G → 1 ≤ d g ∧ d g ≤ 18) {inputs gates : Int32} {one other next now : Nat → Int32} (hNM : NetM n G L R nx nt inputs gates one other next) (hK : ∀ g, g < G → now (16 + g) = nI (κ g)) (hD : ∀ g, g < G → now (24 + g) = nI (d g)) {k : Nat} (hk : k ≤ 6) {P T B : Nat → Nat} {pairs times lates : Nat → Int32} (hS : ∀ j, j < k → (P j < 256 ∧ pairs j = nI (P j)) ∧ (T j < 100 ∧ times j = nI (T j)) ∧ B j < 2 ∧ lates j = nI (B j)) (J : Int32 → (Nat → Int32) → (Nat → Int32) → (Nat → Int32) → (Nat → Int32) → Option (Int32 × (Nat → Int32) × (Nat → Int32) × (Nat → Int32) × (Nat → Int32) × (Nat → Int32))) : ∀ (m j nf : Nat) (c1 c2 c3 c4 : Nat → Int32), j + m = k → m + 1 < nf → ∃ c1' c2' c3' c4', f_X10_slower_L65 N inputs gates (nI k) pairs times other one lates now J nf 1 (nI j) c1 c2 c3 c4 = J (zI (agA L R κ d G P T B j m)) c1' c2' c3' c4' := by
  intro m
  induction m with
  | zero =>
    intro j nf c1 c2 c3 c4 hj hnf
    obtain ⟨q, rfl⟩ : ∃ q, nf = q + 1 := ⟨nf - 1, by omega⟩
    refine ⟨c1, c2, c3, c4, ?_⟩
    rw [f_X10_slower_L65, if_pos (le_t (by omega) (by omega)), agA]
    rfl
  | succ m ih =>
    intro j nf c1 c2 c3 c4 hj hnf
    obtain ⟨q, rfl⟩ : ∃ q, nf = q + 1 := ⟨nf - 1, by omega⟩
    obtain ⟨⟨p1, p2⟩, ⟨t1, t2⟩, b1, b2⟩ := hS j (by omega)
    have hn := hC.1
    have hG := hC.2.1
    obtain ⟨W', hl⟩ := lateM hN hC h0 hκ hd hNM (now := now) (lv := 1) (by decide) hK (fun g h => by rw [show 16 * 1 + 8 + g = 24 + g by omega]; exact hD g h) p1 t1 c1 c2 c3 c4
    have hl2 : f_X10_isLate N 1 (nI (P j)) (nI (T j)) inputs gates now other one c1 c2 c3 c4 = _ := hl
    rw [f_X10_slower_L65, if_neg (le_f (by omega) (by omega)), if_neg (by decide)]
    rw [nI_clamp (show j < 2 ^ 31 by omega), p2, t2, b2, grd_nI (show j < 6 by omega) (by decide), grd_nI (show j < 6 by omega) (by decide), hl2]
    simp only [obd5]
    rw [grd_nI (show j < 6 by omega) (by decide)]
    simp only [bnd, nI_1]
    rw [selZ b1, agA]
    by_cases ha : ltE L R κ d G (P j) (T j) = decide (B j = 1)
    · have hO : agO L R κ d G P T B j = true := by
        unfold agO
        simp [ha]
      rw [hO, Bool.true_and, if_pos ha]
      exact ih (j + 1) q _ _ _ _ (by omega) (by omega)
    · have hO : agO L R κ d G P T B j = false := by
        unfold agO
        simp [ha]
      rw [hO, Bool.false_and, if_neg ha]
      obtain ⟨q', rfl⟩ : ∃ q', q = q' + 1 := ⟨q - 1, by omega⟩
      refine ⟨bfM L R κ (P j / 16) n c1 G, bfM L R κ (P j % 16) n c2 G, vaM L R κ (P j) n c3 G, W', ?_⟩
      rw [f_X10_slower_L65]
      by_cases hz : nI k ≤ nI (j + 1)
      · rw [if_pos hz]
        rfl
      · rw [if_neg hz, if_pos rfl]
        rfl
end AG
