/-! SMALL METHODS AS EQUATIONS -/
theorem e_within (a lo hi : Int32) (σ : jM) : f_X13_within a lo hi σ = some (bI (lo ≤ a ∧ a ≤ hi), σ) := by
  unfold f_X13_within f_X13_within_14 f_X13_within_15
  by_cases h1 : a < lo
  · rw [if_pos h1, bI_neg (fun z => absurd z.1 (i_nle.mpr h1)), gd_0]
  · rw [if_neg h1]
    by_cases h2 : hi < a
    · rw [if_pos h2, bI_neg (fun z => absurd z.2 (i_nle.mpr h2)), gd_0]
    · rw [if_neg h2, bI_pos ⟨i_nlt.mp h1, i_nlt.mp h2⟩, gd_1]
theorem e_isKnown (a : Int32) (σ : jM) : f_X13_isKnown a σ = some (bI (0 ≤ a ∧ a ≤ rI σ 324 1), σ) := by
  unfold f_X13_isKnown f_X13_isKnown_16 f_X13_isKnown_17
  by_cases h1 : a < 0
  · rw [if_pos h1, bI_neg (fun z => absurd z.1 (i_nle.mpr h1)), gd_0]
  · rw [if_neg h1]
    by_cases h2 : rI σ 324 1 < a
    · rw [if_pos h2, bI_neg (fun z => absurd z.2 (i_nle.mpr h2)), gd_0]
    · rw [if_neg h2, bI_pos ⟨i_nlt.mp h1, i_nlt.mp h2⟩, gd_1]
theorem e_counts (a b c : Int32) (σ : jM) : f_X13_counts a b c σ = some (bI (a ≤ c ∧ c < b), σ) := by
  unfold f_X13_counts f_X13_counts_14 f_X13_counts_15
  by_cases h1 : c < a
  · rw [if_pos h1, bI_neg (fun z => absurd z.1 (i_nle.mpr h1)), gd_0]
  · rw [if_neg h1]
    by_cases h2 : b ≤ c
    · rw [if_pos h2, bI_neg (fun z => absurd z.2 (i_nlt.mpr h2)), gd_0]
    · rw [if_neg h2, bI_pos ⟨i_nlt.mp h1, i_nle.mp h2⟩, gd_1]
theorem e_tabletCounts {t : Nat} (ht : t < 24) (v : Int32) (σ : jM) : f_X13_tabletCounts (nI t) v σ = some (bI (rI σ 325 t ≤ v ∧ v < rI σ 326 t), σ) := by
  unfold f_X13_tabletCounts
  rw [gd_pos (nI_inb ht (by omega)), gd_pos (nI_inb ht (by omega)), e_counts, bd_some, gd_bI, nI_ix (by omega)]
theorem e_isSignNumber (a : Int32) (σ : jM) : f_X13_isSignNumber a σ = some (bI (0 ≤ a ∧ a < 40), σ) := by
  unfold f_X13_isSignNumber f_X13_isSignNumber_14 f_X13_isSignNumber_15
  by_cases h1 : a < 0
  · rw [if_pos h1, bI_neg (fun z => absurd z.1 (i_nle.mpr h1)), gd_0]
  · rw [if_neg h1]
    by_cases h2 : 40 ≤ a
    · rw [if_pos h2, bI_neg (fun z => absurd z.2 (i_nlt.mpr h2)), gd_0]
    · rw [if_neg h2, bI_pos ⟨i_nlt.mp h1, i_nle.mp h2⟩, gd_1]
theorem e_isSign (a : Int32) (σ : jM) : f_X12_isSign a σ = some (bI (0 ≤ a ∧ a < 40), σ) := by
  unfold f_X12_isSign f_X12_isSign_14 f_X12_isSign_15
  by_cases h1 : a < 0
  · rw [if_pos h1, bI_neg (fun z => absurd z.1 (i_nle.mpr h1)), gd_0]
  · rw [if_neg h1]
    by_cases h2 : 40 ≤ a
    · rw [if_pos h2, bI_neg (fun z => absurd z.2 (i_nlt.mpr h2)), gd_0]
    · rw [if_neg h2, bI_pos ⟨i_nlt.mp h1, i_nle.mp h2⟩, gd_1]
theorem e_isHand (a : Int32) (σ : jM) : f_X12_isHand a σ = some (bI (0 ≤ a ∧ a < 4), σ) := by
  unfold f_X12_isHand f_X12_isHand_13 f_X12_isHand_14
  by_cases h1 : a < 0
  · rw [if_pos h1, bI_neg (fun z => absurd z.1 (i_nle.mpr h1)), gd_0]
  · rw [if_neg h1]
    by_cases h2 : 4 ≤ a
    · rw [if_pos h2, bI_neg (fun z => absurd z.2 (i_nlt.mpr h2)), gd_0]
    · rw [if_neg h2, bI_pos ⟨i_nlt.mp h1, i_nle.mp h2⟩, gd_1]
theorem e_isSort (a : Int32) (σ : jM) : f_X12_isSort a σ = some (bI (a = 0 ∨ a = 1), σ) := by
  unfold f_X12_isSort f_X12_isSort_9 f_X12_isSort_14
  by_cases h1 : a = 0
  · rw [if_pos h1, bI_pos (Or.inl h1), gd_1]
  · rw [if_neg h1]
    by_cases h2 : a = 1
    · rw [if_pos h2, bI_pos (Or.inr h2), gd_1]
    · rw [if_neg h2, bI_neg (fun z => z.elim h1 h2), gd_0]
theorem e_hasTablet (a : Int32) (σ : jM) : f_X0_hasTablet a σ = some (bI (0 ≤ a ∧ a < rI σ 3 2), σ) := by
  unfold f_X0_hasTablet f_X0_hasTablet_16 f_X0_hasTablet_17
  by_cases h1 : a < 0
  · rw [if_pos h1, bI_neg (fun z => absurd z.1 (i_nle.mpr h1)), gd_0]
  · rw [if_neg h1]
    by_cases h2 : rI σ 3 2 ≤ a
    · rw [if_pos h2, bI_neg (fun z => absurd z.2 (i_nlt.mpr h2)), gd_0]
    · rw [if_neg h2, bI_pos ⟨i_nlt.mp h1, i_nle.mp h2⟩, gd_1]
theorem e_hasName (a : Int32) (σ : jM) : f_X0_hasName a σ = some (bI (0 ≤ a ∧ a < rI σ 3 8), σ) := by
  unfold f_X0_hasName f_X0_hasName_16 f_X0_hasName_17
  by_cases h1 : a < 0
  · rw [if_pos h1, bI_neg (fun z => absurd z.1 (i_nle.mpr h1)), gd_0]
  · rw [if_neg h1]
    by_cases h2 : rI σ 3 8 ≤ a
    · rw [if_pos h2, bI_neg (fun z => absurd z.2 (i_nlt.mpr h2)), gd_0]
    · rw [if_neg h2, bI_pos ⟨i_nlt.mp h1, i_nle.mp h2⟩, gd_1]
theorem e_countsOn9 (k : Nat) (a : Int32) (σ : jM) : f_countsOn_9 k a σ = some (bI (rI σ k 0 ≤ a ∧ (rI σ k 1 = -1 ∨ a < rI σ k 1)), σ) := by
  unfold f_countsOn_9 f_countsOn_9_28 f_countsOn_9_24 f_countsOn_9_29
  by_cases h1 : a < rI σ k 0
  · rw [if_pos h1, bI_neg (fun z => absurd z.1 (i_nle.mpr h1)), gd_0]
  · rw [if_neg h1]
    by_cases h2 : rI σ k 1 = -1
    · rw [if_pos h2, bI_pos ⟨i_nlt.mp h1, Or.inl h2⟩, gd_1]
    · rw [if_neg h2]
      by_cases h3 : rI σ k 1 ≤ a
      · rw [if_pos h3, bI_neg (fun z => z.2.elim h2 (i_nlt.mpr h3)), gd_0]
      · rw [if_neg h3, bI_pos ⟨i_nlt.mp h1, Or.inr (i_nle.mp h3)⟩, gd_1]
theorem e_countsOn8 (k : Nat) (a : Int32) (σ : jM) : f_countsOn_8 k a σ = some (bI (rI σ k 0 ≤ a ∧ (rI σ k 1 = -1 ∨ a < rI σ k 1)), σ) := e_countsOn9 k a σ
theorem e_countsOn5 (k : Nat) (a : Int32) (σ : jM) : f_countsOn_5 k a σ = some (bI (rI σ k 0 ≤ a ∧ (rI σ k 1 = -1 ∨ a < rI σ k 1)), σ) := e_countsOn9 k a σ
theorem e_forget (σ : jM) : f_X12_forgetView σ = some ((), wI σ 3 10 (-1)) := rfl
theorem e_isSmall (a : Int32) (σ : jM) : f_X13_isSmall a σ = some (bI (97 ≤ a ∧ a ≤ 122), σ) := by
  unfold f_X13_isSmall f_X13_isSmall_16 f_X13_isSmall_17
  by_cases h1 : a < 97
  · rw [if_pos h1, bI_neg (fun z => absurd z.1 (i_nle.mpr h1)), gd_0]
  · rw [if_neg h1]
    by_cases h2 : 122 < a
    · rw [if_pos h2, bI_neg (fun z => absurd z.2 (i_nle.mpr h2)), gd_0]
    · rw [if_neg h2, bI_pos ⟨i_nlt.mp h1, i_nlt.mp h2⟩, gd_1]
theorem e_isDigit (a : Int32) (σ : jM) : f_X13_isDigit a σ = some (bI (48 ≤ a ∧ a ≤ 57), σ) := by
  unfold f_X13_isDigit f_X13_isDigit_16 f_X13_isDigit_17
  by_cases h1 : a < 48
  · rw [if_pos h1, bI_neg (fun z => absurd z.1 (i_nle.mpr h1)), gd_0]
  · rw [if_neg h1]
    by_cases h2 : 57 < a
    · rw [if_pos h2, bI_neg (fun z => absurd z.2 (i_nle.mpr h2)), gd_0]
    · rw [if_neg h2, bI_pos ⟨i_nlt.mp h1, i_nlt.mp h2⟩, gd_1]
theorem gd_T {α : Type} {c : Prop} [Decidable c] {x : Option α} : gd (True ∨ c) x = x := gd_pos (Or.inl trivial)
theorem gd_T2 {α : Type} {c : Prop} [Decidable c] {x : Option α} : gd (c ∨ True) x = x := gd_pos (Or.inr trivial)
theorem e_isLetterAt {j : Nat} (hj : j < 300) (σ : jM) : f_X11_isLetterAt (nI j) σ = some (bI (97 ≤ rI σ 263 j ∧ rI σ 263 j ≤ 122), σ) := by
  unfold f_X11_isLetterAt f_X11_isLetterAt_26 f_X11_isLetterAt_27
  rw [gd_pos (nI_inb hj (by omega))]
  simp only [nI_ix (show j < 2147483648 by omega)]
  by_cases h1 : rI σ 263 j < 97
  · rw [if_pos h1, bI_neg (fun z => absurd z.1 (i_nle.mpr h1)), gd_T]
  · rw [if_neg h1, gd_pos (nI_inb hj (by omega))]
    by_cases h2 : 122 < rI σ 263 j
    · rw [if_pos h2, bI_neg (fun z => absurd z.2 (i_nle.mpr h2)), gd_T]
    · rw [if_neg h2, bI_pos ⟨i_nlt.mp h1, i_nlt.mp h2⟩, gd_T2]
theorem e_isFigureAt {j : Nat} (hj : j < 300) (σ : jM) : f_X11_isFigureAt (nI j) σ = some (bI (48 ≤ rI σ 263 j ∧ rI σ 263 j ≤ 57), σ) := by
  unfold f_X11_isFigureAt f_X11_isFigureAt_26 f_X11_isFigureAt_27
  rw [gd_pos (nI_inb hj (by omega))]
  simp only [nI_ix (show j < 2147483648 by omega)]
  by_cases h1 : rI σ 263 j < 48
  · rw [if_pos h1, bI_neg (fun z => absurd z.1 (i_nle.mpr h1)), gd_T]
  · rw [if_neg h1, gd_pos (nI_inb hj (by omega))]
    by_cases h2 : 57 < rI σ 263 j
    · rw [if_pos h2, bI_neg (fun z => absurd z.2 (i_nle.mpr h2)), gd_T]
    · rw [if_neg h2, bI_pos ⟨i_nlt.mp h1, i_nlt.mp h2⟩, gd_T2]
