/-! WHICH PAIRS OF ROWS TELL THAT TWO SIGNS SHARE, by a clause -/
section TELLS
variable {D : dD} {σ : jM}
abbrev un (D : dD) (v q r i : Nat) : Prop := D 328 q = D 328 r ∧ i < D 328 q ∧ sg D v q i ≠ sg D v r i ∧ ∀ j, j < D 328 q → j ≠ i → sg D v q j = sg D v r j
noncomputable def ui (D : dD) (v q r : Nat) : Nat := @dite _ (∃ i, un D v q r i) (Classical.propDecidable _) (fun h => Classical.choose h) (fun _ => 999)
theorem un_uniq {v q r i j : Nat} (h : un D v q r i) (g : un D v q r j) : i = j := Classical.byContradiction (fun z => h.2.2.1 (g.2.2.2 i h.2.1 z))
theorem ui_eq {v q r i : Nat} (h : un D v q r i) : ui D v q r = i := by
  unfold ui
  rw [dif_pos ⟨i, h⟩]
  exact un_uniq (Classical.choose_spec (p := fun i => un D v q r i) ⟨i, h⟩) h
theorem ui_no {v q r : Nat} (h : ∀ i, ¬ un D v q r i) : ui D v q r = 999 := by
  unfold ui
  rw [dif_neg (fun ⟨i, z⟩ => h i z)]
theorem ui_spec (v q r : Nat) : ui D v q r = 999 ∨ un D v q r (ui D v q r) := by
  by_cases h : ∃ i, un D v q r i
  · obtain ⟨i, hi⟩ := h
    rw [ui_eq hi]
    exact Or.inr hi
  · exact Or.inl (ui_no (fun i hi => h ⟨i, hi⟩))
def wpl (w len : Nat) : Nat := if w = 0 then 0 else if w = 7 then len - 1 else w - 1
abbrev mn (D : dD) (v c len i : Nat) : Prop := cl D v 332 c < 2 ∧ cl D v 334 c ≤ len ∧ i = wpl (cl D v 333 c) len
abbrev tq (D : dD) (v c q r : Nat) : Prop := ui D v q r ≠ 999 ∧ mn D v c (D 328 q) (ui D v q r)
abbrev ab2 (p q a b : Nat) : Prop := (p = a ∧ q = b) ∨ (p = b ∧ q = a)
noncomputable def tl (D : dD) (v c a b x y : Nat) : Bool := decide (tq D v c (wxr D v x) (wxr D v y) ∧ ab2 (sg D v (wxr D v x) (ui D v (wxr D v x) (wxr D v y))) (sg D v (wxr D v y) (ui D v (wxr D v x) (wxr D v y))) a b)
theorem tl_symm (v c a b x y : Nat) : tl D v c a b x y = tl D v c b a x y := by
  unfold tl
  congr 1
  exact propext (and_congr Iff.rfl ⟨fun z => z.symm, fun z => z.symm⟩)
noncomputable def wN (D : dD) (v : Nat) : Nat := wct D v (8 * D 324 2)
theorem wN_le (hw : DWt D) (v : Nat) : wN D v ≤ 192 := by
  have := hw.1
  have : wct D v (8 * D 324 2) ≤ 8 * D 324 2 := cnt_le _ _
  unfold wN
  omega
noncomputable def pc (D : dD) (v c a b : Nat) : Nat := sm (fun y => cnt (fun x => tl D v c a b x y) y) (wN D v)
theorem pc_symm (v c a b : Nat) : pc D v c a b = pc D v c b a := by
  unfold pc
  refine sm_congr (fun y _ => cnt_congr (fun x _ => tl_symm v c a b x y))
theorem smc_le (f : Nat → Nat → Bool) {n y : Nat} (hn : n ≤ 192) : sm (fun y => cnt (fun x => f x y) y) n ≤ 36864 := by
  have := sm_bound (f := fun y => cnt (fun x => f x y) y) (n := n) (B := 192) (fun i hi => by have := cnt_le (fun x => f x i) i; omega)
  have : n * 192 ≤ 192 * 192 := Nat.mul_le_mul_right _ hn
  omega
theorem pc_le (hw : DWt D) (v c a b : Nat) : pc D v c a b ≤ 36864 := smc_le (y := 0) _ (wN_le hw v)
theorem sm_cnt_s (f : Nat → Nat → Bool) (n m : Nat) : sm (fun x => cnt (f x) (n + 1)) m = sm (fun x => cnt (f x) n) m + cnt (fun x => f x n) m := by
  induction m with
  | zero => rfl
  | succ m ih => rw [sm_s, sm_s, cnt_s, ih, cnt_s (fun x => f x n)]; omega
theorem dbl_cnt (P : Nat → Nat → Bool) (n : Nat) : sm (fun x => cnt (fun y => decide (x < y) && P x y) n) n = sm (fun y => cnt (fun x => P x y) y) n := by
  induction n with
  | zero => rfl
  | succ n ih =>
    rw [sm_cnt_s (fun x y => decide (x < y) && P x y) n (n + 1), sm_s, ih, sm_s, cnt_zero (p := fun y => decide (n < y) && P n y) (fun i hi => by rw [decide_eq_false (by omega)]; rfl), cnt_s, Nat.add_zero]
    congr 1
    rw [if_neg (by rw [decide_eq_false (by omega)]; exact fun z => by cases z), Nat.add_zero]
    exact cnt_congr (fun i hi => by rw [decide_eq_true hi]; rfl)
/-! the reference: the place in which two rows are unlike -/
theorem m_unlikeAt (hw : DWt D) {v x y : Nat} (hR : MR D v (8 * D 324 2) σ) (hx : x < wN D v) (hy : y < wN D v) : f_X13_unlikeAt (nI x) (nI y) σ = some (on (ui D v (wxr D v x) (wxr D v y)), σ) := by
  have h24 := hw.1
  have hN := wN_le hw v
  obtain ⟨a1, a2, a3, a4, a5⟩ := wxr_dw hw (v := v) (k := x) (Nat.le_refl _) hx
  obtain ⟨b1, b2, b3, b4, b5⟩ := wxr_dw hw (v := v) (k := y) (Nat.le_refl _) hy
  obtain ⟨ra1, ra2⟩ := hR.2 x hx
  obtain ⟨rb1, rb2⟩ := hR.2 y hy
  generalize wxr D v x = q at *
  generalize wxr D v y = r at *
  refine ok_eq ?_
  unfold f_X13_unlikeAt
  rw [gd_n (by omega) (by omega), gd_n (by omega) (by omega), nI_ix (by omega), nI_ix (by omega), ra1, rb1, ite_iff (nI_eq2 (by omega) (by omega))]
  refine ok_ite (fun z => ?_) (fun z => ok_ret ⟨by rw [ui_no (fun i hi => z hi.1)]; rfl, rfl⟩)
  refine L_X13_unlikeAt_22 (D 328 q) (fun i l3 l4 τ => l4 = nI i ∧ τ = σ ∧ ((l3 = -1 ∧ ∀ j, j < i → sg D v q j = sg D v r j) ∨ (∃ f, l3 = nI f ∧ f < i ∧ sg D v q f ≠ sg D v r f ∧ ∀ j, j < i → j ≠ f → sg D v q j = sg D v r j))) (by omega) (fun i qq l3 l4 τ hk hI hq => ?_) (Nat.zero_le _) ⟨rfl, rfl, Or.inl ⟨rfl, fun j hj => by omega⟩⟩
  obtain ⟨rfl, rfl, hI⟩ := hI
  unfold s_X13_unlikeAt_22 f_X13_unlikeAt_73
  rw [gd_n (by omega) (by omega)]
  simp (disch := omega) only [nI_ix]
  rw [ra1, li6, pk_mul, pk_mul, nI_add, nI_add]
  simp (disch := omega) only [nI_le2, nI_ix]
  by_cases c : i < D 328 q
  · have s1 := sg_lt hw (v := v) (r := q) (by omega) a3 c a2
    have s2 := sg_lt hw (v := v) (r := r) (i := i) (by omega) b3 (by omega) b2
    rw [if_neg (by omega), gd_n (by omega) (by omega), gd_n (by omega) (by omega), ra2 i c, rb2 i (by omega), ite_iff (nI_eq2 (by omega) (by omega))]
    refine ok_ite (fun w => hq (i + 1) _ _ _ (by omega) (by omega) ⟨nI_1 i, rfl, ?_⟩) (fun w => ?_)
    · rcases hI with ⟨g1, g2⟩ | ⟨f, g1, g2, g3, g4⟩
      · refine Or.inl ⟨g1, fun j hj => ?_⟩
        by_cases e : j = i
        · subst e; exact w
        · exact g2 j (by omega)
      · refine Or.inr ⟨f, g1, by omega, g3, fun j hj hj2 => ?_⟩
        by_cases e : j = i
        · subst e; exact w
        · exact g4 j (by omega) hj2
    · rcases hI with ⟨rfl, g2⟩ | ⟨f, rfl, g2, g3, g4⟩
      · rw [if_pos rfl]
        refine hq (i + 1) _ _ _ (by omega) (by omega) ⟨nI_1 i, rfl, Or.inr ⟨i, rfl, by omega, w, fun j hj hj2 => g2 j (by omega)⟩⟩
      · rw [if_neg (fun y => (nI_m1 (by omega)).mp y)]
        refine ok_ret ⟨?_, rfl⟩
        have hno : ∀ k, ¬ un D v q r k := by
          intro k hun
          by_cases e : k = i
          · rw [e] at hun
            exact g3 (hun.2.2.2 f (by omega) (by omega))
          · exact w (hun.2.2.2 i c (fun y => e y.symm))
        rw [ui_no hno]
        rfl
  · rw [if_pos (by omega)]
    have e : i = D 328 q := by omega
    subst e
    refine ok_ret ⟨?_, rfl⟩
    rcases hI with ⟨rfl, g2⟩ | ⟨f, rfl, g2, g3, g4⟩
    · rw [ui_no (fun k hk => hk.2.2.1 (g2 k hk.2.1))]; rfl
    · rw [ui_eq (i := f) ⟨z, g2, g3, g4⟩, on_n (by omega)]
theorem m_tellsBy (hw : DWt D) (hwr : DWr D) (hM : MD D σ) {v c x y : Nat} (hR : MR D v (8 * D 324 2) σ) (hx : x < wN D v) (hy : y < wN D v) (hc : c < ncl D v) (hs : cl D v 332 c < 2) : f_X13_tellsBy (nI (12 * rIx D v + c)) (nI x) (nI y) σ = some (bI (tq D v c (wxr D v x) (wxr D v y)), σ) := by
  have h24 := hw.1
  have hN := wN_le hw v
  obtain ⟨a1, a2, a3, a4, a5⟩ := wxr_dw hw (v := v) (k := x) (Nat.le_refl _) hx
  obtain ⟨ra1, ra2⟩ := hR.2 x hx
  obtain ⟨f3, f0⟩ := m_cl hwr hM hc (k := 333) (by omega)
  obtain ⟨f4, -⟩ := m_cl hwr hM hc (k := 334) (by omega)
  obtain ⟨g1, g2, g3, g4, g5⟩ := (cl_dw hwr hc).2.1 hs
  have hu := ui_spec (D := D) v (wxr D v x) (wxr D v y)
  unfold f_X13_tellsBy f_X13_tellsBy_29 f_X13_tellsBy_103
  rw [m_unlikeAt hw hR hx hy, bd_some]
  have hub : ui D v (wxr D v x) (wxr D v y) = 999 ∨ ui D v (wxr D v x) (wxr D v y) < D 328 (wxr D v x) := hu.imp id (fun z => z.2.1)
  generalize wxr D v x = q at *
  rw [ite_iff (on_m1 (by omega))]
  by_cases c1 : (ui D v q (wxr D v y)) = 999
  · rw [if_pos c1, bI_neg (fun z => z.1 c1)]
  · have hub := hub.resolve_left c1
    rw [if_neg c1, on_n c1]
    simp (disch := omega) only [gd_n, nI_ix]
    rw [f3, f4, ra1, li7, sub1_n a1, ite_iff (nI_le2 (a := cl D v 334 c) (b := D 328 q) (by omega) (by omega))]
    by_cases c2 : cl D v 334 c ≤ D 328 q
    · rw [if_pos c2, ite_iff (eq0_n (a := cl D v 333 c) (by omega))]
      have fin : ∀ p : Prop, ∀ _ : Decidable p, (p ↔ (ui D v q (wxr D v y)) = wpl (cl D v 333 c) (D 328 q)) → (if p then gd ((1 : Int32) = 0 ∨ (1 : Int32) = 1) (some ((1 : Int32), σ)) else gd ((0 : Int32) = 0 ∨ (0 : Int32) = 1) (some ((0 : Int32), σ))) = some (bI ((ui D v q (wxr D v y)) ≠ 999 ∧ mn D v c (D 328 q) (ui D v q (wxr D v y))), σ) := by
        intro p _ hp
        by_cases w : p
        · rw [if_pos w, gd_1, bI_pos ⟨c1, hs, c2, hp.mp w⟩]
        · rw [if_neg w, gd_0, bI_neg (fun y => w (hp.mpr y.2.2.2))]
      by_cases c3 : cl D v 333 c = 0
      · rw [if_pos c3]
        exact fin _ _ (by rw [eq0_n (by omega)]; unfold wpl; rw [if_pos c3])
      · rw [if_neg c3, ite_iff (nI_eq2 (a := cl D v 333 c) (b := 7) (by omega) (by omega))]
        by_cases c4 : cl D v 333 c = 7
        · rw [if_pos c4]
          exact fin _ _ (by rw [nI_eq2 (by omega) (by omega)]; unfold wpl; rw [if_neg c3, if_pos c4])
        · rw [if_neg c4, sub1_n (by omega)]
          exact fin _ _ (by rw [nI_eq2 (by omega) (by omega)]; unfold wpl; rw [if_neg c3, if_neg c4])
    · rw [if_neg c2, bI_neg (fun z => c2 z.2.2.1)]
theorem m_pairsOf (hw : DWt D) (hwr : DWr D) (hM : MD D σ) {v c a b : Nat} (hR : MR D v (8 * D 324 2) σ) (hc : c < ncl D v) (hs : cl D v 332 c < 2) (ha : a < 40) (hb : b < 40) : f_X13_pairsOf (nI (12 * rIx D v + c)) (nI a) (nI b) σ = some (nI (pc D v c a b), σ) := by
  have h24 := hw.1
  have hN := wN_le hw v
  have e39 : rI σ 324 39 = nI (wN D v) := hR.1
  refine ok_eq ?_
  rw [show pc D v c a b = sm (fun x => cnt (fun y => decide (x < y) && tl D v c a b x y) (wN D v)) (wN D v) from (dbl_cnt (fun x y => tl D v c a b x y) (wN D v)).symm]
  unfold f_X13_pairsOf
  refine L_X13_pairsOf_6 (wN D v) (fun x l4 l5 τ => l4 = nI (sm (fun x => cnt (fun y => decide (x < y) && tl D v c a b x y) (wN D v)) x) ∧ l5 = nI x ∧ τ = σ) (by omega) (fun x q l4 l5 τ hk hI hq => ?_) (Nat.zero_le _) ⟨rfl, rfl, rfl⟩
  obtain ⟨rfl, rfl, rfl⟩ := hI
  unfold s_X13_pairsOf_6
  rw [e39]
  simp (disch := omega) only [nI_le2]
  by_cases cx : x < wN D v
  · rw [if_neg (by omega)]
    refine L_X13_pairsOf_21 (wN D v) (fun y l4 l6 τ' => x + 1 ≤ y ∧ l4 = nI (sm (fun x => cnt (fun y => decide (x < y) && tl D v c a b x y) (wN D v)) x + cnt (fun y => decide (x < y) && tl D v c a b x y) y) ∧ l6 = nI y ∧ τ' = τ) (by omega) (fun y q2 l4 l6 τ' hk2 hI2 hq2 => ?_) (k := x + 1) (by omega) ⟨Nat.le_refl _, ?_, nI_1 x, rfl⟩
    · obtain ⟨hxy, rfl, rfl, rfl⟩ := hI2
      unfold s_X13_pairsOf_21 f_X13_pairsOf_97 f_X13_pairsOf_109 f_X13_pairsOf_112
      rw [e39]
      simp (disch := omega) only [nI_le2]
      by_cases cy : y < wN D v
      · rw [if_neg (by omega), m_tellsBy hw hwr hM hR cx cy hc hs, bd_some, ite_bI]
        have no : ¬ tl D v c a b x y = true → ok (q2 (nI (12 * rIx D v + c)) (nI a) (nI b) (nI (sm (fun x => cnt (fun y => decide (x < y) && tl D v c a b x y) (wN D v)) x + cnt (fun y => decide (x < y) && tl D v c a b x y) y)) (nI x) (nI y + 1) τ') (fun r s => r = nI (sm (fun x => cnt (fun y => decide (x < y) && tl D v c a b x y) (wN D v)) (wN D v)) ∧ s = τ') := fun z => hq2 (y + 1) _ _ _ (by omega) (by omega) ⟨by omega, by rw [cnt_s, if_neg (fun w => z (Bool.and_eq_true_iff.mp w).2), Nat.add_zero], nI_1 y, rfl⟩
        have yes : tl D v c a b x y = true → ok (q2 (nI (12 * rIx D v + c)) (nI a) (nI b) (nI (sm (fun x => cnt (fun y => decide (x < y) && tl D v c a b x y) (wN D v)) x + cnt (fun y => decide (x < y) && tl D v c a b x y) y) + 1) (nI x) (nI y + 1) τ') (fun r s => r = nI (sm (fun x => cnt (fun y => decide (x < y) && tl D v c a b x y) (wN D v)) (wN D v)) ∧ s = τ') := fun z => hq2 (y + 1) _ _ _ (by omega) (by omega) ⟨by omega, by rw [cnt_s, if_pos (by rw [decide_eq_true (by omega), z]; rfl), nI_1, Nat.add_assoc], nI_1 y, rfl⟩
        refine ok_ite (fun z => ?_) (fun z => no (fun w => z (of_decide_eq_true w).1))
        rw [m_unlikeAt hw hR cx cy, bd_some]
        obtain ⟨a1, a2, a3, a4, a5⟩ := wxr_dw hw (v := v) (k := x) (Nat.le_refl _) cx
        obtain ⟨b1, b2, b3, b4, b5⟩ := wxr_dw hw (v := v) (k := y) (Nat.le_refl _) cy
        have hu := (ui_spec (D := D) v (wxr D v x) (wxr D v y)).resolve_left z.1
        have s1 := sg_lt hw (v := v) (by omega) a3 hu.2.1 a2
        have s2 := sg_lt hw (v := v) (i := ui D v (wxr D v x) (wxr D v y)) (by omega) b3 (by rw [← hu.1]; exact hu.2.1) b2
        have hl := hu.2.1
        rw [on_n z.1, li6, pk_mul, pk_mul, nI_add, nI_add, gd_n (by omega) (by omega), gd_n (by omega) (by omega)]
        simp (disch := omega) only [nI_ix]
        rw [(hR.2 x cx).2 _ hl, (hR.2 y cy).2 _ (by rw [← hu.1]; exact hl)]
        simp (disch := omega) only [nI_eq2]
        refine ok_ite (fun w1 => ok_ite (fun w2 => yes (decide_eq_true ⟨z, Or.inl ⟨w1, w2⟩⟩)) (fun w2 => ?_)) (fun w1 => ?_)
        · refine ok_ite (fun w3 => ok_ite (fun w4 => yes (decide_eq_true ⟨z, Or.inr ⟨w3, w4⟩⟩)) (fun w4 => no (fun y => ?_))) (fun w3 => no (fun y => ?_))
          · rcases (of_decide_eq_true y).2 with w | w
            · exact w2 w.2
            · exact w4 w.2
          · rcases (of_decide_eq_true y).2 with w | w
            · exact w2 w.2
            · exact w3 w.1
        · refine ok_ite (fun w3 => ok_ite (fun w4 => yes (decide_eq_true ⟨z, Or.inr ⟨w3, w4⟩⟩)) (fun w4 => no (fun y => ?_))) (fun w3 => no (fun y => ?_))
          · rcases (of_decide_eq_true y).2 with w | w
            · exact w1 w.1
            · exact w4 w.2
          · rcases (of_decide_eq_true y).2 with w | w
            · exact w1 w.1
            · exact w3 w.1
      · rw [if_pos (by omega)]
        have e : y = wN D v := by omega
        subst e
        exact hq (x + 1) _ _ _ (by omega) (by omega) ⟨by rw [sm_s], nI_1 x, rfl⟩
    · rw [cnt_zero (p := fun y => decide (x < y) && tl D v c a b x y) (fun i hi => by rw [decide_eq_false (by omega)]; rfl), Nat.add_zero]
  · rw [if_pos (by omega)]
    have e : x = wN D v := by omega
    subst e
    exact ok_ret ⟨rfl, rfl⟩
end TELLS
