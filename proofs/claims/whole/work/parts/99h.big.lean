/-! THE SEARCH: the big step -/
section BIG
variable {D : dD} {v : Nat} {e : seT} {K : Nat → Nat} {n : Nat}
def fq {α : Type} (f : Nat → List α) : Nat → Nat → List α := Nat.rec (fun _ => []) (fun _ F q => f q ++ F (q + 1))
theorem fq_s {α : Type} (f : Nat → List α) (k q : Nat) : fq f (k + 1) q = f q ++ fq f k (q + 1) := rfl
theorem fq_end {α : Type} (f : Nat → List α) (k q : Nat) : fq f (k + 1) q = fq f k q ++ f (q + k) := by
  induction k generalizing q with
  | zero => rw [fq_s]; show f q ++ [] = [] ++ f (q + 0); rw [List.append_nil]; rfl
  | succ k ih => rw [fq_s, ih, fq_s, List.append_assoc, show q + 1 + k = q + (k + 1) by omega]
theorem fl_fq {α : Type} (f : Nat → List α) (k : Nat) : fl f k = fq f k 0 := by
  induction k with
  | zero => rfl
  | succ k ih => rw [fl_s, ih, fq_end, Nat.zero_add]
def cf : Nat → Nat := Nat.rec 0 (fun _ c => 8 * (1 + c) + 1)
theorem cf_s (m : Nat) : cf (m + 1) = 8 * (1 + cf m) + 1 := rfl
abbrev wme (k j : Nat) : Prop := (k = 324 ∧ j = 68) ∨ (370 ≤ k ∧ k ≤ 373) ∨ (k = 369 ∧ 280 ≤ j)
abbrev wGl (l k j : Nat) : Prop := (k = 368 ∧ l ≤ j) ∨ (k = 369 ∧ 40 * (l + 1) ≤ j) ∨ wme k j
theorem m_goes_step (hw : DW D) {md l2 : Int32} {Q : Unit → jM → Prop} (J : List (gF × gF) → jM → Prop) (E : List (gF × gF) → gF × gF → jM → Prop) (hJ : ∀ L τ τ', J L τ → Fr (fun k _ => k = 368 ∨ k = 369) τ τ' → J L τ') {m : Nat} (hch : ∀ (l F0 : Nat) (g' r' : gF) (L : List (gF × gF)) (τ : jM), l + (m + 1) = n → cf m + 2 ≤ F0 → MX D v e K n τ → MG (l + 1) g' τ → MRw (l + 1) r' τ → (∀ i, l + 1 ≤ i → r' i = 99) → J L τ → (∀ τ' F', F0 ≤ F' + cf m → J (L ++ lvs D v e m (l + 1) g' r') τ' → Fr (wGl (l + 1)) τ τ' → ok (f_X13_goesThrough_54 F' md l2 (nI l) 1 τ') Q) → (∀ A x B τ', lvs D v e m (l + 1) g' r' = A ++ x :: B → E (L ++ A) x τ' → Fr (wGl (l + 1)) τ τ' → Q () τ') → ok (if nI l + 1 = rI τ 324 64 then bd (f_X13_meets md l2 τ) (fun r25 σ26 => f_X13_goesThrough_54 F0 md l2 (nI l) r25 σ26) else gd (inb (nI l + 1) 7) (f_X13_goesThrough_54 F0 md l2 (nI l + 1) 1 (wI τ 368 (Int32.toNatClampNeg (nI l + 1)) (-1)))) Q) : ∀ (k l q F : Nat) (g r : gF) (L : List (gF × gF)) (σ : jM), l + (m + 1) = n → k + q = D 327 (e.1 l) → k * (1 + cf m) + 2 ≤ F → MX D v e K n σ → MG l g σ → MRw l r σ → (∀ i, l ≤ i → r i = 99) → rI σ 368 l = zi ((q : Int) - 1) → J L σ → (∀ τ F', F ≤ F' + (k * (1 + cf m) + 1) → J (L ++ fq (kid D v e m l g r) k q) τ → Fr (wGl l) σ τ → ok (f_X13_goesThrough_54 F' md l2 (zi ((l : Int) - 1)) 1 τ) Q) → (∀ A x B τ, fq (kid D v e m l g r) k q = A ++ x :: B → E (L ++ A) x τ → Fr (wGl l) σ τ → Q () τ) → ok (f_X13_goesThrough_54 F md l2 (nI l) 1 σ) Q := by
  intro k
  induction k with
  | zero =>
    intro l q F g r L σ hlm hkq hF hX hg hr hr9 h8 hjl hret hstop
    obtain ⟨F0, rfl⟩ : ∃ F0, F = F0 + 1 := ⟨F - 1, by omega⟩
    have h7 := hX.2.2.1
    obtain ⟨a1, a2, a3, a4, a5, a6, a7⟩ := hX.2.2.2.2 l (by omega)
    have h24 := hw.1.1
    obtain ⟨b1, b2, b3, b4, b5⟩ := hw.1.2.1 (e.1 l) a2
    have e27 : rI σ 327 (e.1 l) = nI (D 327 (e.1 l)) := hX.1.r (by omega) (by omega)
    have eq : zi ((q : Int) - 1) + 1 = nI q := by rw [show (1 : Int32) = zi 1 from rfl, zi_add, nI_zi]; congr 1; omega
    show ok (s_X13_goesThrough_54 (f_X13_goesThrough_54 F0) md l2 (nI l) 1 σ) Q
    rw [q_s_X13_goesThrough_54, if_neg (show ¬ nI l < 0 from i_nlt.mpr (nI_pos' (by omega))), if_neg (by decide), gd_n (by omega) (by omega), gd_n (by omega) (by omega), gd_n (by omega) (by omega), gd_n (by omega) (by omega)]
    simp (disch := omega) only [nI_ix]
    rw [a3]
    simp (disch := omega) only [gd_n, nI_ix]
    rw [a4]
    simp (disch := omega) only [gd_n, nI_ix]
    rw [rI_same, h8, eq, e27, if_pos (by rw [show q = D 327 (e.1 l) by omega]), show nI l + -1 = zi ((l : Int) - 1) by rw [show (-1 : Int32) = zi (-1) from rfl, nI_zi, zi_add]; rfl]
    have hFr : Fr (wGl l) σ (wI σ 368 l (nI q)) := Fr.w Fr.refl (Or.inl ⟨rfl, Nat.le_refl _⟩)
    exact hret _ F0 (by omega) (by show J (L ++ []) _; rw [List.append_nil]; exact hJ _ _ _ hjl (Fr.w Fr.refl (Or.inl rfl))) hFr
  | succ k ihk =>
    intro l q F g r L σ hlm hkq hF hX hg hr hr9 h8 hjl hret hstop
    obtain ⟨F0, rfl⟩ : ∃ F0, F = F0 + 1 := ⟨F - 1, by omega⟩
    have hmul : (k + 1) * (1 + cf m) = k * (1 + cf m) + (1 + cf m) := Nat.succ_mul _ _
    have h7 := hX.2.2.1
    obtain ⟨a1, a2, a3, a4, a5, a6, a7⟩ := hX.2.2.2.2 l (by omega)
    have h24 := hw.1.1
    obtain ⟨b1, b2, b3, b4, b5⟩ := hw.1.2.1 (e.1 l) a2
    have e27 : rI σ 327 (e.1 l) = nI (D 327 (e.1 l)) := hX.1.r (by omega) (by omega)
    have eq : zi ((q : Int) - 1) + 1 = nI q := by rw [show (1 : Int32) = zi 1 from rfl, zi_add, nI_zi]; congr 1; omega
    show ok (s_X13_goesThrough_54 (f_X13_goesThrough_54 F0) md l2 (nI l) 1 σ) Q
    rw [q_s_X13_goesThrough_54, if_neg (show ¬ nI l < 0 from i_nlt.mpr (nI_pos' (by omega))), if_neg (by decide), gd_n (by omega) (by omega), gd_n (by omega) (by omega), gd_n (by omega) (by omega), gd_n (by omega) (by omega)]
    simp (disch := omega) only [nI_ix]
    rw [a3]
    simp (disch := omega) only [gd_n, nI_ix]
    rw [a4]
    simp (disch := omega) only [gd_n, nI_ix]
    rw [rI_same, h8, eq, e27, ite_iff (nI_eq2 (by omega) (by omega)), if_neg (by omega)]
    have hF1 : Fr (wGl l) σ (wI σ 368 l (nI q)) := Fr.w Fr.refl (Or.inl ⟨rfl, Nat.le_refl _⟩)
    have hX1 : MX D v e K n (wI σ 368 l (nI q)) := MX_fr hX (Fr.w Fr.refl (Or.inl (by omega)))
    have hg1 : MG l g (wI σ 368 l (nI q)) := MG_fr hg (fun j _ _ => rI_nk (by omega))
    have hr1 : MRw l r (wI σ 368 l (nI q)) := fun i hi => by rw [rI_nj (by omega)]; exact hr i hi
    have hj1 : J L (wI σ 368 l (nI q)) := hJ _ _ _ hjl (Fr.w Fr.refl (Or.inl rfl))
    refine ok_bd (m_tries hw hX1 (by omega) (by omega) (rI_same _ _ _ _) hg1 hr1 hr9) (fun ret τ1 t => ?_)
    obtain ⟨t1, t2⟩ := t
    have hF2 : Fr (wGl l) σ τ1 := hF1.trans (t1.mono (fun k j z => Or.inr (Or.inl ⟨z.1, by omega⟩)))
    have hX2 : MX D v e K n τ1 := MX_fr hX1 (t1.mono (fun k j z => by omega))
    have hg2 : MG l g τ1 := MG_fr hg1 (fun j _ _ => t1.I _ _ (by omega))
    have hr2 : MRw l r τ1 := fun i hi => by rw [t1.I 368 i (by omega)]; exact hr1 i hi
    have hj2 : J L τ1 := hJ _ _ _ hj1 (t1.mono (fun k j z => Or.inr z.1))
    have e82 : rI τ1 368 l = nI q := (t1.I _ _ (by omega)).trans (rI_same _ _ _ _)
    have ez : nI q = zi (((q + 1 : Nat) : Int) - 1) := by rw [nI_zi]; congr 1; omega
    rcases t2 with ⟨rfl, hno⟩ | ⟨rfl, g', hyes, hg'⟩
    · rw [if_pos rfl]
      have e0 : kid D v e m l g r q = [] := by unfold kid; rw [hno]; rfl
      have ef : fq (kid D v e m l g r) (k + 1) q = fq (kid D v e m l g r) k (q + 1) := by rw [fq_s, e0]; rfl
      refine ihk l (q + 1) F0 g r L τ1 hlm (by omega) (by omega) hX2 hg2 hr2 hr9 (e82.trans ez) hj2 (fun τ F' hF' hjj hff => hret τ F' (by omega) (by rw [ef]; exact hjj) (hF2.trans hff)) (fun A x B τ h1 h2 h3 => hstop A x B τ (by rw [ef]; exact h1) h2 (hF2.trans h3))
    · rw [if_neg (by decide)]
      have e0 : kid D v e m l g r q = lvs D v e m (l + 1) g' (up r l q) := by unfold kid; rw [hyes]; rfl
      have ef : fq (kid D v e m l g r) (k + 1) q = lvs D v e m (l + 1) g' (up r l q) ++ fq (kid D v e m l g r) k (q + 1) := by rw [fq_s, e0]
      have hr3 : MRw (l + 1) (up r l q) τ1 := fun i hi => by
        by_cases ei : i = l
        · subst ei; rw [up_same]; exact ⟨e82, by omega⟩
        · rw [up_ne _ _ ei]; exact hr2 i (by omega)
      have up1 : ∀ {k j : Nat}, wGl (l + 1) k j → wGl l k j := fun z => by omega
      refine hch l F0 g' (up r l q) L τ1 hlm (by omega) hX2 hg' hr3 (fun i hi => by rw [up_ne _ _ (by omega)]; exact hr9 i (by omega)) hj2 (fun τ2 F' hF' hj3 hf3 => ?_) (fun A x B τ2 h1 h2 h3 => hstop A x (B ++ fq (kid D v e m l g r) k (q + 1)) τ2 (by rw [ef, h1, List.append_assoc]; rfl) h2 (hF2.trans (h3.mono (fun k j z => up1 z))))
      have hX3 : MX D v e K n τ2 := MX_fr hX2 (hf3.mono (fun k j z => by omega))
      have hg3 : MG l g τ2 := MG_fr hg2 (fun j _ _ => hf3.I _ _ (by omega))
      have hr4 : MRw l r τ2 := fun i hi => by rw [hf3.I 368 i (by omega)]; exact hr2 i hi
      refine ihk l (q + 1) F' g r (L ++ lvs D v e m (l + 1) g' (up r l q)) τ2 hlm (by omega) (by omega) hX3 hg3 hr4 hr9 ((hf3.I _ _ (by omega)).trans (e82.trans ez)) hj3 (fun τ F2 hF2' hjj hff => hret τ F2 (by omega) (by rw [ef, ← List.append_assoc]; exact hjj) ((hF2.trans (hf3.mono (fun k j z => up1 z))).trans hff)) (fun A x B τ h1 h2 h3 => hstop (lvs D v e m (l + 1) g' (up r l q) ++ A) x B τ (by rw [ef, h1, List.append_assoc]) (by rw [← List.append_assoc]; exact h2) ((hF2.trans (hf3.mono (fun k j z => up1 z))).trans h3))
theorem m_goes_lv (hw : DW D) {md l2 : Int32} {Q : Unit → jM → Prop} (J : List (gF × gF) → jM → Prop) (E : List (gF × gF) → gF × gF → jM → Prop) (hJ : ∀ L τ τ', J L τ → Fr (fun k _ => k = 368 ∨ k = 369) τ τ' → J L τ') (hmeet : ∀ L g r τ, MX D v e K n τ → MG n g τ → MRw n r τ → (∀ i, n ≤ i → r i = 99) → J L τ → ok (f_X13_meets md l2 τ) (fun ret τ' => Fr wme τ τ' ∧ ((ret = 1 ∧ J (L ++ [(g, r)]) τ') ∨ (ret = 0 ∧ E L (g, r) τ')))) (m : Nat) : ∀ (k l q F : Nat) (g r : gF) (L : List (gF × gF)) (σ : jM), l + (m + 1) = n → k + q = D 327 (e.1 l) → k * (1 + cf m) + 2 ≤ F → MX D v e K n σ → MG l g σ → MRw l r σ → (∀ i, l ≤ i → r i = 99) → rI σ 368 l = zi ((q : Int) - 1) → J L σ → (∀ τ F', F ≤ F' + (k * (1 + cf m) + 1) → J (L ++ fq (kid D v e m l g r) k q) τ → Fr (wGl l) σ τ → ok (f_X13_goesThrough_54 F' md l2 (zi ((l : Int) - 1)) 1 τ) Q) → (∀ A x B τ, fq (kid D v e m l g r) k q = A ++ x :: B → E (L ++ A) x τ → Fr (wGl l) σ τ → Q () τ) → ok (f_X13_goesThrough_54 F md l2 (nI l) 1 σ) Q := by
  induction m with
  | zero =>
    refine m_goes_step hw J E hJ (fun l F0 g' r' L τ hlm hF hX hg hr hr9 hj hret hstop => ?_)
    have h7 := hX.2.2.1
    rw [hX.2.2.2.1, nI_1, ite_iff (nI_eq2 (by omega) (by omega)), if_pos (by omega)]
    have en : l + 1 = n := by omega
    subst en
    refine ok_bd (hmeet L g' r' τ hX hg hr hr9 hj) (fun ret τ' t => ?_)
    obtain ⟨t1, t2⟩ := t
    rcases t2 with ⟨rfl, t2⟩ | ⟨rfl, t2⟩
    · exact hret τ' F0 (by show F0 ≤ F0 + 0; omega) t2 (t1.mono (fun k j z => Or.inr (Or.inr z)))
    · obtain ⟨F1, rfl⟩ : ∃ F1, F0 = F1 + 1 := ⟨F0 - 1, by omega⟩
      show ok (s_X13_goesThrough_54 (f_X13_goesThrough_54 F1) md l2 (nI l) 0 τ') Q
      unfold s_X13_goesThrough_54 f_X13_goesThrough_146
      rw [if_neg (show ¬ nI l < 0 from i_nlt.mpr (nI_pos' (by omega))), if_pos rfl]
      exact ok_ret (hstop [] (g', r') [] τ' rfl (by rw [List.append_nil]; exact t2) (t1.mono (fun k j z => Or.inr (Or.inr z))))
  | succ m ihm =>
    refine m_goes_step hw J E hJ (fun l F0 g' r' L τ hlm hF hX hg hr hr9 hj hret hstop => ?_)
    have h7 := hX.2.2.1
    obtain ⟨a1, a2, a3, a4, a5, a6, a7⟩ := hX.2.2.2.2 (l + 1) (by omega)
    obtain ⟨b1, b2, b3, b4, b5⟩ := hw.1.2.1 (e.1 (l + 1)) a2
    have hcf : cf (m + 1) = 8 * (1 + cf m) + 1 := rfl
    have hmul : D 327 (e.1 (l + 1)) * (1 + cf m) ≤ 8 * (1 + cf m) := Nat.mul_le_mul_right _ b4
    rw [hX.2.2.2.1, nI_1, ite_iff (nI_eq2 (by omega) (by omega)), if_neg (by omega), gd_n (by omega) (by omega)]
    simp (disch := omega) only [nI_ix]
    have hF1 : Fr (wGl (l + 1)) τ (wI τ 368 (l + 1) (-1)) := Fr.w Fr.refl (Or.inl ⟨rfl, Nat.le_refl _⟩)
    have elv : lvs D v e (m + 1) (l + 1) g' r' = fq (kid D v e m (l + 1) g' r') (D 327 (e.1 (l + 1))) 0 := by rw [lvs_s, fl_fq]
    refine ihm (D 327 (e.1 (l + 1))) (l + 1) 0 F0 g' r' L (wI τ 368 (l + 1) (-1)) (by omega) (by omega) (by omega) (MX_fr hX (Fr.w Fr.refl (Or.inl (by omega)))) (MG_fr hg (fun j _ _ => rI_nk (by omega))) (fun i hi => by rw [rI_nj (by omega)]; exact hr i hi) hr9 (rI_same _ _ _ _) (hJ _ _ _ hj (Fr.w Fr.refl (Or.inl rfl))) (fun τ' F' hF' hjj hff => ?_) (fun A x B τ' h1 h2 h3 => hstop A x B τ' (by rw [elv]; exact h1) h2 (hF1.trans h3))
    rw [show ((l + 1 : Nat) : Int) - 1 = (l : Int) by omega]
    exact hret τ' F' (by omega) (by rw [elv]; exact hjj) (hF1.trans hff)
end BIG
