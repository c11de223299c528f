/-! THE SEARCH: the reference goes through the tree -/
section GOES
variable {D : dD} {σ : jM} {v : Nat} {e : seT} {K : Nat → Nat} {n : Nat}
def MS (D : dD) (e : seT) (K : Nat → Nat) (n : Nat) (σ : jM) : Prop := n ≤ 7 ∧ rI σ 324 64 = nI n ∧ ∀ i, i < n → K i < 7 ∧ e.1 i < D 324 2 ∧ rI σ 367 i = nI (K i) ∧ rI σ 361 (K i) = nI (e.1 i) ∧ rI σ 365 (K i) = nI (e.2.1 i) ∧ e.2.1 i ≤ 8 ∧ ∀ j, j < e.2.1 i → rI σ 364 (8 * K i + j) = nI (e.2.2 i j) ∧ e.2.2 i j < 135
def MX (D : dD) (v : Nat) (e : seT) (K : Nat → Nat) (n : Nat) (σ : jM) : Prop := MD D σ ∧ ML D v σ ∧ MS D e K n σ
abbrev wG (k j : Nat) : Prop := (368 ≤ k ∧ k ≤ 373) ∨ (k = 324 ∧ j = 68)
theorem MX_fr {τ : jM} (h : MX D v e K n σ) (hF : Fr wG σ τ) : MX D v e K n τ := by
  obtain ⟨h1, h2, h3, h4, h5⟩ := h
  refine ⟨MD_fr h1 hF (fun k j hp z => by have := pers_ge hp; omega), ML_fr h2 (fun k j z => hF.I _ _ (by omega)), h3, (hF.I _ _ (by omega)).trans h4, fun i hi => ?_⟩
  obtain ⟨a1, a2, a3, a4, a5, a6, a7⟩ := h5 i hi
  exact ⟨a1, a2, (hF.I _ _ (by omega)).trans a3, (hF.I _ _ (by omega)).trans a4, (hF.I _ _ (by omega)).trans a5, a6, fun j hj => ⟨(hF.I _ _ (by omega)).trans (a7 j hj).1, (a7 j hj).2⟩⟩
def MRw (l : Nat) (r : gF) (σ : jM) : Prop := ∀ i, i < l → rI σ 368 i = nI (r i) ∧ r i < 8
theorem m_tries (hw : DW D) {l q : Nat} {g r : gF} (hX : MX D v e K n σ) (hl : l < n) (hq : q < D 327 (e.1 l)) (h8 : rI σ 368 l = nI q) (hg : MG l g σ) (hr : MRw l r σ) (hr9 : ∀ i, l ≤ i → r i = 99) : ok (f_X13_tries (nI l) σ) (fun ret τ => Fr (wlv (l + 1)) σ τ ∧ ((ret = 0 ∧ stpo D v e l q g r = none) ∨ (ret = 1 ∧ ∃ g', stpo D v e l q g r = some g' ∧ MG (l + 1) g' τ))) := by
  obtain ⟨hM, hL, h3, h4, h5⟩ := hX
  have hX : MX D v e K n σ := ⟨hM, hL, h3, h4, h5⟩
  obtain ⟨a1, a2, a3, a4, a5, a6, a7⟩ := h5 l hl
  have h24 := hw.1.1
  obtain ⟨b1, b2, b3, b4, b5⟩ := hw.1.2.1 (e.1 l) a2
  unfold f_X13_tries
  rw [gd_n (by omega) (by omega)]
  simp (disch := omega) only [nI_ix]
  rw [a3]
  refine L_X13_tries_9 l (fun i l3 τ => l3 = nI i ∧ τ = σ ∧ ∀ i', i' < i → r i' = q → e.1 i' ≠ e.1 l) (by omega) (fun i p l3 τ hk hI hp => ?_) (Nat.zero_le _) ⟨rfl, rfl, fun i' hi' => by omega⟩
  obtain ⟨rfl, rfl, hO⟩ := hI
  unfold s_X13_tries_9 f_X13_tries_51
  rw [ite_iff (nI_le2 (by omega) (by omega))]
  by_cases ci : i < l
  · obtain ⟨c1, c2, c3, c4, c5, c6, c7⟩ := h5 i (by omega)
    obtain ⟨r1, r2⟩ := hr i ci
    have go : (r i = q → e.1 i ≠ e.1 l) → ok (p (nI l) (nI (K l)) (nI i + 1) τ) (fun ret τ' => Fr (wlv (l + 1)) τ τ' ∧ ((ret = 0 ∧ stpo D v e l q g r = none) ∨ (ret = 1 ∧ ∃ g', stpo D v e l q g r = some g' ∧ MG (l + 1) g' τ'))) := fun h => hp (i + 1) _ _ (by omega) (by omega) ⟨nI_1 i, rfl, fun i' hi' => by
      by_cases ei : i' = i
      · subst ei; exact h
      · exact hO i' (by omega)⟩
    rw [if_neg (by omega)]
    simp (disch := omega) only [gd_n, nI_ix]
    rw [c3]
    simp (disch := omega) only [gd_n, nI_ix]
    rw [c4, a4, r1, h8, ite_iff (nI_eq2 (by omega) (by omega))]
    refine ok_ite (fun z => ?_) (fun z => go (fun _ => z))
    rw [ite_iff (nI_eq2 (by omega) (by omega))]
    refine ok_ite (fun y => ok_ret ⟨Fr.refl, Or.inl ⟨rfl, ?_⟩⟩) (fun y => go (fun w => absurd w y))
    unfold stpo
    rw [if_neg (fun w => (decP_t.mp w).2 i (by omega) y z)]
  · have ei : i = l := by omega
    subst ei
    have hopn : opn e r i q := fun i' hi' hri => by
      rcases Nat.lt_or_ge i' i with w | w
      · exact hO i' w hri
      · have := hr9 i' w; omega
    rw [if_pos (by omega)]
    refine L_X13_tries_59 40 (fun s l3 τ' => l3 = nI s ∧ Fr (wlv (i + 1)) τ τ' ∧ ∀ s', s' < s → rI τ' 369 (40 * (i + 1) + s') = gz (g s')) (by omega) (fun s p2 l3 τ' hk2 hI2 hp2 => ?_) (Nat.zero_le _) ⟨rfl, Fr.refl, fun s' hs' => by omega⟩
    obtain ⟨rfl, hF, hS⟩ := hI2
    unfold s_X13_tries_59
    rw [li40, nI_1 i]
    simp (disch := omega) only [pk_mul, nI_add]
    rw [ite_iff (nI_le2 (by omega) (by omega))]
    by_cases cs : s < 40
    · rw [if_neg (by omega), gd_n (by omega) (by omega), gd_n (by omega) (by omega)]
      simp (disch := omega) only [nI_ix]
      refine hp2 (s + 1) _ _ (by omega) (by omega) ⟨nI_1 s, Fr.w hF ⟨rfl, by omega, by omega⟩, fun s' hs' => ?_⟩
      by_cases es : s' = s
      · subst es
        rw [rI_same, hF.I 369 (40 * i + s') (by omega)]
        exact (hg s' cs).1
      · rw [rI_nj (by omega)]
        exact hS s' (by omega)
    · have es : s = 40 := by omega
      subst es
      have hX2 : MX D v e K n τ' := MX_fr hX (hF.mono (fun k j z => by omega))
      obtain ⟨d1, d2, d3, d4, d5, d6, d7⟩ := hX2.2.2.2.2 i hl
      have e8 : rI τ' 368 i = nI q := (hF.I _ _ (by omega)).trans h8
      have hg1 : MG (i + 1) g τ' := fun s' hs' => ⟨hS s' hs', (hg s' hs').2⟩
      rw [if_pos (by omega), gd_n (by omega) (by omega), gd_n (by omega) (by omega)]
      simp (disch := omega) only [nI_ix]
      rw [d4, e8, li8]
      simp (disch := omega) only [pk_mul, nI_add]
      refine ok_bd (m_agrees hw (L := i + 1) hX2.1 hX2.2.1 (by omega) a2 hq a1 d5 a6 d7 hg1) (fun ret τ2 t => ?_)
      obtain ⟨t1, t2⟩ := t
      rcases t2 with ⟨rfl, t2⟩ | ⟨rfl, t2, g', t3, t4⟩
      · rw [gd_0]
        refine ok_ret ⟨hF.trans t1, Or.inl ⟨rfl, ?_⟩⟩
        unfold stpo
        by_cases co : opb D e r i q = true
        · rw [if_pos co]
          exact t2.resolve_left (fun w => w (decP_t.mp co).1)
        · rw [if_neg co]
      · rw [gd_1]
        refine ok_ret ⟨hF.trans t1, Or.inr ⟨rfl, g', ?_, t4⟩⟩
        unfold stpo
        rw [if_pos (show opb D e r i q = true from decP_t.mpr ⟨t2, hopn⟩)]
        exact t3
end GOES
