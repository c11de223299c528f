/-! one way by its number: the reference -/
section FND
variable {D : dD} {σ : jM} {v : Nat} {e : seT} {K : Nat → Nat} {n : Nat}
def J2 (a : Nat) (L : List (gF × gF)) (τ : jM) : Prop := rI τ 324 68 = nI L.length ∧ rI τ 324 69 = nI a ∧ L.length ≤ a
def E2 (n a : Nat) (L : List (gF × gF)) (x : gF × gF) (τ : jM) : Prop := L.length = a ∧ rI τ 324 68 = nI (L.length + 1) ∧ (∀ s, s < 40 → rI τ 371 s = gz (x.1 s)) ∧ ∀ i, i < n → rI τ 370 i = nI (x.2 i)
theorem J2_st (a : Nat) : ∀ L τ τ', J2 a L τ → Fr (fun k _ => k = 368 ∨ k = 369) τ τ' → J2 a L τ' := fun L τ τ' h hF => ⟨(hF.I _ _ (by omega)).trans h.1, (hF.I _ _ (by omega)).trans h.2.1, h.2.2⟩
theorem m_meets2 {a : Nat} (ha : a < 2147483648) {L : List (gF × gF)} {g r : gF} {a2 : Int32} (hn : n ≤ 7) (h64 : rI σ 324 64 = nI n) (hg : MG n g σ) (hr : MRw n r σ) (hJ : J2 a L σ) : ok (f_X13_meets 2 a2 σ) (fun ret τ' => Fr wme σ τ' ∧ ((ret = 1 ∧ J2 a (L ++ [(g, r)]) τ') ∨ (ret = 0 ∧ E2 n a L (g, r) τ'))) := by
  obtain ⟨j1, j2, j3⟩ := hJ
  have hF0 : Fr wme σ (wI σ 324 68 (nI (L.length + 1))) := Fr.w Fr.refl (Or.inl ⟨rfl, rfl⟩)
  unfold f_X13_meets f_X13_meets_169 f_X13_meets_179 f_X13_meets_189
  rw [if_neg (by decide), if_pos rfl, if_neg (show ¬ (2 : Int32) = 3 by decide), if_neg (show ¬ (2 : Int32) = 1 by decide), gd_1]
  simp (disch := omega) only [rI_nj, rI_same]
  rw [h64, j1, j2, nI_1, show nI (L.length + 1) - 1 = nI L.length from nI_pred _, ite_iff (nI_eq2 (by omega) (by omega)), li40, pk_mul]
  refine ok_ite (fun z => ?_) (fun z => ok_ret ⟨hF0, Or.inl ⟨rfl, by rw [rI_same, List.length_append]; rfl, by rw [rI_nj (by omega)]; exact j2, by rw [List.length_append]; show L.length + 1 ≤ a; omega⟩⟩)
  refine L_X13_meets_106 40 (fun s l4 τ => l4 = nI s ∧ Fr wme σ τ ∧ rI τ 324 68 = nI (L.length + 1) ∧ (∀ s', s' < s → rI τ 371 s' = gz (g s')) ∧ MG n g τ) (by omega) (fun s p l4 τ hk hI hp => ?_) (Nat.zero_le _) ⟨rfl, hF0, rI_same _ _ _ _, fun s' hs' => by omega, MG_fr hg (fun j _ _ => rI_nk (by omega))⟩
  obtain ⟨rfl, hF, e68, hA, hg⟩ := hI
  unfold s_X13_meets_106
  rw [li40]
  simp (disch := omega) only [nI_add]
  rw [ite_iff (nI_le2 (by omega) (by omega))]
  by_cases cs : s < 40
  · obtain ⟨u1, u2⟩ := hg s cs
    rw [if_neg (by omega), gd_n (by omega) (by omega), gd_n (by omega) (by omega)]
    simp (disch := omega) only [nI_ix]
    rw [u1]
    refine hp (s + 1) _ _ (by omega) (by omega) ⟨nI_1 s, Fr.w hF (Or.inr (Or.inl (by omega))), by rw [rI_nk (by omega)]; exact e68, fun s' hs' => ?_, MG_fr hg (fun j _ _ => rI_nk (by omega))⟩
    by_cases es : s' = s
    · subst es; exact rI_same _ _ _ _
    · rw [rI_nj es]; exact hA s' (by omega)
  · have es : s = 40 := by omega
    subst es
    rw [if_pos (by omega)]
    refine L_X13_meets_138 n (fun i l4 τ' => l4 = nI i ∧ Fr (fun k _ => k = 370) τ τ' ∧ ∀ i', i' < i → rI τ' 370 i' = nI (r i')) (by omega) (fun i p2 l4 τ' hk2 hI2 hp2 => ?_) (Nat.zero_le _) ⟨rfl, Fr.refl, fun i' hi' => by omega⟩
    obtain ⟨rfl, hF2, hB⟩ := hI2
    unfold s_X13_meets_138
    rw [hF2.I 324 64 (by omega), hF.I 324 64 (by omega), h64, ite_iff (nI_le2 (by omega) (by omega))]
    by_cases ci : i < n
    · rw [if_neg (by omega), gd_n (by omega) (by omega), gd_n (by omega) (by omega)]
      simp (disch := omega) only [nI_ix]
      rw [hF2.I 368 i (by omega), hF.I 368 i (by omega), (hr i ci).1]
      refine hp2 (i + 1) _ _ (by omega) (by omega) ⟨nI_1 i, Fr.w hF2 rfl, fun i' hi' => ?_⟩
      by_cases ei : i' = i
      · subst ei; exact rI_same _ _ _ _
      · rw [rI_nj ei]; exact hB i' (by omega)
    · have ei : i = n := by omega
      subst ei
      rw [if_pos (by omega)]
      exact ok_ret ⟨hF.trans (hF2.mono (fun k j z => Or.inr (Or.inl (by omega)))), Or.inr ⟨rfl, z, (hF2.I _ _ (by omega)).trans e68, fun s' hs' => (hF2.I _ _ (by omega)).trans (hA s' hs'), fun i' hi' => hB i' hi'⟩⟩
abbrev wfwy (k j : Nat) : Prop := wfa k j ∨ (k = 324 ∧ j = 69)
theorem wfwy_scr {k j : Nat} (h : wfwy k j) : scr k j := h.elim wfa_scr (fun z => Or.inl (by omega))
theorem m_findWay (hw : DW D) (hM : MD D σ) (hv : v ≤ 100000) {a : Nat} (ha : a < 2147483648) : ok (f_X13_findWay (nI v) (nI a) σ) (fun r τ => r = bI (a < (WW D v 0).length) ∧ MX D v (ese D v 0) (nmo D v 0) (nse D v 0) τ ∧ (∀ x, (WW D v 0)[a]? = some x → (∀ s, s < 40 → rI τ 371 s = gz (x.1 s)) ∧ ∀ i, i < nse D v 0 → rI τ 370 i = nI (x.2 i)) ∧ Fr wfwy σ τ) := by
  have hlen := WW_len hw (v := v) 0
  unfold f_X13_findWay f_X13_findWay_30
  refine ok_bd (m_takes hw hM (a := 0) (by omega) hv) (fun _ τ1 t => ?_)
  obtain ⟨hX, hF1⟩ := t
  have hX1 : MX D v (ese D v 0) (nmo D v 0) (nse D v 0) (wI τ1 324 69 (nI a)) := by
    obtain ⟨h1, h2, h3, h4, h5⟩ := hX
    refine ⟨MD_fr h1 (W := fun k j => k = 324 ∧ j = 69) (Fr.w Fr.refl ⟨rfl, rfl⟩) (fun k j hp z => by have := pers_ge hp; omega), ML_fr h2 (fun k j z => rI_ne (by omega)), h3, by rw [rI_nj (by omega)]; exact h4, fun i hi => ?_⟩
    obtain ⟨a1, a2, a3, a4, a5, a6, a7⟩ := h5 i hi
    exact ⟨a1, a2, by rw [rI_nk (by omega)]; exact a3, by rw [rI_nk (by omega)]; exact a4, by rw [rI_nk (by omega)]; exact a5, a6, fun j hj => ⟨by rw [rI_nk (by omega)]; exact (a7 j hj).1, (a7 j hj).2⟩⟩
  refine ok_bd (m_goesThrough hw (J2 a) (E2 (nse D v 0) a) (J2_st a) (fun L g r τ' h1 h2 h3 h4 h5 => m_meets2 ha h1.2.2.1 h1.2.2.2.1 h2 h3 h5) hX1 ⟨rI_same _ _ _ _, by rw [rI_nj (by omega), rI_same], Nat.zero_le _⟩) (fun _ τ2 t => ?_)
  obtain ⟨t1, t2⟩ := t
  have hX2 := MX_fr hX1 t1
  have hFt : Fr wfwy σ τ2 := (Fr.w (hF1.mono (V := wfwy) (fun k j z => Or.inl (Or.inl z))) (Or.inr ⟨rfl, rfl⟩)).trans (t1.mono (fun k j z => Or.inl (Or.inr z)))
  rcases t2 with ⟨j1, j2, j3⟩ | ⟨A, x, B, hW, e1, e2, e3, e4⟩
  · have j3 : (WW D v 0).length ≤ a := j3
    have j1 : rI τ2 324 68 = nI (WW D v 0).length := j1
    rw [j1, ite_iff (nI_le2 (by omega) (by omega)), if_pos j3, gd_0]
    exact ok_ret ⟨by rw [bI_neg (by omega)], hX2, fun x hx => (by rw [List.getElem?_eq_none (by omega)] at hx; cases hx), hFt⟩
  · have hW : WW D v 0 = A ++ x :: B := hW
    have hl : (WW D v 0).length = A.length + (B.length + 1) := by rw [hW, List.length_append, List.length_cons]
    rw [e2, ite_iff (nI_le2 (by omega) (by omega)), if_neg (by omega), gd_1]
    refine ok_ret ⟨by rw [bI_pos (by omega)], hX2, fun y hy => ?_, hFt⟩
    rw [hW, List.getElem?_append_right (by omega), show a - A.length = 0 by omega] at hy
    have : x = y := by cases hy; rfl
    subst this
    exact ⟨e3, e4⟩
end FND
