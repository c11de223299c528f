/-! given -/
section GVN
variable {σ : jM} {C B P : dD → Nat → jM → Prop}
theorem c_findWay {v a : Nat} (hS : SK GK C WK B P) (h : Vw (KK GK C WK B P) v σ) (hG : GK (dm σ) v σ) (ha : a < 2147483648) : ok (f_X8_findWay (nI a) σ) (fun r τ => (Vw (KK GK C WK B P) v τ ∧ dm τ = dm σ ∧ rI τ 3 0 = rI σ 3 0) ∧ r = bI (a < (WW (dm σ) v 0).length) ∧ rI τ 296 5 = nI (nse (dm σ) v 0) ∧ (∀ i, i < nse (dm σ) v 0 → rI τ 299 i = nI (nmo (dm σ) v 0 i)) ∧ ∀ x, (WW (dm σ) v 0)[a]? = some x → CG x.1 τ ∧ CR7 x.2 τ) := by
  have hw := h.1.2.1
  have hlen := WW_len hw (v := v) 0
  have hn6 := nse_le hw (v := v) 0
  have hrl := rIx_le hw.2.1 v
  have hrx := rulX_cases (rIx (dm σ) v)
  unfold f_X8_findWay f_X8_findWay_29 f_X8_findWay_30
  refine ok_bd (c_seatNames hw h.1.2.2.1 (a := 0) (by omega) h.2.1 h.2.2.1 h.2.2.2.1.1) (fun _ τ1 t => ?_)
  obtain ⟨t5, tS, tN, tF⟩ := t
  have hF1 : Fr (wsr (rI σ 296 18 ≠ 0) (rIx (dm σ) v)) σ τ1 := tF.mono (fun k j z => Or.inr (by omega))
  refine ok_bd c_clearCells (fun _ τ2 u => ?_)
  obtain ⟨u1, u2, u3, uF⟩ := u
  have hF2 : Fr (wsr (rI σ 296 18 ≠ 0) (rIx (dm σ) v)) σ τ2 := hF1.trans (uF.mono (fun k j z => Or.inr (by omega)))
  have e5 : rI τ2 296 5 = nI (nse (dm σ) v 0) := (uF.I _ _ (by omega)).trans t5
  have e99 : ∀ i, i < nse (dm σ) v 0 → rI τ2 299 i = nI (nmo (dm σ) v 0 i) := fun i hi => (uF.I _ _ (by omega)).trans (tN i hi)
  rw [show (2147483647 : Int32) = nI 2147483647 from rfl, ite_iff (nI_le2 (by omega) (by omega))]
  refine ok_ite (fun z => ?_) (fun z => ?_)
  · rw [gd_0]
    exact ok_ret ⟨Vw_srch hS h hF2, by rw [bI_neg (by omega)], e5, e99, fun x hx => (by rw [List.getElem?_eq_none (by omega)] at hx; cases hx)⟩
  · rw [nI_1]
    have no : ∀ {k j : Nat}, ¬ (k = 297 ∨ (k = 296 ∧ j = 1)) → ¬ (k = 298 ∨ (k = 296 ∧ (j = 5 ∨ j = 13 ∨ j = 16 ∨ j = 17)) ∨ (299 ≤ k ∧ k ≤ 321) ∨ k = rulX (rIx (dm σ) v) + 7 ∨ k = rulX (rIx (dm σ) v) + 8) → ¬ wsr (rI σ 296 18 ≠ 0) (rIx (dm σ) v) k j := fun a c z => z.elim (fun y => a y.2) c
    obtain ⟨i1, i2, i3⟩ := Vw_srch hS h hF2
    have hX : CX (dm σ) v (ese (dm σ) v 0) (nse (dm σ) v 0) τ2 := by
      have hcd := i1.1.2.2.1
      have hst := i1.2.2.2.1.2
      rw [i2] at hcd hst
      refine ⟨hcd.1, GK_St _ _ _ _ (fun k j hr => ⟨hF2.I _ _ (no (by omega) (by omega)), hF2.L _ _ (no (by omega) (by omega))⟩) hG, hst, tS.1, fun i hi => ?_⟩
      obtain ⟨s1, s2, s3, s4, s5⟩ := tS.2 i hi
      exact ⟨s1, s2, (uF.I _ _ (by omega)).trans s3, (uF.I _ _ (by omega)).trans s4, fun j hj => ⟨(s5 j hj).1, (uF.I _ _ (by omega)).trans (s5 j hj).2⟩⟩
    have e18 : (rI σ 296 18 ≠ 0) ↔ rI τ2 296 18 ≠ 0 := by rw [hF2.I 296 18 (no (by omega) (by omega))]
    have hla := c_layAll (M := a + 1) hw (Nat.le_refl _) (by omega) (by omega) (rI σ 296 18 ≠ 0) hX e5 e18 u3 u1 u2 (fun i _ => rfl) (fun i _ h => absurd rfl h)
    refine ok_bd (R := DQ (rI σ 296 18 ≠ 0) (a + 1) g0 r0 (WW (dm σ) v 0) τ2) hla (fun ret τ3 hh => ?_)
    obtain ⟨hF3, hres⟩ := hh
    have hFt : Fr (wsr (rI σ 296 18 ≠ 0) (rIx (dm σ) v)) σ τ3 := hF2.trans (hF3.mono (fun k j z => by
      rcases z with (z | z) | z
      · exact Or.inl z
      · exact Or.inr (by omega)
      · exact Or.inr (by omega)))
    have n3 : ∀ {k j : Nat}, ¬ (k = 297 ∨ (k = 296 ∧ j = 1)) → ¬ (wD0 0 k j ∨ (k = 296 ∧ j = 17)) → ¬ wA (rI σ 296 18 ≠ 0) k j := fun a c z => by
      rcases z with (z | z) | z
      · exact a z.2
      · exact c (Or.inl z)
      · exact c (Or.inr z)
    have e5' : rI τ3 296 5 = nI (nse (dm σ) v 0) := (hF3.I _ _ (n3 (by omega) (by omega))).trans e5
    have e99' : ∀ i, i < nse (dm σ) v 0 → rI τ3 299 i = nI (nmo (dm σ) v 0 i) := fun i hi => (hF3.I _ _ (n3 (by omega) (by omega))).trans (e99 i hi)
    rcases hres with ⟨x1, rfl, x3⟩ | ⟨x1, rfl, x, x3, x4, x5, x6⟩
    · rw [if_pos rfl, gd_0]
      exact ok_ret ⟨Vw_srch hS h hFt, by rw [bI_neg (by omega)], e5', e99', fun x hx => (by rw [List.getElem?_eq_none (by omega)] at hx; cases hx)⟩
    · rw [if_neg (by decide), gd_1]
      refine ok_ret ⟨Vw_srch hS h hFt, by rw [bI_pos (by omega)], e5', e99', fun y hy => ?_⟩
      rw [show a + 1 - 1 = a by omega, hy] at x3
      have : y = x := by cases x3; rfl
      subst this
      exact ⟨x4, x5⟩
theorem op_given (h : Inv (KK GK C WK B P) σ) (hS : SK GK C WK B P) (a1 a2 a3 a4 a5 : Int32) : ∃ σ', lw_op 22 a1 a2 a3 a4 a5 σ σ' ∧ Inv (KK GK C WK B P) σ' := by
  have hK := KK_KX hS
  show ∃ σ', (∃ (r : Int32) (σ1 : jM), f_X12_given a1 a2 a3 σ = some (r, σ1) ∧ f_X13_given a1 a2 a3 σ1 = some (r, σ')) ∧ Inv (KK GK C WK B P) σ'
  refine op_q (σ := σ) hK (R := fun r => (∃ v a s, v ≤ 100000 ∧ a < 2147483648 ∧ s < 40 ∧ a1 = nI v ∧ a2 = nI a ∧ a3 = nI s ∧ kn σ a1 ∧ ((r = -1 ∧ ¬ a < (WW (dm σ) v 0).length) ∨ (∃ x, (WW (dm σ) v 0)[a]? = some x ∧ r = gz (x.1 (std (dm σ) v s))))) ∨ (r = -1 ∧ ¬ (kn σ a1 ∧ 0 ≤ a2 ∧ (0 ≤ a3 ∧ a3 < 40)))) ?_ ?_
  · unfold f_X12_given f_X12_given_30
    refine ok_ite (fun c1 => ok_ret ⟨h, rfl, rfl, Or.inr ⟨rfl, fun z => i_nlt.mpr z.2.1 c1⟩⟩) (fun c1 => ?_)
    rw [e_isSign, bd_some, ite_bI]
    refine ok_ite (fun c2 => ?_) (fun c2 => ok_ret ⟨h, rfl, rfl, Or.inr ⟨rfl, fun z => c2 z.2.2⟩⟩)
    refine ok_bd (c_seeGrid hS h a1) (fun r τ hh => ?_)
    obtain ⟨rfl, h1, h2, h3, h4⟩ := hh
    have e30 : rI τ 3 0 = rI σ 3 0 := h3.I _ _ (fun z => by have := ccr_ge z; omega)
    rw [ite_bI]
    refine ok_ite (fun c3 => ?_) (fun c3 => ok_ret ⟨h1, h2, e30, Or.inr ⟨rfl, fun z => c3 z.1⟩⟩)
    obtain ⟨v, rfl, hV, hG⟩ := h4 c3
    obtain ⟨a, ha, rfl⟩ := i_of (i_nlt.mp c1)
    obtain ⟨s, hs, rfl⟩ := i_lt (n := 40) c2.1 c2.2 (by omega)
    have hst := std_lt (D := dm σ) v hs
    refine ok_bd (c_findWay hS hV hG ha) (fun r τ1 t => ?_)
    obtain ⟨⟨t1, t2, t3⟩, rfl, -, -, t6⟩ := t
    rw [h2] at t6 ⊢
    rw [ite_bI]
    refine ok_ite (fun z => ?_) (fun z => ok_ret ⟨t1.1, t2.trans h2, t3.trans e30, Or.inl ⟨v, a, s, hV.2.1, ha, hs, rfl, rfl, rfl, c3, Or.inl ⟨rfl, z⟩⟩⟩)
    have hx := List.getElem?_eq_getElem z
    obtain ⟨g1, -⟩ := t6 _ hx
    have e18 : rI τ1 18 s = nI (std (dm σ) v s) := by rw [← h2, ← t2]; exact t1.2.2.2.1.2 s hs
    rw [gd_n hs (by omega)]
    simp (disch := omega) only [nI_ix]
    rw [e18, gd_n hst (by omega)]
    simp (disch := omega) only [nI_ix]
    rw [(g1.1 _ hst).1]
    exact ok_ret ⟨t1.1, t2.trans h2, t3.trans e30, Or.inl ⟨v, a, s, hV.2.1, ha, hs, rfl, rfl, rfl, c3, Or.inr ⟨_, hx, rfl⟩⟩⟩
  · intro r τ hI hD e30 hR
    unfold f_X13_given f_X13_given_47 f_X13_given_48
    have hM := MD_thr hI
    rw [hD] at hM
    have hw := hI.2.1
    rw [hD] at hw
    rw [m_known hI, bd_some, ite_bI, e30]
    rcases hR with ⟨v, a, s, hv, ha, hs, rfl, rfl, rfl, c3, hR⟩ | ⟨rfl, hno⟩
    · have hst := std_lt (D := dm σ) v hs
      rw [if_pos c3, if_neg (i_nlt.mpr (nI_pos' (by omega))), e_isSignNumber, bd_some, ite_bI, if_pos ⟨nI_pos' (by omega), (nI_lt2 (b := 40) (by omega) (by omega)).mpr hs⟩]
      refine ok_bd (m_findWay hw hM hv ha) (fun r' τ1 t => ?_)
      obtain ⟨rfl, t2, t3, t4⟩ := t
      have hF := thr_scr t4 (fun k j => wfwy_scr)
      rw [ite_bI]
      rcases hR with ⟨rfl, hn⟩ | ⟨x, hx, rfl⟩
      · rw [if_neg hn]
        exact ok_ret ⟨rfl, hF⟩
      · obtain ⟨y1, -⟩ := t3 x hx
        have hlt : a < (WW (dm σ) v 0).length := by
          rcases Nat.lt_or_ge a (WW (dm σ) v 0).length with w | w
          · exact w
          · rw [List.getElem?_eq_none w] at hx; cases hx
        rw [if_pos hlt, gd_n hs (by omega)]
        simp (disch := omega) only [nI_ix]
        rw [t2.2.1.1 s hs, gd_n hst (by omega)]
        simp (disch := omega) only [nI_ix]
        rw [y1 _ hst]
        exact ok_ret ⟨rfl, hF⟩
    · refine ok_ite (fun c3 => ?_) (fun c3 => ok_ret ⟨rfl, Fr_thr τ 0⟩)
      refine ok_ite (fun c2 => ok_ret ⟨rfl, Fr_thr τ 0⟩) (fun c2 => ?_)
      rw [e_isSignNumber, bd_some, ite_bI, if_neg (fun z => hno ⟨c3, i_nlt.mp c2, z⟩)]
      exact ok_ret ⟨rfl, Fr_thr τ 0⟩
end GVN
