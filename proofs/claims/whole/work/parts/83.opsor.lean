section OPOR
variable {σ : jM} {G C W B : dD → Nat → jM → Prop}
/-- a query that asks of a day: class and reference -/
theorem q_known {K : dD → Nat → jM → Prop} {τ : jM} (h : Inv K σ) (h2 : dm τ = dm σ) (hI : Inv K τ) (e0 : rI τ 3 0 = rI σ 3 0) : True := trivial
theorem op_often (h : Inv (KK G C W B PK) σ) (hS : SK G C W B PK) (a1 a2 a3 a4 a5 : Int32) : ∃ σ', lw_op 33 a1 a2 a3 a4 a5 σ σ' ∧ Inv (KK G C W B PK) σ' := by
  have hK := KK_KX hS
  show ∃ σ', (∃ (r : Int32) (σ1 : jM), f_X12_often a1 a2 a3 σ = some (r, σ1) ∧ f_X13_often a1 a2 a3 σ1 = some (r, σ')) ∧ Inv (KK G C W B PK) σ'
  refine op_mk (Q := fun r τ => Inv (KK G C W B PK) τ ∧ rI τ 3 0 = rI σ 3 0 ∧ ((∃ s v x, s < 40 ∧ v ≤ 100000 ∧ x < 5 ∧ a1 = nI s ∧ a2 = nI v ∧ a3 = nI x ∧ (0 ≤ a2 ∧ a2 ≤ rI σ 3 0) ∧ r = nI (oft (dm τ) v (std (dm τ) v s) x)) ∨ (¬ ((0 ≤ a1 ∧ a1 < 40) ∧ (0 ≤ a2 ∧ a2 ≤ rI σ 3 0) ∧ (0 ≤ a3 ∧ a3 ≤ 4)) ∧ r = -1))) ?_ ?_
  · unfold f_X12_often f_X12_often_24
    rw [e_isSign, bd_some, ite_bI]
    have no : ∀ τ, Inv (KK G C W B PK) τ → rI τ 3 0 = rI σ 3 0 → ¬ ((0 ≤ a1 ∧ a1 < 40) ∧ (0 ≤ a2 ∧ a2 ≤ rI σ 3 0) ∧ (0 ≤ a3 ∧ a3 ≤ 4)) → ok (some ((-1 : Int32), τ)) (fun r τ => Inv (KK G C W B PK) τ ∧ rI τ 3 0 = rI σ 3 0 ∧ ((∃ s v x, s < 40 ∧ v ≤ 100000 ∧ x < 5 ∧ a1 = nI s ∧ a2 = nI v ∧ a3 = nI x ∧ (0 ≤ a2 ∧ a2 ≤ rI σ 3 0) ∧ r = nI (oft (dm τ) v (std (dm τ) v s) x)) ∨ (¬ ((0 ≤ a1 ∧ a1 < 40) ∧ (0 ≤ a2 ∧ a2 ≤ rI σ 3 0) ∧ (0 ≤ a3 ∧ a3 ≤ 4)) ∧ r = -1))) := fun τ h1 h2 h3 => ok_ret ⟨h1, h2, Or.inr ⟨h3, rfl⟩⟩
    refine ok_ite (fun c1 => ok_ite (fun c2 => no σ h rfl (fun z => i_nlt.mpr z.2.2.1 c2)) (fun c2 => ok_ite (fun c3 => no σ h rfl (fun z => i_nlt.mpr z.2.2.2 c3)) (fun c3 => ?_))) (fun c1 => no σ h rfl (fun z => c1 z.1))
    refine ok_bd (c_see h KK_KC a2) (fun r τ hh => ?_)
    obtain ⟨rfl, h1, h2, h3, h4⟩ := hh
    have e30 : rI τ 3 0 = rI σ 3 0 := h3.I _ _ (fun z => by have := ccr_ge z; omega)
    rw [ite_bI]
    refine ok_ite (fun c4 => ?_) (fun c4 => no τ h1 e30 (fun z => c4 z.2.1))
    obtain ⟨v, rfl, hV⟩ := h4 c4
    obtain ⟨s, hs, rfl⟩ := i_lt (n := 40) c1.1 c1.2 (by omega)
    obtain ⟨x, hx, rfl⟩ := i_le (n := 4) (i_nlt.mp c2) (i_nlt.mp c3) (by omega)
    refine ok_bd (c_places hS hV) (fun _ τ' hh => ?_)
    obtain ⟨g1, g2, g3, g4⟩ := hh
    have hl := std_lt (D := dm τ) v hs
    have e18 : rI τ' 18 s = nI (std (dm τ) v s) := by rw [← g2]; exact g1.2.2.2.1.2 s hs
    rw [gd_n hs (by omega), nI_ix (by omega), e18, li5, pk_mul, nI_add, gd_n (by omega) (by omega), nI_ix (by omega), g4 _ hl x (by omega)]
    exact ok_ret ⟨g1.1, g3.trans e30, Or.inl ⟨s, v, x, hs, hV.2.1, by omega, rfl, rfl, rfl, c4, by rw [g2]⟩⟩
  · intro r τ hq
    obtain ⟨hI, e30, hq⟩ := hq
    unfold f_X13_often f_X13_often_29
    rw [e_isSignNumber, bd_some, ite_bI]
    rcases hq with ⟨s, v, x, hs, hv, hx, rfl, rfl, rfl, c2, rfl⟩ | ⟨c, rfl⟩
    · rw [if_pos ⟨nI_pos' (by omega), (nI_lt2 (b := 40) (by omega) (by omega)).mpr hs⟩, m_known hI, bd_some, ite_bI, e30, if_pos c2, e_within, bd_some, ite_bI, if_pos ⟨nI_pos' (by omega), (nI_le2 (b := 4) (by omega) (by omega)).mpr (by omega)⟩]
      refine ok_bd (m_findStands (gH hI).1 (MD_thr hI) hv) (fun _ τ' hh => ?_)
      rw [gd_n hs (by omega), nI_ix (by omega), hh.1 s hs, m_oftenOf (gT hI).1 (MD_fr (MD_thr hI) hh.2 (fun k j hp z => scr_pers hp (scr_343 z))) hv hh.1 (std_lt v hs) hx, bd_some]
      exact ok_ret ⟨rfl, Inv_scr hK (Inv_thr hK hI 0) (hh.2.mono (fun k j => scr_343))⟩
    · have fin : ok (some ((-1 : Int32), wI τ 324 0 0)) (fun r' σ' => r' = -1 ∧ Inv (KK G C W B PK) σ') := ok_ret ⟨rfl, Inv_thr hK hI 0⟩
      refine ok_ite (fun c1 => ?_) (fun c1 => fin)
      rw [m_known hI, bd_some, ite_bI, e30]
      refine ok_ite (fun c2 => ?_) (fun c2 => fin)
      rw [e_within, bd_some, ite_bI, if_neg (fun z => c ⟨c1, c2, z⟩)]
      exact fin
theorem op_rank (h : Inv (KK G C W B PK) σ) (hS : SK G C W B PK) (a1 a2 a3 a4 a5 : Int32) : ∃ σ', lw_op 34 a1 a2 a3 a4 a5 σ σ' ∧ Inv (KK G C W B PK) σ' := by
  have hK := KK_KX hS
  show ∃ σ', (∃ (r : Int32) (σ1 : jM), f_X12_rank a1 a2 σ = some (r, σ1) ∧ f_X13_rank a1 a2 σ1 = some (r, σ')) ∧ Inv (KK G C W B PK) σ'
  refine op_mk (Q := fun r τ => Inv (KK G C W B PK) τ ∧ rI τ 3 0 = rI σ 3 0 ∧ ((∃ v, v ≤ 100000 ∧ a1 = nI v ∧ 0 ≤ a2 ∧ (0 ≤ a1 ∧ a1 ≤ rI σ 3 0) ∧ r = on (fi (rkp (dm τ) v a2) 40 0)) ∨ (¬ ((0 ≤ a1 ∧ a1 ≤ rI σ 3 0) ∧ 0 ≤ a2) ∧ r = -1))) ?_ ?_
  · unfold f_X12_rank f_X12_rank_12
    refine ok_ite (fun c1 => ok_ret ⟨h, rfl, Or.inr ⟨fun z => i_nlt.mpr z.2 c1, rfl⟩⟩) (fun c1 => ?_)
    refine ok_bd (c_see h KK_KC a1) (fun r τ hh => ?_)
    obtain ⟨rfl, h1, h2, h3, h4⟩ := hh
    have e30 : rI τ 3 0 = rI σ 3 0 := h3.I _ _ (fun z => by have := ccr_ge z; omega)
    rw [ite_bI]
    refine ok_ite (fun c4 => ?_) (fun c4 => ok_ret ⟨h1, e30, Or.inr ⟨fun z => c4 z.1, rfl⟩⟩)
    obtain ⟨v, rfl, hV⟩ := h4 c4
    refine ok_bd (c_places hS hV) (fun _ τ' hh => ?_)
    obtain ⟨g1, g2, g3, g4⟩ := hh
    rw [c_signRanked (gT hV.1).1 g4 a2, bd_some]
    exact ok_ret ⟨g1.1, g3.trans e30, Or.inl ⟨v, hV.2.1, rfl, i_nlt.mp c1, c4, by rw [g2]⟩⟩
  · intro r τ hq
    obtain ⟨hI, e30, hq⟩ := hq
    unfold f_X13_rank f_X13_rank_17
    rw [m_known hI, bd_some, ite_bI, e30]
    rcases hq with ⟨v, hv, rfl, c1, c2, rfl⟩ | ⟨c, rfl⟩
    · rw [if_pos c2, if_pos c1]
      refine ok_bd (m_findStands (gH hI).1 (MD_thr hI) hv) (fun _ τ' hh => ?_)
      rw [m_rank26 (gT hI).1 (MD_fr (MD_thr hI) hh.2 (fun k j hp z => scr_pers hp (scr_343 z))) hv hh.1]
      exact ok_ret ⟨rfl, Inv_scr hK (Inv_thr hK hI 0) (hh.2.mono (fun k j => scr_343))⟩
    · have fin : ok (some ((-1 : Int32), wI τ 324 0 0)) (fun r' σ' => r' = -1 ∧ Inv (KK G C W B PK) σ') := ok_ret ⟨rfl, Inv_thr hK hI 0⟩
      exact ok_ite (fun c1 => ok_ite (fun c2 => absurd ⟨c1, c2⟩ c) (fun _ => fin)) (fun _ => fin)
end OPOR
