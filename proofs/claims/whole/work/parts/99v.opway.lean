/-! way, the op -/
section OPW
variable {σ : jM} {C B P : dD → Nat → jM → Prop}
theorem op_way (h : Inv (KK GK C WK B P) σ) (hS : SK GK C WK B P) (a1 a2 a3 a4 a5 : Int32) : ∃ σ', lw_op 21 a1 a2 a3 a4 a5 σ σ' ∧ Inv (KK GK C WK B P) σ' := by
  have hK := KK_KX hS
  have h55 := (gN h).1.1
  have e38 := (gN h).2.1
  show ∃ σ', (∃ (r : Int32) (σ1 : jM), f_X12_way a1 a2 a3 σ = some (r, σ1) ∧ f_X13_way a1 a2 a3 σ1 = some (r, σ')) ∧ Inv (KK GK C WK B P) σ'
  refine op_q (σ := σ) hK (R := fun r => (∃ v a m, v ≤ 100000 ∧ a < 2147483648 ∧ m < dm σ 324 55 ∧ a1 = nI v ∧ a2 = nI a ∧ a3 = nI m ∧ kn σ a1 ∧ ((r = -1 ∧ ¬ a < (WW (dm σ) v 0).length) ∨ (∃ x, (WW (dm σ) v 0)[a]? = some x ∧ r = wof (dm σ) v x m))) ∨ (r = -1 ∧ ¬ (kn σ a1 ∧ 0 ≤ a2 ∧ (0 ≤ a3 ∧ a3 < nI (dm σ 324 55))))) ?_ ?_
  · unfold f_X12_way f_X12_way_34
    refine ok_ite (fun c1 => ok_ret ⟨h, rfl, rfl, Or.inr ⟨rfl, fun z => i_nlt.mpr z.2.1 c1⟩⟩) (fun c1 => ?_)
    rw [e_hasName, bd_some, ite_bI, e38]
    refine ok_ite (fun c2 => ?_) (fun c2 => ok_ret ⟨h, rfl, rfl, Or.inr ⟨rfl, fun z => c2 z.2.2⟩⟩)
    refine ok_bd (c_seeGrid hS h a1) (fun r τ hh => ?_)
    obtain ⟨rfl, h1, h2, h3, h4⟩ := hh
    have e30 : rI τ 3 0 = rI σ 3 0 := h3.I _ _ (fun z => by have := ccr_ge z; omega)
    rw [ite_bI]
    refine ok_ite (fun c3 => ?_) (fun c3 => ok_ret ⟨h1, h2, e30, Or.inr ⟨rfl, fun z => c3 z.1⟩⟩)
    obtain ⟨v, rfl, hV, hG⟩ := h4 c3
    obtain ⟨a, ha, rfl⟩ := i_of (i_nlt.mp c1)
    obtain ⟨m, hm, rfl⟩ := i_lt c2.1 c2.2 (by omega)
    refine ok_bd (c_findWay hS hV hG ha) (fun r τ1 t => ?_)
    obtain ⟨⟨t1, t2, t3⟩, rfl, t4, t5, t6⟩ := t
    rw [h2] at t4 t5 t6 ⊢
    rw [ite_bI]
    refine ok_ite (fun z => ?_) (fun z => ok_ret ⟨t1.1, t2.trans h2, t3.trans e30, Or.inl ⟨v, a, m, hV.2.1, ha, hm, rfl, rfl, rfl, c3, Or.inl ⟨rfl, z⟩⟩⟩)
    have hx := List.getElem?_eq_getElem z
    obtain ⟨-, g2⟩ := t6 _ hx
    rw [c_rowOfName h.2.1 (List.mem_of_getElem? hx) t4 t5 g2 (by omega), bd_some]
    exact ok_ret ⟨t1.1, t2.trans h2, t3.trans e30, Or.inl ⟨v, a, m, hV.2.1, ha, hm, rfl, rfl, rfl, c3, Or.inr ⟨_, hx, rfl⟩⟩⟩
  · intro r τ hI hD e30 hR
    unfold f_X13_way f_X13_way_40
    have hM := MD_thr hI
    rw [hD] at hM
    have hw := hI.2.1
    rw [hD] at hw
    have e55 : rI (wI τ 324 0 0) 324 55 = nI (dm σ 324 55) := hM.r (by omega) (by omega)
    rw [m_known hI, bd_some, ite_bI, e30]
    rcases hR with ⟨v, a, m, hv, ha, hm, rfl, rfl, rfl, c3, hR⟩ | ⟨rfl, hno⟩
    · rw [if_pos c3, if_neg (i_nlt.mpr (nI_pos' (by omega))), e55, e_within, bd_some, ite_bI, if_pos ((nI_sub1 (by omega)).mpr ⟨nI_pos' (by omega), (nI_lt2 (by omega) (by omega)).mpr hm⟩)]
      refine ok_bd (m_findWay hw hM hv ha) (fun r' τ1 t => ?_)
      obtain ⟨rfl, t2, t3, t4⟩ := t
      have hF := thr_scr t4 (fun k j => wfwy_scr)
      rw [ite_bI]
      rcases hR with ⟨rfl, hn⟩ | ⟨x, hx, rfl⟩
      · rw [if_neg hn]
        exact ok_ret ⟨rfl, hF⟩
      · obtain ⟨-, y2⟩ := t3 x hx
        have hlt : a < (WW (dm σ) v 0).length := by
          rcases Nat.lt_or_ge a (WW (dm σ) v 0).length with w | w
          · exact w
          · rw [List.getElem?_eq_none w] at hx; cases hx
        rw [if_pos hlt, m_wayRow hw t2 y2 (by omega)]
        exact ok_ret ⟨rfl, hF⟩
    · refine ok_ite (fun c3 => ?_) (fun c3 => ok_ret ⟨rfl, Fr_thr τ 0⟩)
      refine ok_ite (fun c2 => ok_ret ⟨rfl, Fr_thr τ 0⟩) (fun c2 => ?_)
      rw [e55, e_within, bd_some, ite_bI, if_neg (fun z => hno ⟨c3, i_nlt.mp c2, (nI_sub1 (by omega)).mp z⟩)]
      exact ok_ret ⟨rfl, Fr_thr τ 0⟩
end OPW
