/-! inGrid -/
section ING
variable {D : dD} {σ : jM} {v : Nat} {C B P : dD → Nat → jM → Prop}
noncomputable def hlp (W : List (gF × gF)) (c s : Nat) : Bool := decide (0 < W.length ∧ lct s c W = W.length)
theorem c_holderOf (hw : DW D) (hW : WK D v σ) {c : Nat} (hc : c < 135) : f_X1_holderOf (nI c) σ = some (on (fi (hlp (WW D v 0) c) 40 0), σ) := by
  have hlen := WW_len hw (v := v) 0
  refine ok_eq ?_
  unfold f_X1_holderOf
  generalize hR : fi (hlp (WW D v 0) c) 40 0 = R
  refine L_X1_holderOf_2 40 (fun s l2 τ => l2 = nI s ∧ τ = σ ∧ R = fi (hlp (WW D v 0) c) (40 - s) s) (by omega) (fun s p l2 τ hk hI hp => ?_) (Nat.zero_le _) ⟨rfl, rfl, hR.symm⟩
  obtain ⟨rfl, rfl, hq⟩ := hI
  unfold s_X1_holderOf_2 f_X1_holderOf_30
  rw [li40, ite_iff (nI_le2 (by omega) (by omega))]
  by_cases cs : s < 40
  · have hle := lct_le s c (WW D v 0)
    rw [show 40 - s = (39 - s) + 1 by omega, fi_s] at hq
    have go : ¬ (0 < (WW D v 0).length ∧ lct s c (WW D v 0) = (WW D v 0).length) → ok (p (nI c) (nI s + 1) τ) (fun a s => a = on R ∧ s = τ) := fun z => by
      rw [if_neg (show ¬ hlp (WW D v 0) c s = true from fun y => z (of_decide_eq_true y))] at hq
      exact hp (s + 1) _ _ (by omega) (by omega) ⟨nI_1 s, rfl, by rw [show 40 - (s + 1) = 39 - s by omega]; exact hq⟩
    rw [if_neg (by omega), hW.1, ite_iff (show nI (WW D v 0).length ≤ 0 ↔ (WW D v 0).length ≤ 0 from nI_le2 (b := 0) (by omega) (by omega))]
    refine ok_ite (fun z => go (fun y => by omega)) (fun z => ?_)
    rw [e_waysWith cs hc, bd_some, hW.2.1 s cs c hc, hW.1, ite_iff (nI_eq2 (by omega) (by omega))]
    refine ok_ite (fun y => ?_) (fun y => go (fun w => y w.2))
    rw [if_pos (show hlp (WW D v 0) c s = true from decide_eq_true ⟨by omega, y⟩)] at hq
    exact ok_ret ⟨by rw [hq, on_n (by omega)], rfl⟩
  · rw [if_pos (by omega)]
    rw [show 40 - s = 0 by omega] at hq
    exact ok_ret ⟨by rw [hq]; rfl, rfl⟩
theorem m_inGrid {W : List (gF × gF)} (hlen : W.length ≤ 2097152) (hJ : J0 W σ) {c : Nat} (hc : c < 135) : f_X13_inGrid_33 Fu (nI c) 0 σ = some (on (fi (hlp W c) 40 0), σ) := by
  refine ok_eq ?_
  generalize hR : fi (hlp W c) 40 0 = R
  refine L_X13_inGrid_33 40 (fun s l3 τ => l3 = nI s ∧ τ = σ ∧ R = fi (hlp W c) (40 - s) s) (by omega) (fun s p l3 τ hk hI hp => ?_) (Nat.zero_le _) ⟨rfl, rfl, hR.symm⟩
  obtain ⟨rfl, rfl, hq⟩ := hI
  unfold s_X13_inGrid_33 f_X13_inGrid_73
  rw [li40, li136, ite_iff (nI_le2 (by omega) (by omega))]
  by_cases cs : s < 40
  · have hle := lct_le s c W
    rw [if_neg (by omega), hJ.1, ite_iff (show nI W.length ≤ 0 ↔ W.length ≤ 0 from nI_le2 (b := 0) (by omega) (by omega)), pk_mul, nI_add]
    refine ok_ite (fun z => ok_ret ⟨?_, rfl⟩) (fun z => ?_)
    · rcases fi_spec (hlp W c) (40 - s) s with ⟨e1, _⟩ | ⟨_, _, e3, _⟩
      · rw [hq, e1]; rfl
      · have := of_decide_eq_true e3; omega
    · rw [show 40 - s = (39 - s) + 1 by omega, fi_s] at hq
      rw [gd_n (by omega) (by omega)]
      simp (disch := omega) only [nI_ix]
      rw [hJ.2 s cs c (by omega), ite_iff (nI_eq2 (by omega) (by omega))]
      refine ok_ite (fun y => ?_) (fun y => ?_)
      · rw [if_pos (show hlp W c s = true from decide_eq_true ⟨by omega, y⟩)] at hq
        exact ok_ret ⟨by rw [hq, on_n (by omega)], rfl⟩
      · rw [if_neg (fun w => y (of_decide_eq_true w).2)] at hq
        exact hp (s + 1) _ _ (by omega) (by omega) ⟨nI_1 s, rfl, by rw [show 40 - (s + 1) = 39 - s by omega]; exact hq⟩
  · rw [if_pos (by omega)]
    rw [show 40 - s = 0 by omega] at hq
    exact ok_ret ⟨by rw [hq]; rfl, rfl⟩
theorem op_inGrid (h : Inv (KK GK C WK B P) σ) (hS : SK GK C WK B P) (a1 a2 a3 a4 a5 : Int32) : ∃ σ', lw_op 31 a1 a2 a3 a4 a5 σ σ' ∧ Inv (KK GK C WK B P) σ' := by
  have hK := KK_KX hS
  show ∃ σ', (∃ (r : Int32) (σ1 : jM), f_X12_inGrid a1 a2 σ = some (r, σ1) ∧ f_X13_inGrid a1 a2 σ1 = some (r, σ')) ∧ Inv (KK GK C WK B P) σ'
  refine op_q (σ := σ) hK (R := fun r => (∃ v c, v ≤ 100000 ∧ c < 135 ∧ a1 = nI v ∧ a2 = nI c ∧ kn σ a1 ∧ r = on (fi (hlp (WW (dm σ) v 0) c) 40 0)) ∨ (r = -1 ∧ ¬ (kn σ a1 ∧ (0 ≤ a2 ∧ a2 < 135)))) ?_ ?_
  · unfold f_X12_inGrid f_X12_inGrid_19
    refine ok_ite (fun c1 => ok_ret ⟨h, rfl, rfl, Or.inr ⟨rfl, fun z => i_nlt.mpr z.2.1 c1⟩⟩) (fun c1 => ?_)
    refine ok_ite (fun c2 => ok_ret ⟨h, rfl, rfl, Or.inr ⟨rfl, fun z => i_nle.mpr z.2.2 c2⟩⟩) (fun c2 => ?_)
    refine ok_bd (c_seeGrid hS h a1) (fun r τ hh => ?_)
    obtain ⟨rfl, h1, h2, h3, h4⟩ := hh
    have e30 : rI τ 3 0 = rI σ 3 0 := h3.I _ _ (fun z => by have := ccr_ge z; omega)
    rw [ite_bI]
    refine ok_ite (fun c3 => ?_) (fun c3 => ok_ret ⟨h1, h2, e30, Or.inr ⟨rfl, fun z => c3 z.1⟩⟩)
    obtain ⟨v, rfl, hV, hG⟩ := h4 c3
    refine ok_bd (c_countWays hS hV hG) (fun _ τ1 t => ?_)
    obtain ⟨t1, t2, t3, t4⟩ := t
    rw [h2] at t4
    obtain ⟨c, hc, rfl⟩ := i_lt (n := 135) (i_nlt.mp c1) (i_nle.mp c2) (by omega)
    rw [c_holderOf h.2.1 t4 hc, bd_some]
    exact ok_ret ⟨t1.1, t2.trans h2, t3.trans e30, Or.inl ⟨v, c, hV.2.1, hc, rfl, rfl, c3, rfl⟩⟩
  · intro r τ hI hD e30 hR
    unfold f_X13_inGrid f_X13_inGrid_24
    have hM := MD_thr hI
    rw [hD] at hM
    have hw := hI.2.1
    rw [hD] at hw
    rw [m_known hI, bd_some, ite_bI, e30]
    rcases hR with ⟨v, c, hv, hc, rfl, rfl, c3, rfl⟩ | ⟨rfl, hno⟩
    · rw [if_pos c3, e_within, bd_some, ite_bI, if_pos ⟨nI_pos' (by omega), (nI_le2 (b := 134) (by omega) (by omega)).mpr (by omega)⟩]
      refine ok_bd (m_findAll hw hM hv) (fun _ τ1 t => ?_)
      obtain ⟨t1, -, t3, t4⟩ := t
      rw [m_inGrid (WW_len hw 0) t1 hc]
      exact ok_ret ⟨rfl, thr_scr t4 (fun k j => wfa_scr)⟩
    · refine ok_ite (fun c3 => ?_) (fun c3 => ok_ret ⟨rfl, Fr_thr τ 0⟩)
      rw [e_within, bd_some, ite_bI, if_neg (fun z => hno ⟨c3, z.1, (i_lts (n := 134) (by omega)).mpr z.2⟩)]
      exact ok_ret ⟨rfl, Fr_thr τ 0⟩
end ING
