/-! settles, the reference and the op -/
section SEM
variable {D : dD} {σ : jM} {v : Nat} {C B P : dD → Nat → jM → Prop}
theorem m_settles {W : List (gF × gF)} (hlen : W.length ≤ 2097152) (hJ : J0 W σ) (h43 : ∀ s, s < 40 → rI σ 343 s = nI (std D v s)) {f : Nat} (hf : f < 2) : f_X13_settles_46 Fu (nI f) (-1) 0 0 σ = some (if f = 0 then nI (sgs D v W 40) else nI (mxw W (sgs D v W 40)), σ) := by
  have hmx := fun s => mxw_le W s
  have h0 : sgs D v W 1 = 0 := by rw [sgs_s]; split <;> rfl
  have hs0 : std D v 0 = 0 := by have := std_le D v 0; omega
  refine ok_eq ?_
  refine L_X13_settles_46 40 (fun s l3 l4 l5 τ => ((s = 0 ∧ l3 = -1) ∨ (1 ≤ s ∧ l3 = nI (sgs D v W s) ∧ l4 = nI (mxw W (sgs D v W s)))) ∧ l5 = nI s ∧ τ = σ) (by omega) (fun s p l3 l4 l5 τ hk hI hp => ?_) (Nat.zero_le _) ⟨Or.inl ⟨rfl, rfl⟩, rfl, rfl⟩
  obtain ⟨hh, rfl, rfl⟩ := hI
  unfold s_X13_settles_46 f_X13_settles_145 f_X13_settles_161
  rw [li40, ite_iff (nI_le2 (by omega) (by omega))]
  by_cases cs : s < 40
  · have hst := std_lt (D := D) v cs
    rw [if_neg (by omega), gd_n cs (by omega)]
    simp (disch := omega) only [nI_ix]
    rw [h43 s cs, ite_iff (nI_eq2 (by omega) (by omega))]
    refine ok_ite (fun z => ?_) (fun z => ?_)
    · refine L_X13_settles_74 136 (fun c l6 l7 τ' => l6 = nI (mxn (fun c => lct s c W) c) ∧ l7 = nI c ∧ τ' = τ) (by omega) (fun c p2 l6 l7 τ' hk2 hI2 hp2 => ?_) (Nat.zero_le _) ⟨rfl, rfl, rfl⟩
      obtain ⟨rfl, rfl, rfl⟩ := hI2
      unfold s_X13_settles_74 f_X13_settles_138 f_X13_settles_145 f_X13_settles_117
      rw [li136, ite_iff (nI_le2 (by omega) (by omega))]
      by_cases cc : c < 136
      · have hle := lct_le s c W
        have hm : mxn (fun c => lct s c W) c ≤ W.length := mxn_le (fun c _ => lct_le s c W)
        rw [if_neg (by omega), pk_mul, nI_add, gd_n (by omega) (by omega)]
        simp (disch := omega) only [nI_ix, gd_n]
        rw [hJ.2 s cs c (by omega), ite_iff (nI_le2 (by omega) (by omega))]
        refine ok_ite (fun y => hp2 (c + 1) _ _ _ (by omega) (by omega) ⟨by rw [mxn_s, if_neg (by omega)], nI_1 c, rfl⟩) (fun y => hp2 (c + 1) _ _ _ (by omega) (by omega) ⟨by rw [mxn_s, if_pos (by omega)], nI_1 c, rfl⟩)
      · have e : c = 136 := by omega
        subst e
        have em : mxn (fun c => lct s c W) 136 = mxw W s := rfl
        have m1 := hmx s
        rw [if_pos (by omega), em]
        rcases hh with ⟨rfl, rfl⟩ | ⟨h1, rfl, rfl⟩
        · rw [if_pos rfl]
          exact hp 1 _ _ _ _ (by omega) (by omega) ⟨Or.inr ⟨by omega, by rw [h0], by rw [h0]⟩, nI_1 0, rfl⟩
        · have m2 := hmx (sgs D v W s)
          have hsl := sgs_lt (D := D) (v := v) W (s := s) (by omega)
          rw [if_neg (fun w => (nI_m1 (by omega)).mp w), ite_iff (nI_lt2 (by omega) (by omega))]
          refine ok_ite (fun y => ?_) (fun y => ?_)
          · have e : sgs D v W (s + 1) = s := by rw [sgs_s, if_pos ⟨z, y⟩]
            exact hp (s + 1) _ _ _ _ (by omega) (by omega) ⟨Or.inr ⟨by omega, by rw [e], by rw [e]⟩, nI_1 s, rfl⟩
          · have e : sgs D v W (s + 1) = sgs D v W s := by rw [sgs_s, if_neg (fun w => y w.2)]
            exact hp (s + 1) _ _ _ _ (by omega) (by omega) ⟨Or.inr ⟨by omega, by rw [e], by rw [e]⟩, nI_1 s, rfl⟩
    · rcases hh with ⟨rfl, _⟩ | ⟨h1, rfl, rfl⟩
      · exact absurd hs0 z
      · have e : sgs D v W (s + 1) = sgs D v W s := by rw [sgs_s, if_neg (fun w => z w.1)]
        exact hp (s + 1) _ _ _ _ (by omega) (by omega) ⟨Or.inr ⟨by omega, by rw [e], by rw [e]⟩, nI_1 s, rfl⟩
  · have e : s = 40 := by omega
    subst e
    rw [if_pos (by omega), ite_iff (show nI f = 0 ↔ f = 0 from nI_eq2 (b := 0) (by omega) (by omega))]
    rcases hh with ⟨h1, _⟩ | ⟨h1, rfl, rfl⟩
    · omega
    · exact ok_ite (fun y => ok_ret ⟨by rw [if_pos y], rfl⟩) (fun y => ok_ret ⟨by rw [if_neg y], rfl⟩)
theorem op_settles (h : Inv (KK GK C WK B P) σ) (hS : SK GK C WK B P) (a1 a2 a3 a4 a5 : Int32) : ∃ σ', lw_op 26 a1 a2 a3 a4 a5 σ σ' ∧ Inv (KK GK C WK B P) σ' := by
  have hK := KK_KX hS
  show ∃ σ', (∃ (r : Int32) (σ1 : jM), f_X12_settles a1 a2 σ = some (r, σ1) ∧ f_X13_settles a1 a2 σ1 = some (r, σ')) ∧ Inv (KK GK C WK B P) σ'
  refine op_q (σ := σ) hK (R := fun r => (∃ v f, v ≤ 100000 ∧ f < 2 ∧ a1 = nI v ∧ a2 = nI f ∧ kn σ a1 ∧ r = if (WW (dm σ) v 0).length = 0 then -1 else if f = 0 then nI (sgs (dm σ) v (WW (dm σ) v 0) 40) else nI (mxw (WW (dm σ) v 0) (sgs (dm σ) v (WW (dm σ) v 0) 40))) ∨ (r = -1 ∧ ¬ (kn σ a1 ∧ (0 ≤ a2 ∧ a2 ≤ 1)))) ?_ ?_
  · unfold f_X12_settles f_X12_settles_17 f_X12_settles_62
    refine ok_ite (fun c1 => ok_ret ⟨h, rfl, rfl, Or.inr ⟨rfl, fun z => i_nlt.mpr z.2.1 c1⟩⟩) (fun c1 => ?_)
    refine ok_ite (fun c2 => ok_ret ⟨h, rfl, rfl, Or.inr ⟨rfl, fun z => i_nlt.mpr z.2.2 c2⟩⟩) (fun c2 => ?_)
    refine ok_bd (c_seeGrid hS h a1) (fun r τ hh => ?_)
    obtain ⟨rfl, h1, h2, h3, h4⟩ := hh
    have e30 : rI τ 3 0 = rI σ 3 0 := h3.I _ _ (fun z => by have := ccr_ge z; omega)
    rw [ite_bI]
    refine ok_ite (fun c3 => ?_) (fun c3 => ok_ret ⟨h1, h2, e30, Or.inr ⟨rfl, fun z => c3 z.1⟩⟩)
    obtain ⟨v, rfl, hV, hG⟩ := h4 c3
    refine ok_bd (c_countWays hS hV hG) (fun _ τ1 t => ?_)
    obtain ⟨t1, t2, t3, t4⟩ := t
    rw [h2] at t4
    obtain ⟨f, hf, rfl⟩ := i_le (n := 1) (i_nlt.mp c1) (i_nlt.mp c2) (by omega)
    have hlen := WW_len h.2.1 (v := v) 0
    have hsl := sgs_lt (D := dm σ) (v := v) (WW (dm σ) v 0) (s := 40) (by omega)
    rw [t4.1, ite_iff (show nI (WW (dm σ) v 0).length = 0 ↔ (WW (dm σ) v 0).length = 0 from nI_eq2 (b := 0) (by omega) (by omega))]
    refine ok_ite (fun z => ok_ret ⟨t1.1, t2.trans h2, t3.trans e30, Or.inl ⟨v, f, hV.2.1, by omega, rfl, rfl, c3, by rw [if_pos z]⟩⟩) (fun z => ?_)
    rw [c_settlingSign h.2.1 t4, bd_some, ite_iff (show nI f = 0 ↔ f = 0 from nI_eq2 (b := 0) (by omega) (by omega))]
    refine ok_ite (fun y => ok_ret ⟨t1.1, t2.trans h2, t3.trans e30, Or.inl ⟨v, f, hV.2.1, by omega, rfl, rfl, c3, by rw [if_neg z, if_pos y]⟩⟩) (fun y => ?_)
    rw [c_mostAgreeing h.2.1 t4 hsl, bd_some]
    exact ok_ret ⟨t1.1, t2.trans h2, t3.trans e30, Or.inl ⟨v, f, hV.2.1, by omega, rfl, rfl, c3, by rw [if_neg z, if_neg y]⟩⟩
  · intro r τ hI hD e30 hR
    unfold f_X13_settles f_X13_settles_22
    have hM := MD_thr hI
    rw [hD] at hM
    have hw := hI.2.1
    rw [hD] at hw
    rw [m_known hI, bd_some, ite_bI, e30]
    rcases hR with ⟨v, f, hv, hf, rfl, rfl, c3, rfl⟩ | ⟨rfl, hno⟩
    · rw [if_pos c3, e_within, bd_some, ite_bI, if_pos ⟨nI_pos' (by omega), (nI_le2 (b := 1) (by omega) (by omega)).mpr (by omega)⟩]
      refine ok_bd (m_findAll hw hM hv) (fun _ τ1 t => ?_)
      obtain ⟨t1, -, t3, t4⟩ := t
      have hlen := WW_len hw (v := v) 0
      rw [t1.1, ite_iff (show nI (WW (dm σ) v 0).length = 0 ↔ (WW (dm σ) v 0).length = 0 from nI_eq2 (b := 0) (by omega) (by omega))]
      refine ok_ite (fun z => ok_ret ⟨by rw [if_pos z], thr_scr t4 (fun k j => wfa_scr)⟩) (fun z => ?_)
      rw [m_settles hlen t1 t3 hf, if_neg z]
      exact ok_ret ⟨rfl, thr_scr t4 (fun k j => wfa_scr)⟩
    · refine ok_ite (fun c3 => ?_) (fun c3 => ok_ret ⟨rfl, Fr_thr τ 0⟩)
      rw [e_within, bd_some, ite_bI, if_neg (fun z => hno ⟨c3, z⟩)]
      exact ok_ret ⟨rfl, Fr_thr τ 0⟩
end SEM
