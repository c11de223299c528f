/-! THE VIEW OF A DAY; sign -/
section VIEW
variable {K : dD → Nat → jM → Prop} {D : dD} {σ : jM}
def rxI (D : dD) (v : Nat) : Int32 := if rIx D v = 10 then -1 else nI (rIx D v)
theorem m_rulesBy (hw : DWr D) (hM : MD D σ) {v : Nat} (hv : v ≤ 100000) : f_X13_rulesBy (nI v) σ = some (rxI D v, σ) := by
  have hN := hw.1
  refine ok_eq ?_
  unfold f_X13_rulesBy
  refine L_X13_rulesBy_4 (D 324 8) (fun k l2 l3 τ => l2 = (if ri D v k = 10 then -1 else nI (ri D v k)) ∧ l3 = nI k ∧ τ = σ) (by omega) (fun k q l2 l3 τ hk hI hq => ?_) (Nat.zero_le _) ⟨rfl, rfl, rfl⟩
  obtain ⟨rfl, rfl, rfl⟩ := hI
  unfold s_X13_rulesBy_4 f_X13_rulesBy_24
  rw [hM.r (k := 324) (j := 8) (by omega) (by omega)]
  simp (disch := omega) only [nI_le2, nI_ix]
  by_cases c : k < D 324 8
  · have hb := (hw.2 k c).1
    rw [if_neg (by omega), gd_n (by omega) (by omega), hM.r (k := 330) (by omega) (by omega)]
    simp (disch := omega) only [nI_lt2]
    refine ok_ite (fun z => hq (k + 1) _ _ _ (by omega) (by omega) ⟨?_, nI_1 k, rfl⟩) (fun z => hq (k + 1) _ _ _ (by omega) (by omega) ⟨?_, nI_1 k, rfl⟩)
    · rw [ri_s, if_neg (show ¬ D 330 k ≤ v by omega)]
    · rw [ri_s, if_pos (show D 330 k ≤ v by omega), if_neg (by omega)]
  · have e : k = D 324 8 := by omega
    subst e
    rw [if_pos (by omega)]
    exact ok_ret ⟨rfl, rfl⟩
abbrev wlk (k j : Nat) : Prop := (k = 3 ∧ (j = 10 ∨ j = 12)) ∨ (15 ≤ k ∧ k ≤ 18)
theorem c_look (hw : DWr D) (hc : CDr D σ) (hw2 : DWh D) (hc2 : CDh D σ) {v : Nat} (hv : v ≤ 100000) : ok (f_X0_look (nI v) σ) (fun _ τ => VF D v τ ∧ rI τ 3 10 = nI v ∧ Fr wlk σ τ) := by
  have hN := hw.1
  unfold f_X0_look
  refine L_X0_look_15 (D 324 8) (fun k l2 τ => l2 = nI k ∧ τ.2.2 = ri D v k ∧ rI τ 3 10 = nI v ∧ Fr wlk σ τ) (by omega) (fun k q l2 τ hk hI hq => ?_) (Nat.zero_le _) ⟨rfl, rfl, rfl, (Fr.refl.w (by omega)).wc (by omega)⟩
  obtain ⟨rfl, h1, h2, hF⟩ := hI
  unfold s_X0_look_15 f_X0_look_46
  rw [show rI τ 3 4 = nI (D 324 8) from (hF.I _ _ (by omega)).trans hc.1]
  simp (disch := omega) only [nI_le2, nI_ix]
  by_cases c : k < D 324 8
  · have hb := (hw.2 k c).1
    have e0 : rI τ (rulX k) 0 = nI (D 330 k) := (hF.I _ _ (by rw [rulX_lt (by omega)]; omega)).trans (hc.2.2 k c).1
    rw [if_neg (by omega), gd_n (by omega) (by omega), e0, gd_n (by omega) (by omega)]
    simp (disch := omega) only [nI_lt2]
    refine ok_ite (fun z => hq (k + 1) _ _ (by omega) (by omega) ⟨nI_1 k, ?_, h2, hF⟩) (fun z => hq (k + 1) _ _ (by omega) (by omega) ⟨nI_1 k, ?_, h2, hF.wc (by omega)⟩)
    · rw [h1, ri_s, if_neg (show ¬ D 330 k ≤ v by omega)]
    · rw [ri_s, if_pos (show D 330 k ≤ v by omega)]; rfl
  · have e : k = D 324 8 := by omega
    subst e
    rw [if_pos (by omega)]
    have hc2' : CDh D τ := CDh_eq rfl rfl rfl rfl rfl rfl rfl (hF.I _ _ (by omega)) (fun k j a b => hF.I _ _ (by omega)) hc2
    refine ok_bd (c_stand hw2 hc2' hv) (fun _ τ' h => ok_ret ⟨⟨?_, h.1⟩, (h.2.I _ _ (by omega)).trans h2, hF.trans (h.2.mono (fun k j e => by omega))⟩)
    rw [h.2.2.2 (by omega), h1]
    rfl
/-- with nothing kept, what is kept is right -/
def KC (K : dD → Nat → jM → Prop) : Prop := ∀ (D : dD) (v : Nat) (σ : jM), rI σ 264 0 = 0 → rI σ 289 0 = 0 → rI σ 322 5 = 0 → rI σ 322 6 = 0 → rI σ 322 7 = 0 → K D v σ
/-- a view is made -/
def Vw (K : dD → Nat → jM → Prop) (v : Nat) (σ : jM) : Prop := Inv K σ ∧ v ≤ 100000 ∧ rI σ 3 10 = nI v ∧ VF (dm σ) v σ ∧ K (dm σ) v σ ∧ ∃ d, v ≤ d ∧ d ≤ 100000 ∧ rI σ 3 0 = nI d
theorem Vw_of (h : Inv K σ) {v : Nat} (h3 : rI σ 3 10 = nI v) (hv : v ≤ 100000) : Vw K v σ := by
  rcases h.2.2.2.2 with e | ⟨w, d, e1, e2, e3, e4, e5, e6⟩
  · rw [h3] at e; exact ((nI_m1 (by omega)).mp e).elim
  · rw [h3] at e4
    have e := (nI_eq2 (by omega) (by omega)).mp e4
    subst e
    exact ⟨h, hv, h3, e5, e6, d, e1, e2, e3⟩
theorem c_see (h : Inv K σ) (hC : KC K) (a : Int32) : ok (f_X12_see a σ) (fun r τ => r = bI (0 ≤ a ∧ a ≤ rI σ 3 0) ∧ Inv K τ ∧ dm τ = dm σ ∧ Fr ccr σ τ ∧ ((0 ≤ a ∧ a ≤ rI σ 3 0) → ∃ v, a = nI v ∧ Vw K v τ)) := by
  obtain ⟨d, hd, ed1, ed2⟩ := h.2.2.2.1.1
  unfold f_X12_see f_X12_see_15 f_X12_see_59
  rw [ed2]
  by_cases c : 0 ≤ a ∧ a ≤ nI d
  · obtain ⟨v, hv, rfl⟩ := i_le c.1 c.2 (by omega)
    rw [if_neg (nI_pos (by omega)), if_pos c.2, bI_pos c]
    refine ok_ite (fun z => ok_ret ⟨rfl, h, rfl, Fr.refl, fun _ => ⟨v, rfl, Vw_of h z (by omega)⟩⟩) (fun z => ?_)
    refine ok_bd (c_look (gR h).1 (gR h).2 (gH h).1 (gH h).2 (by omega)) (fun _ τ hh => ?_)
    obtain ⟨h1, h2, h3⟩ := hh
    unfold f_X1_forgetCounts
    rw [bd_some]
    have hF : Fr ccr σ (wI (wI (wI (wI (wI τ 264 0 0) 289 0 0) 322 5 0) 322 6 0) 322 7 0) := Fr.w (Fr.w (Fr.w (Fr.w (Fr.w (h3.mono (fun k j e => by omega)) (by omega)) (by omega)) (by omega)) (by omega)) (by omega)
    have hVF : VF (dm σ) v (wI (wI (wI (wI (wI τ 264 0 0) 289 0 0) 322 5 0) 322 6 0) 322 7 0) := ⟨h1.1, fun s hs => by rw [rI_nk (by omega), rI_nk (by omega), rI_nk (by omega), rI_nk (by omega), rI_nk (by omega)]; exact h1.2 s hs⟩
    have hV : VV K (dm σ) (wI (wI (wI (wI (wI τ 264 0 0) 289 0 0) 322 5 0) 322 6 0) 322 7 0) := Or.inr ⟨v, d, hv, hd, (hF.I 3 0 (by omega)).trans ed2, h2, hVF, hC _ _ _ rfl rfl rfl rfl rfl⟩
    obtain ⟨i1, i2⟩ := Inv_ccr h hF hV
    exact ok_ret ⟨rfl, i1, i2, hF, fun _ => ⟨v, rfl, Vw_of i1 h2 (by omega)⟩⟩
  · rw [bI_neg c]
    have g : ok (some ((0 : Int32), σ)) (fun r τ => r = 0 ∧ Inv K τ ∧ dm τ = dm σ ∧ Fr ccr σ τ ∧ ((0 ≤ a ∧ a ≤ nI d) → ∃ v, a = nI v ∧ Vw K v τ)) := ok_ret ⟨rfl, h, rfl, Fr.refl, fun z => absurd z c⟩
    exact ok_ite (fun _ => g) (fun z => ok_ite (fun z2 => absurd ⟨i_nlt.mp z, z2⟩ c) (fun _ => g))
/-- the day is the same for both -/
theorem td_eq (h : Inv K σ) : rI σ 324 1 = rI σ 3 0 := by
  obtain ⟨d, -, e1, e2⟩ := h.2.2.2.1.1
  rw [e1, e2]
theorem m_known (h : Inv K σ) (a : Int32) (x : Int32) : f_X13_isKnown a (wI σ 324 0 x) = some (bI (0 ≤ a ∧ a ≤ rI σ 3 0), wI σ 324 0 x) := by
  rw [e_isKnown]
  show some (bI (0 ≤ a ∧ a ≤ rI σ 324 1), _) = _
  rw [td_eq h]
theorem MD_thr (h : Inv K σ) : MD (dm σ) (wI σ 324 0 0) := MD_fr (MD_of h.1) (Fr_thr σ 0) (fun k j hp => scr_pers hp)
theorem scr_343 {k j : Nat} (h : w343 k j) : scr k j := by
  exact Or.inr (Or.inr (Or.inr (Or.inr (Or.inr (Or.inr (Or.inl h))))))
theorem op_sign (h : Inv K σ) (hK : KX K) (hC : KC K) (a1 a2 a3 a4 a5 : Int32) : ∃ σ', lw_op 9 a1 a2 a3 a4 a5 σ σ' ∧ Inv K σ' := by
  show ∃ σ', (∃ (r : Int32) (σ1 : jM), f_X12_sign a1 a2 σ = some (r, σ1) ∧ f_X13_sign a1 a2 σ1 = some (r, σ')) ∧ Inv K σ'
  refine op_mk (Q := fun r τ => Inv K τ ∧ rI τ 3 0 = rI σ 3 0 ∧ ((∃ s v, s < 40 ∧ v ≤ 100000 ∧ a1 = nI s ∧ a2 = nI v ∧ (0 ≤ a2 ∧ a2 ≤ rI σ 3 0) ∧ r = nI (std (dm τ) v s)) ∨ (¬ ((0 ≤ a1 ∧ a1 < 40) ∧ (0 ≤ a2 ∧ a2 ≤ rI σ 3 0)) ∧ r = -1))) ?_ ?_
  · unfold f_X12_sign f_X12_sign_27 f_X12_sign_28
    rw [e_isSign, bd_some, ite_bI]
    refine ok_ite (fun c1 => ?_) (fun c1 => ok_ret ⟨h, rfl, Or.inr ⟨fun z => c1 z.1, rfl⟩⟩)
    refine ok_bd (c_see h hC a2) (fun r τ hh => ?_)
    obtain ⟨rfl, h1, h2, h3, h4⟩ := hh
    have e30 : rI τ 3 0 = rI σ 3 0 := h3.I _ _ (by omega)
    rw [ite_bI]
    refine ok_ite (fun c2 => ?_) (fun c2 => ok_ret ⟨h1, e30, Or.inr ⟨fun z => c2 z.2, rfl⟩⟩)
    obtain ⟨v, rfl, hV⟩ := h4 c2
    obtain ⟨s, hs, rfl⟩ := i_lt (n := 40) c1.1 c1.2 (by omega)
    rw [gd_n hs (by omega), nI_ix (by omega)]
    exact ok_ret ⟨h1, e30, Or.inl ⟨s, v, hs, hV.2.1, rfl, rfl, c2, hV.2.2.2.1.2 s hs⟩⟩
  · intro r τ hq
    obtain ⟨hI, e30, hq⟩ := hq
    unfold f_X13_sign f_X13_sign_20
    rw [e_isSignNumber, bd_some, ite_bI]
    rcases hq with ⟨s, v, hs, hv, rfl, rfl, c2, rfl⟩ | ⟨c, rfl⟩
    · rw [if_pos ⟨nI_pos' (by omega), (nI_lt2 (b := 40) (by omega) (by omega)).mpr hs⟩, m_known hI, bd_some, ite_bI, e30, if_pos c2]
      refine ok_bd (m_findStands (gH hI).1 (MD_thr hI) hv) (fun _ τ' hh => ?_)
      rw [gd_n hs (by omega), nI_ix (by omega), hh.1 s hs]
      exact ok_ret ⟨rfl, Inv_scr hK (Inv_thr hK hI 0) (hh.2.mono (fun k j => scr_343))⟩
    · refine ok_ite (fun c1 => ?_) (fun c1 => ok_ret ⟨rfl, Inv_thr hK hI 0⟩)
      rw [m_known hI, bd_some, ite_bI, e30, if_neg (fun z => c ⟨c1, z⟩)]
      exact ok_ret ⟨rfl, Inv_thr hK hI 0⟩
end VIEW
