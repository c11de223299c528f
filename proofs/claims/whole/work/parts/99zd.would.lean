/-! would, where -/
section WLD
variable {D : dD} {σ : jM} {v : Nat} {C B P : dD → Nat → jM → Prop} {m t : Nat} {T : Nat → Nat}
abbrev wtp (k j : Nat) : Prop := scr k j ∨ (k = 262 ∧ j = 1) ∨ (k = 324 ∧ j = 16)
theorem Inv_tape0 {K : dD → Nat → jM → Prop} (hK : KX K) {σ τ : jM} (h : Inv K σ) (hF : Fr wtp σ τ) (h1 : rI τ 262 1 = 0) (h2 : rI τ 324 16 = 0) : Inv K τ := by
  have no : ∀ k j, (k < 324 ∧ ¬ (k = 262 ∧ j = 1)) ∨ k = 336 ∨ k = 374 ∨ (k = 324 ∧ (j = 1 ∨ j = 23 ∨ j = 75)) → ¬ wtp k j := fun k j hk z => by
    rcases z with z | z | z
    · have := scr_ge z; omega
    · omega
    · omega
  have pe : ∀ k j, pex k j → ¬ wtp k j := fun k j hp z => by
    have := pex_ge hp
    rcases z with z | z | z
    · exact scr_pex hp z
    · omega
    · omega
  have ce : ∀ k j, cdc k j → ¬ wtp k j := fun k j hp => no k j (Or.inl (by
    rcases hp with hp | hp | hp | hp | hp | hp | hp <;> omega))
  refine Inv_keep hK h (fun k j hp => hF.I k j (hp.elim (pe k j) (ce k j))) (fun k j a b => ⟨hF.I _ _ (no _ _ (by omega)), hF.L _ _ (no _ _ (by omega))⟩) (fun j => hF.I _ _ (no _ _ (by omega))) (hF.2.2 (no _ _ (by omega))) (hF.I _ _ (no _ _ (by omega))) ?_ (Int32.le_of_eq (hF.I _ _ (no _ _ (by omega))).symm)
  obtain ⟨⟨d, a1, a2, a3⟩, -, c1, n, b1, b2, b3, b4⟩ := h.2.2.2.1
  refine ⟨⟨d, a1, (hF.I _ _ (no _ _ (by omega))).trans a2, (hF.I _ _ (no _ _ (by omega))).trans a3⟩, ⟨0, by omega, h2, h1, fun j hj => by omega⟩, ?_, n, b1, (hF.I _ _ (no _ _ (by omega))).trans b2, (hF.I _ _ (no _ _ (by omega))).trans b3, fun j hj => ?_⟩
  · rw [hF.I 262 3 (no _ _ (by omega)), hF.I 324 23 (no _ _ (by omega))]
    exact c1
  · rw [hF.I 1 j (no _ _ (by omega)), hF.I 374 j (no _ _ (by omega))]
    exact b4 j hj
theorem scr_nm {k j : Nat} (h : (k = 359 ∧ 6 ≤ j) ∨ (k = 360 ∧ 48 ≤ j) ∨ (k = 361 ∧ 6 ≤ j)) : scr k j := by
  rcases h with h | h | h
  · exact Or.inr (Or.inr (Or.inr (Or.inr (Or.inr (Or.inr (Or.inr (Or.inr (Or.inl h))))))))
  · exact Or.inr (Or.inr (Or.inr (Or.inr (Or.inr (Or.inr (Or.inr (Or.inr (Or.inr (Or.inl h)))))))))
  · exact Or.inr (Or.inr (Or.inr (Or.inr (Or.inr (Or.inr (Or.inr (Or.inr (Or.inr (Or.inr (Or.inl h))))))))))
theorem wtn_wtp {n k j : Nat} (h : wtn 6 n k j) : wtp k j := by
  rcases h with h | h | h | h
  · exact Or.inl (scr_nm (by omega))
  · exact Or.inl (scr_nm (by omega))
  · exact Or.inl (scr_nm (by omega))
  · exact Or.inr (Or.inr h)
theorem wtn_pers {n k j : Nat} (hp : pers k j) (h : wtn 6 n k j) : False := by
  have := pers_ge hp
  rcases wtn_wtp h with z | z | z
  · exact scr_pers hp z
  · omega
  · omega
theorem wsq_wsr {b : Prop} {x k j : Nat} (z : wsq b k j) : wsr b x k j := z.imp id (fun y => by omega)
theorem Vw_back (hS : SK GK C WK B P) (h : Vw (KK GK C WK B P) v σ) {τ : jM} (hF : Fr (wsq (rI (wI σ 262 1 0) 296 18 ≠ 0)) (wI σ 262 1 0) τ) : Vw (KK GK C WK B P) v (wI τ 262 1 (rI σ 262 1)) ∧ dm (wI τ 262 1 (rI σ 262 1)) = dm σ ∧ rI (wI τ 262 1 (rI σ 262 1)) 3 0 = rI σ 3 0 ∧ rI τ 262 1 = 0 := by
  have e18 : rI (wI σ 262 1 0) 296 18 = rI σ 296 18 := rI_nk (by omega)
  rw [e18] at hF
  have hF2 : Fr (wsr (rI σ 296 18 ≠ 0) (rIx (dm σ) v)) σ (wI τ 262 1 (rI σ 262 1)) := by
    refine ⟨fun k j hk => ?_, fun k j hk => hF.L k j (fun z => hk (wsq_wsr z)), fun hk => hF.2.2 (fun z => hk (wsq_wsr z))⟩
    by_cases e : k = 262 ∧ j = 1
    · obtain ⟨rfl, rfl⟩ := e
      rw [rI_same]
    · rw [rI_ne (fun e1 e2 => e ⟨e1, e2⟩), hF.I k j (fun z => hk (wsq_wsr z)), rI_ne (fun e1 e2 => e ⟨e1, e2⟩)]
  obtain ⟨i1, i2, i3⟩ := Vw_srch hS h hF2
  exact ⟨i1, i2, i3, (hF.I _ _ (wsq_no (by omega) (by omega))).trans (rI_same _ _ _ _)⟩
theorem MD_q {K : dD → Nat → jM → Prop} {υ τ : jM} (h : Inv K υ) (hD : dm υ = D) (hF : Fr (fun k j => k = 262 ∧ j = 1) υ τ) : MD D (wI τ 324 0 0) := by
  have := MD_of h.1
  rw [hD] at this
  exact MD_fr this (Fr.w (W := fun k j => (k = 262 ∧ j = 1) ∨ (k = 324 ∧ j = 0)) (hF.mono (fun k j z => Or.inl z)) (Or.inr ⟨rfl, rfl⟩)) (fun k j hp z => by have := pers_ge hp; omega)
theorem TP_ccr {τ : jM} (h : TP m T σ) (hF : Fr ccr σ τ) : TP m T τ := TP_fr h hF (fun z => by have := ccr_ge z; omega) (fun z => by have := ccr_ge z; omega) (fun j z => by have := ccr_ge z; omega) (fun j z => by have := ccr_ge z; omega)
/-- what stands between the two halves of a call that takes the tape -/
def HT (C B P : dD → Nat → jM → Prop) (σ : jM) (m : Nat) (T : Nat → Nat) (Y N : Int32 → Prop) (r : Int32) (τ : jM) : Prop := ∃ υ, Inv (KK GK C WK B P) υ ∧ dm υ = dm σ ∧ rI υ 3 0 = rI σ 3 0 ∧ TPm m T υ ∧ ((Y r ∧ nmok m T ∧ Fr (fun k j => k = 262 ∧ j = 1) υ τ ∧ rI τ 262 1 = 0) ∨ (N r ∧ τ = υ))
theorem HT_yes (hS : SK GK C WK B P) {σ τ1 τ : jM} {Y N : Int32 → Prop} {r : Int32} (h : Vw (KK GK C WK B P) v τ1) (hD : dm τ1 = dm σ) (e30 : rI τ1 3 0 = rI σ 3 0) (hT : TPm m T τ1) (hm : nmok m T) (hF : Fr (wsq (rI (wI τ1 262 1 0) 296 18 ≠ 0)) (wI τ1 262 1 0) τ) (hY : Y r) : HT C B P σ m T Y N r τ := by
  obtain ⟨i1, i2, i3, i4⟩ := Vw_back hS h hF
  refine ⟨_, i1.1, i2.trans hD, i3.trans e30, ?_, Or.inl ⟨hY, hm, ?_, i4⟩⟩
  · refine ⟨hT.1, ?_, fun j hj => ⟨(hT.2.2 j hj).1, ?_⟩⟩
    · rw [rI_nk (by omega), hF.I _ _ (wsq_no (by omega) (by omega)), rI_nk (by omega)]; exact hT.2.1
    · rw [rI_nk (by omega), hF.I _ _ (wsq_no (by omega) (by omega)), rI_nk (by omega)]; exact (hT.2.2 j hj).2
  · refine ⟨fun k j hk => (rI_ne (fun e1 e2 => hk ⟨e1, e2⟩)).symm, fun k j hk => rfl, fun _ => rfl⟩
theorem TPm_wsr {τ : jM} {b : Prop} {x : Nat} (hx : x ≤ 10) (h : TPm m T σ) (hF : Fr (wsr b x) σ τ) : TPm m T τ := by
  have hrx := rulX_cases x
  exact TPm_fr h hF (fun z => z.elim (fun y => by omega) (fun y => by omega)) (fun j z => z.elim (fun y => by omega) (fun y => by omega))
theorem op_would (h : Inv (KK GK C WK B P) σ) (hS : SK GK C WK B P) (a1 a2 a3 a4 a5 : Int32) : ∃ σ', lw_op 27 a1 a2 a3 a4 a5 σ σ' ∧ Inv (KK GK C WK B P) σ' := by
  have hK := KK_KX hS
  show ∃ σ', (∃ (r : Int32) (σ1 : jM), f_X12_would a1 a2 σ = some (r, σ1) ∧ f_X13_would a1 a2 σ1 = some (r, σ')) ∧ Inv (KK GK C WK B P) σ'
  obtain ⟨m, T, hT⟩ := TP_of h.2.2.2.1
  have hw := h.2.1
  have h24 := hw.1.1
  refine op_mk (Q := HT C B P σ m T (fun r => ∃ v t, v ≤ 100000 ∧ a1 = nI v ∧ kn σ a1 ∧ t < dm σ 324 2 ∧ a2 = nI t ∧ tC (dm σ) v t ∧ r = nI (WN (dm σ) v m T t).length) (fun r => r = -1 ∧ ¬ (kn σ a1 ∧ nmok m T ∧ ∃ t, t < dm σ 324 2 ∧ a2 = nI t ∧ ∀ v, a1 = nI v → v ≤ 100000 → tC (dm σ) v t))) ?_ ?_
  · unfold f_X12_would f_X12_would_45
    have noo : ∀ τ, Inv (KK GK C WK B P) τ → dm τ = dm σ → rI τ 3 0 = rI σ 3 0 → TPm m T τ → (¬ (kn σ a1 ∧ nmok m T ∧ ∃ t, t < dm σ 324 2 ∧ a2 = nI t ∧ ∀ v, a1 = nI v → v ≤ 100000 → tC (dm σ) v t)) → ok (some ((-1 : Int32), τ)) (HT C B P σ m T (fun r => ∃ v t, v ≤ 100000 ∧ a1 = nI v ∧ kn σ a1 ∧ t < dm σ 324 2 ∧ a2 = nI t ∧ tC (dm σ) v t ∧ r = nI (WN (dm σ) v m T t).length) (fun r => r = -1 ∧ ¬ (kn σ a1 ∧ nmok m T ∧ ∃ t, t < dm σ 324 2 ∧ a2 = nI t ∧ ∀ v, a1 = nI v → v ≤ 100000 → tC (dm σ) v t))) := fun τ x1 x2 x3 x4 x5 => ok_ret ⟨τ, x1, x2, x3, x4, Or.inr ⟨⟨rfl, x5⟩, rfl⟩⟩
    rw [e_hasTablet, bd_some, ite_bI, (gT h).2.1]
    refine ok_ite (fun c1 => ?_) (fun c1 => noo σ h rfl rfl hT.m (fun z => ?_))
    · obtain ⟨t, ht, rfl⟩ := i_lt c1.1 c1.2 (by omega)
      rw [c_isName hT, bd_some, ite_bI]
      refine ok_ite (fun c2 => ?_) (fun c2 => noo σ h rfl rfl hT.m (fun z => c2 z.2.1))
      refine ok_bd (c_seeGrid hS h a1) (fun r τ hh => ?_)
      obtain ⟨rfl, h1, h2, h3, h4⟩ := hh
      have e30 : rI τ 3 0 = rI σ 3 0 := h3.I _ _ (fun z => by have := ccr_ge z; omega)
      have hT1 := TP_ccr hT h3
      rw [ite_bI]
      refine ok_ite (fun c3 => ?_) (fun c3 => noo τ h1 h2 e30 hT1.m (fun z => c3 z.1))
      obtain ⟨v, rfl, hV, hG⟩ := h4 c3
      have hcd := h1.2.2.1
      rw [h2] at hcd hG
      rw [gd_n (by omega) (by omega), nI_ix (by omega), e_tC hw.1 hcd.1 ht hV.2.1, bd_some, ite_bI]
      refine ok_ite (fun c4 => ?_) (fun c4 => noo τ h1 h2 e30 hT1.m (fun z => ?_))
      · refine c_seatAll (F := fun σ23 => bd (f_X8_waysWithNewAt (nI t) 2147483647 (wI σ23 262 1 0)) (fun r25 σ26 => some (r25, σ26))) hS hV hT1 c2 (fun τ1 g1 g2 g3 g4 g5 => ?_)
        have hrl := rIx_le hw.2.1 v
        have hrx := rulX_cases (rIx (dm σ) v)
        rw [h2] at g2 g4 g5
        have hcd1 := g1.1.2.2.1
        have hst1 := g1.2.2.2.1.2
        rw [g2] at hcd1 hst1
        have nw : ∀ {k j : Nat}, ¬ (k = 297 ∨ (k = 296 ∧ j = 1)) → ¬ (k = 298 ∨ (k = 296 ∧ (j = 5 ∨ j = 13 ∨ j = 16 ∨ j = 17)) ∨ (299 ≤ k ∧ k ≤ 321) ∨ k = rulX (rIx (dm σ) v) + 7 ∨ k = rulX (rIx (dm σ) v) + 8) → ¬ wsr (rI τ 296 18 ≠ 0) (rIx (dm σ) v) k j := fun a c z => z.elim (fun y => a y.2) c
        have hG1 : GK (dm σ) v τ1 := GK_St _ _ _ _ (fun k j hr => ⟨g5.I _ _ (nw (by omega) (by omega)), g5.L _ _ (nw (by omega) (by omega))⟩) hG
        have hl := WN_len (v := v) (m := m) (T := T) hw ht
        have hna := c_newAt (σ := wI τ1 262 1 0) (M := 2147483647) hw (CDt_eq hw.1 rfl rfl rfl rfl rfl rfl (rI_nk (by omega)) (fun k j a b => rI_nk (by omega)) hcd1.1) (GK_St _ _ _ _ (fun k j hr => ⟨rI_nk (by omega), rfl⟩) hG1) (fun s hs => (rI_nk (by omega)).trans (hst1 s hs)) (SN_fr g4 (nse_le hw (v := v) 0) (rI_nk (by omega)) (fun i _ => rI_nk (by omega)) (fun i => rI_nk (by omega)) (fun k j a b => rI_nk (by omega))) c2 ht (by omega) (by omega)
        refine ok_bd hna (fun r τ2 u => ?_)
        obtain ⟨-, u2, u3⟩ := u
        refine ok_ret (HT_yes hS g1 g2 (g3.trans e30) (TPm_wsr hrl hT1.m g5) c2 u2 ⟨v, t, hV.2.1, rfl, c3, ht, rfl, c4, ?_⟩)
        rcases u3 with u3 | u3
        · exact u3.2
        · omega
      · obtain ⟨t', y1, y2, y3⟩ := z.2.2
        have := (nI_eq2 (by omega) (by omega)).mp y2
        subst this
        exact c4 (y3 v rfl hV.2.1)
    · obtain ⟨t', y1, y2, y3⟩ := z.2.2
      exact c1 ⟨by rw [y2]; exact nI_pos' (by omega), by rw [y2]; exact (nI_lt2 (by omega) (by omega)).mpr y1⟩
  · intro r τ hq
    obtain ⟨υ, hI, hD, e30, hTm, hR⟩ := hq
    unfold f_X13_would f_X13_would_43
    rcases hR with ⟨⟨v, t, hv, rfl, c3, ht, rfl, c4, rfl⟩, hm, hF, h62⟩ | ⟨⟨rfl, hno⟩, rfl⟩
    · have hM := MD_q hI hD hF
      have ek : rI (wI τ 324 0 0) 324 1 = rI σ 3 0 := by
        rw [rI_nj (by omega), hF.I _ _ (by omega), td_eq hI]; exact e30
      have hTm2 : TPm m T (wI τ 324 0 0) := TPm_fr hTm (Fr.w (W := fun k j => (k = 262 ∧ j = 1) ∨ (k = 324 ∧ j = 0)) (hF.mono (fun k j z => Or.inl z)) (Or.inr ⟨rfl, rfl⟩)) (by omega) (fun j => by omega)
      rw [e_isKnown, bd_some, ite_bI, ek, if_pos c3, e_within, bd_some, ite_bI, hM.r (k := 324) (j := 2) (by omega) (by omega), if_pos ((nI_sub1 (by omega)).mpr ⟨nI_pos' (by omega), (nI_lt2 (by omega) (by omega)).mpr ht⟩), m_tC hw.1 hM ht hv, bd_some, ite_bI, if_pos c4, m_isName hTm2, bd_some, ite_bI, if_pos hm]
      refine ok_bd (m_takesName (m := 6) hTm2 hm (by omega) (nI t)) (fun _ τ1 u => ?_)
      obtain ⟨u1, u2, u3, u4, u5⟩ := u
      have hM1 : MD (dm σ) τ1 := MD_fr hM u5 (fun k j hp z => wtn_pers hp z)
      refine ok_bd (m_waysWith hw hM1 hv hm u1 u2 ht) (fun r τ2 w => ?_)
      obtain ⟨rfl, w2, w3⟩ := w
      have hFa : Fr wtp υ τ2 := (((hF.mono (V := wtp) (fun k j z => Or.inr (Or.inl z))).trans ((Fr_thr τ 0).mono (fun k j z => Or.inl z))).trans (u5.mono (fun k j z => wtn_wtp z))).trans (w3.mono (fun k j z => Or.inl (wwn_scr z)))
      refine ok_ret ⟨rfl, Inv_tape0 hK hI hFa ?_ ?_⟩
      · rw [w3.I 262 1 (fun z => by have := scr_ge (wwn_scr z); omega), u5.I 262 1 (by omega), rI_nk (by omega)]; exact h62
      · rw [w3.I 324 16 (fun z => by have := scr_ge (wwn_scr z); omega)]; exact u4
    · have hM := MD_thr hI
      rw [hD] at hM
      have fin : ok (some ((-1 : Int32), wI τ 324 0 0)) (fun r' τ' => r' = -1 ∧ Inv (KK GK C WK B P) τ') := ok_ret ⟨rfl, Inv_thr hK hI 0⟩
      have hTm2 : TPm m T (wI τ 324 0 0) := TPm_fr hTm (Fr_thr τ 0) (scr_td (by omega)) (fun j => scr_lo (by omega))
      rw [m_known hI, bd_some, ite_bI, e30]
      refine ok_ite (fun c3 => ?_) (fun c3 => fin)
      rw [e_within, bd_some, ite_bI, hM.r (k := 324) (j := 2) (by omega) (by omega), ite_iff (nI_sub1 (by omega))]
      refine ok_ite (fun c1 => ?_) (fun c1 => fin)
      obtain ⟨t, ht, rfl⟩ := i_lt c1.1 c1.2 (by omega)
      obtain ⟨d, hd, ed1, ed2⟩ := h.2.2.2.1.1
      have c3' := c3
      rw [ed2] at c3'
      obtain ⟨v, hv, rfl⟩ := i_le c3'.1 c3'.2 (by omega)
      rw [m_tC hw.1 hM ht (by omega), bd_some, ite_bI]
      refine ok_ite (fun c4 => ?_) (fun c4 => fin)
      rw [m_isName hTm2, bd_some, ite_bI, if_neg (fun z => hno ⟨c3, z, t, ht, rfl, fun v' e hv' => ?_⟩)]
      · exact fin
      · have := (nI_eq2 (by omega) (by omega)).mp e
        subst this
        exact c4
end WLD
