/-! where -/
section WHR
variable {D : dD} {σ : jM} {v : Nat} {C B P : dD → Nat → jM → Prop} {m t : Nat} {T : Nat → Nat}
/-- the tablet that tells most, and how many ways it leaves -/
noncomputable def bw (D : dD) (v m : Nat) (T : Nat → Nat) : Nat → Nat × Nat := Nat.rec (99, 2147483647) (fun t p => if tC D v t ∧ 1 ≤ (WN D v m T t).length ∧ (WN D v m T t).length < p.2 then (t, (WN D v m T t).length) else p)
theorem bw_s (k : Nat) : bw D v m T (k + 1) = if tC D v k ∧ 1 ≤ (WN D v m T k).length ∧ (WN D v m T k).length < (bw D v m T k).2 then (k, (WN D v m T k).length) else bw D v m T k := rfl
theorem bw_inv (hw : DW D) {k : Nat} (hk : k ≤ D 324 2) : ((bw D v m T k).1 = 99 ∧ (bw D v m T k).2 = 2147483647) ∨ ((bw D v m T k).1 < k ∧ 1 ≤ (bw D v m T k).2 ∧ (bw D v m T k).2 ≤ 2097152) := by
  induction k with
  | zero => exact Or.inl ⟨rfl, rfl⟩
  | succ k ih =>
    rw [bw_s]
    by_cases c : tC D v k ∧ 1 ≤ (WN D v m T k).length ∧ (WN D v m T k).length < (bw D v m T k).2
    · rw [if_pos c]
      exact Or.inr ⟨Nat.lt_succ_self k, c.2.1, WN_len hw (by omega)⟩
    · rw [if_neg c]
      exact (ih (by omega)).imp id (fun z => ⟨by omega, z.2⟩)
theorem c_tellMost (hw : DW D) (hct : CDt D σ) (hG : GK D v σ) (h18 : ∀ s, s < 40 → rI σ 18 s = nI (std D v s)) (h10 : rI σ 3 10 = nI v) (hv : v ≤ 100000) (hN : SN D v m T σ) (hm : nmok m T) : ok (f_X8_tabletTellingMost σ) (fun r τ => r = pz (bw D v m T (D 324 2)).1 ∧ Fr (wsq (rI σ 296 18 ≠ 0)) σ τ) := by
  have h24 := hw.1.1
  unfold f_X8_tabletTellingMost
  refine L_X8_tabletTellingMost_7 (D 324 2) (fun k l1 l2 l3 τ => l1 = pz (bw D v m T k).1 ∧ l2 = nI (bw D v m T k).2 ∧ l3 = nI k ∧ SN D v m T τ ∧ Fr (wsq (rI σ 296 18 ≠ 0)) σ τ) (by omega) (fun k p l1 l2 l3 τ hk hI hp => ?_) (Nat.zero_le _) ⟨rfl, rfl, rfl, hN, Fr.refl⟩
  obtain ⟨rfl, rfl, rfl, hN1, hF⟩ := hI
  have hct1 : CDt D τ := CDt_eq hw.1 rfl rfl rfl rfl rfl rfl (hF.I _ _ (wsq_no (by omega) (by omega))) (fun k j a b => hF.I _ _ (wsq_no (by omega) (by omega))) hct
  have hbi := bw_inv (v := v) (m := m) (T := T) hw hk
  have hbs := bw_s (D := D) (v := v) (m := m) (T := T) k
  unfold s_X8_tabletTellingMost_7 f_X8_tabletTellingMost_54
  rw [hct1.1, ite_iff (nI_le2 (by omega) (by omega))]
  by_cases ck : k < D 324 2
  · have hl := WN_len (v := v) (m := m) (T := T) hw ck
    have no : ¬ (tC D v k ∧ 1 ≤ (WN D v m T k).length ∧ (WN D v m T k).length < (bw D v m T k).2) → ∀ τ', SN D v m T τ' → Fr (wsq (rI σ 296 18 ≠ 0)) σ τ' → ok (p (pz (bw D v m T k).1) (nI (bw D v m T k).2) (nI k + 1) τ') (fun r τ => r = pz (bw D v m T (D 324 2)).1 ∧ Fr (wsq (rI σ 296 18 ≠ 0)) σ τ) := fun z τ' x1 x2 => by
      rw [if_neg z] at hbs
      exact hp (k + 1) _ _ _ _ (by omega) (by omega) ⟨by rw [hbs], by rw [hbs], nI_1 k, x1, x2⟩
    rw [if_neg (by omega), c_tC hw.1 hct1 ck hv ((hF.I _ _ (wsq_no (by omega) (by omega))).trans h10), bd_some, ite_bI]
    refine ok_ite (fun z => ?_) (fun z => no (fun y => z y.1) τ hN1 hF)
    have hna := c_newAt (σ := τ) (M := (bw D v m T k).2) hw hct1 (GK_St _ _ _ _ (fun k j hr => ⟨hF.I _ _ (wsq_no (by omega) (by omega)), hF.L _ _ (wsq_no (by omega) (by omega))⟩) hG) (fun s hs => (hF.I _ _ (wsq_no (by omega) (by omega))).trans (h18 s hs)) hN1 hm ck (by omega) (by omega)
    refine ok_bd hna (fun r τ2 u => ?_)
    obtain ⟨u1, u2, u3⟩ := u
    rw [hF.I 296 18 (wsq_no (by omega) (by omega))] at u2
    have hF2 := hF.trans u2
    rcases u3 with ⟨u3, rfl⟩ | ⟨u3, rfl⟩
    · rw [ite_iff (show nI (WN D v m T k).length < 1 ↔ (WN D v m T k).length < 1 from nI_lt2 (b := 1) (by omega) (by omega)), ite_iff (nI_le2 (by omega) (by omega))]
      refine ok_ite (fun z2 => no (fun y => by omega) τ2 u1 hF2) (fun z2 => ?_)
      rw [if_neg (by omega)]
      rw [if_pos ⟨z, by omega, u3⟩] at hbs
      exact hp (k + 1) _ _ _ _ (by omega) (by omega) ⟨by rw [hbs]; exact (pz_n (by omega)).symm, by rw [hbs], nI_1 k, u1, hF2⟩
    · rw [ite_iff (show nI (bw D v m T k).2 < 1 ↔ (bw D v m T k).2 < 1 from nI_lt2 (b := 1) (by omega) (by omega)), if_neg (by omega), if_pos (Int32.le_refl _)]
      exact no (fun y => by omega) τ2 u1 hF2
  · have e : k = D 324 2 := by omega
    rw [if_pos (by omega), ← e]
    exact ok_ret ⟨rfl, hF⟩
theorem m_where36 (hw : DW D) (hM : MD D σ) (hv : v ≤ 100000) (hm : nmok m T) (h9 : rI σ 359 6 = nI m) (h0 : ∀ i, i < m → rI σ 360 (48 + i) = nI (T i)) : ok (f_X13_where_36 Fu (nI v) (-1) 0 0 σ) (fun r τ => r = pz (bw D v m T (D 324 2)).1 ∧ Fr wwn σ τ) := by
  have h24 := hw.1.1
  refine L_X13_where_36 (D 324 2) (fun k l2 l3 l4 τ => l2 = pz (bw D v m T k).1 ∧ ((bw D v m T k).1 ≠ 99 → l3 = nI (bw D v m T k).2) ∧ l4 = nI k ∧ MD D τ ∧ Fr wwn σ τ) (by omega) (fun k p l2 l3 l4 τ hk hI hp => ?_) (Nat.zero_le _) ⟨rfl, fun z => absurd rfl z, rfl, hM, Fr.refl⟩
  obtain ⟨rfl, h3, rfl, hM1, hF⟩ := hI
  have hbi := bw_inv (v := v) (m := m) (T := T) hw hk
  have hbs := bw_s (D := D) (v := v) (m := m) (T := T) k
  unfold s_X13_where_36 f_X13_where_86 f_X13_where_92
  rw [hM1.r (k := 324) (j := 2) (by omega) (by omega), ite_iff (nI_le2 (by omega) (by omega))]
  by_cases ck : k < D 324 2
  · have hl := WN_len (v := v) (m := m) (T := T) hw ck
    have no : ¬ (tC D v k ∧ 1 ≤ (WN D v m T k).length ∧ (WN D v m T k).length < (bw D v m T k).2) → ∀ τ', MD D τ' → Fr wwn σ τ' → ok (p (nI v) (pz (bw D v m T k).1) l3 (nI k + 1) τ') (fun r τ => r = pz (bw D v m T (D 324 2)).1 ∧ Fr wwn σ τ) := fun z τ' x1 x2 => by
      rw [if_neg z] at hbs
      exact hp (k + 1) _ _ _ _ (by omega) (by omega) ⟨by rw [hbs], by rw [hbs]; exact h3, nI_1 k, x1, x2⟩
    have yes : (tC D v k ∧ 1 ≤ (WN D v m T k).length ∧ (WN D v m T k).length < (bw D v m T k).2) → ∀ τ', MD D τ' → Fr wwn σ τ' → ok (p (nI v) (nI k) (nI (WN D v m T k).length) (nI k + 1) τ') (fun r τ => r = pz (bw D v m T (D 324 2)).1 ∧ Fr wwn σ τ) := fun z τ' x1 x2 => by
      rw [if_pos z] at hbs
      exact hp (k + 1) _ _ _ _ (by omega) (by omega) ⟨by rw [hbs]; exact (pz_n (by omega)).symm, by rw [hbs]; exact fun _ => rfl, nI_1 k, x1, x2⟩
    rw [if_neg (by omega), m_tC hw.1 hM1 ck hv, bd_some, ite_bI]
    refine ok_ite (fun z => ?_) (fun z => no (fun y => z y.1) τ hM1 hF)
    refine ok_bd (m_waysWith hw hM1 hv hm ((hF.I _ _ (by omega)).trans h9) (fun i hi => (hF.I _ _ (by omega)).trans (h0 i hi)) ck) (fun r τ2 u => ?_)
    obtain ⟨rfl, u2, u3⟩ := u
    have hF2 := hF.trans u3
    rw [ite_iff (show nI (WN D v m T k).length = 0 ↔ (WN D v m T k).length = 0 from nI_eq2 (b := 0) (by omega) (by omega)), ite_iff (pz_m1 (x := (bw D v m T k).1) (by omega))]
    refine ok_ite (fun z2 => no (fun y => by omega) τ2 u2 hF2) (fun z2 => ok_ite (fun z3 => yes ⟨z, by omega, by omega⟩ τ2 u2 hF2) (fun z3 => ?_))
    rw [h3 z3, ite_iff (nI_lt2 (by omega) (by omega))]
    refine ok_ite (fun z4 => yes ⟨z, by omega, z4⟩ τ2 u2 hF2) (fun z4 => ?_)
    have := no (fun y => z4 y.2.2) τ2 u2 hF2
    rw [h3 z3] at this
    exact this
  · have e : k = D 324 2 := by omega
    rw [if_pos (by omega), ← e]
    exact ok_ret ⟨rfl, hF⟩
/-- a call that takes the tape: the class sees, seats and searches -/
theorem c_tapeq (h : Inv (KK GK C WK B P) σ) (hS : SK GK C WK B P) (hT : TP m T σ) (a1 : Int32) {X : jM → Option (Int32 × jM)} {Y : Nat → Int32} (hX : ∀ v τ, v ≤ 100000 → DW (dm σ) → CDt (dm σ) τ → GK (dm σ) v τ → (∀ s, s < 40 → rI τ 18 s = nI (std (dm σ) v s)) → rI τ 3 10 = nI v → SN (dm σ) v m T τ → nmok m T → ok (X τ) (fun r τ' => r = Y v ∧ Fr (wsq (rI τ 296 18 ≠ 0)) τ τ')) : ok (bd (f_X11_isName σ) (fun r1 σ2 => (if r1 = 0 then some (-1, σ2) else bd (f_X12_seeGrid a1 σ2) (fun r5 σ6 => (if r5 = 0 then some (-1, σ6) else bd (f_X8_seatNames 0 σ6) (fun _ σ10 => bd (f_X8_seatNew 263 (rI σ10 262 1) σ10) (fun _ σ13 => bd (X (wI σ13 262 1 0)) (fun r15 σ16 => some (r15, σ16)))))))))
    (HT C B P σ m T (fun r => ∃ v, v ≤ 100000 ∧ a1 = nI v ∧ kn σ a1 ∧ r = Y v) (fun r => r = -1 ∧ ¬ (kn σ a1 ∧ nmok m T))) := by
  have hw := h.2.1
  rw [c_isName hT, bd_some, ite_bI]
  refine ok_ite (fun c2 => ?_) (fun c2 => ok_ret ⟨σ, h, rfl, rfl, hT.m, Or.inr ⟨⟨rfl, fun z => c2 z.2⟩, rfl⟩⟩)
  refine ok_bd (c_seeGrid hS h a1) (fun r τ hh => ?_)
  obtain ⟨rfl, h1, h2, h3, h4⟩ := hh
  have e30 : rI τ 3 0 = rI σ 3 0 := h3.I _ _ (fun z => by have := ccr_ge z; omega)
  have hT1 := TP_ccr hT h3
  rw [ite_bI]
  refine ok_ite (fun c3 => ?_) (fun c3 => ok_ret ⟨τ, h1, h2, e30, hT1.m, Or.inr ⟨⟨rfl, fun z => c3 z.1⟩, rfl⟩⟩)
  obtain ⟨v, rfl, hV, hG⟩ := h4 c3
  rw [h2] at hG
  refine c_seatAll (F := fun σ13 => bd (X (wI σ13 262 1 0)) (fun r15 σ16 => some (r15, σ16))) hS hV hT1 c2 (fun τ1 g1 g2 g3 g4 g5 => ?_)
  have hrl := rIx_le hw.2.1 v
  have hrx := rulX_cases (rIx (dm σ) v)
  rw [h2] at g2 g4 g5
  have hcd1 := g1.1.2.2.1
  have hst1 := g1.2.2.2.1.2
  rw [g2] at hcd1 hst1
  have nw : ∀ {k j : Nat}, ¬ (k = 297 ∨ (k = 296 ∧ j = 1)) → ¬ (k = 298 ∨ (k = 296 ∧ (j = 5 ∨ j = 13 ∨ j = 16 ∨ j = 17)) ∨ (299 ≤ k ∧ k ≤ 321) ∨ k = rulX (rIx (dm σ) v) + 7 ∨ k = rulX (rIx (dm σ) v) + 8) → ¬ wsr (rI τ 296 18 ≠ 0) (rIx (dm σ) v) k j := fun a c z => z.elim (fun y => a y.2) c
  have hG1 : GK (dm σ) v τ1 := GK_St _ _ _ _ (fun k j hr => ⟨g5.I _ _ (nw (by omega) (by omega)), g5.L _ _ (nw (by omega) (by omega))⟩) hG
  have hna := hX v (wI τ1 262 1 0) hV.2.1 hw (CDt_eq hw.1 rfl rfl rfl rfl rfl rfl (rI_nk (by omega)) (fun k j a b => rI_nk (by omega)) hcd1.1) (GK_St _ _ _ _ (fun k j hr => ⟨rI_nk (by omega), rfl⟩) hG1) (fun s hs => (rI_nk (by omega)).trans (hst1 s hs)) ((rI_nk (by omega)).trans g1.2.2.1) (SN_fr g4 (nse_le hw (v := v) 0) (rI_nk (by omega)) (fun i _ => rI_nk (by omega)) (fun i => rI_nk (by omega)) (fun k j a b => rI_nk (by omega))) c2
  refine ok_bd hna (fun r τ2 u => ?_)
  exact ok_ret (HT_yes hS g1 g2 (g3.trans e30) (TPm_wsr hrl hT1.m g5) c2 u.2 ⟨v, hV.2.1, rfl, c3, u.1⟩)
/-- the reference's half -/
theorem m_tapeq (hK : KX (KK GK C WK B P)) (h : Inv (KK GK C WK B P) σ) (a1 : Int32) {X : jM → Option (Int32 × jM)} {Y : Nat → Int32} (hX : ∀ v τ, v ≤ 100000 → a1 = nI v → DW (dm σ) → MD (dm σ) τ → rI τ 359 6 = nI m → (∀ i, i < m → rI τ 360 (48 + i) = nI (T i)) → nmok m T → ok (X τ) (fun r τ' => r = Y v ∧ Fr scr τ τ')) (r : Int32) (τ : jM) (hq : HT C B P σ m T (fun r => ∃ v, v ≤ 100000 ∧ a1 = nI v ∧ kn σ a1 ∧ r = Y v) (fun r => r = -1 ∧ ¬ (kn σ a1 ∧ nmok m T)) r τ) : ok (bd (f_X13_isKnown a1 (wI τ 324 0 0)) (fun r23 σ24 => (if r23 = 0 then some (-1, σ24) else bd (f_X13_isName σ24) (fun r27 σ28 => (if r27 = 0 then some (-1, σ28) else bd (f_X13_takesName 6 0 σ28) (fun _ σ32 => X σ32)))))) (fun r' τ' => r' = r ∧ Inv (KK GK C WK B P) τ') := by
  have hw := h.2.1
  obtain ⟨υ, hI, hD, e30, hTm, hR⟩ := hq
  rcases hR with ⟨⟨v, hv, rfl, c3, rfl⟩, hm, hF, h62⟩ | ⟨⟨rfl, hno⟩, rfl⟩
  · have hM := MD_q hI hD hF
    have ek : rI (wI τ 324 0 0) 324 1 = rI σ 3 0 := by
      rw [rI_nj (by omega), hF.I _ _ (by omega), td_eq hI]; exact e30
    have hTm2 : TPm m T (wI τ 324 0 0) := TPm_fr hTm (Fr.w (W := fun k j => (k = 262 ∧ j = 1) ∨ (k = 324 ∧ j = 0)) (hF.mono (fun k j z => Or.inl z)) (Or.inr ⟨rfl, rfl⟩)) (by omega) (fun j => by omega)
    rw [e_isKnown, bd_some, ite_bI, ek, if_pos c3, m_isName hTm2, bd_some, ite_bI, if_pos hm]
    refine ok_bd (m_takesName (m := 6) hTm2 hm (by omega) 0) (fun _ τ1 u => ?_)
    obtain ⟨u1, u2, u3, u4, u5⟩ := u
    have hM1 : MD (dm σ) τ1 := MD_fr hM u5 (fun k j hp z => wtn_pers hp z)
    refine ok_imp (hX v τ1 hv rfl hw hM1 u1 u2 hm) (fun r τ2 w => ?_)
    obtain ⟨w1, w3⟩ := w
    have hFa : Fr wtp υ τ2 := (((hF.mono (V := wtp) (fun k j z => Or.inr (Or.inl z))).trans ((Fr_thr τ 0).mono (fun k j z => Or.inl z))).trans (u5.mono (fun k j z => wtn_wtp z))).trans (w3.mono (fun k j z => Or.inl z))
    refine ⟨w1, Inv_tape0 hK hI hFa ?_ ?_⟩
    · rw [w3.I 262 1 (fun z => by have := scr_ge z; omega), u5.I 262 1 (by omega), rI_nk (by omega)]; exact h62
    · rw [w3.I 324 16 (fun z => by have := scr_ge z; omega)]; exact u4
  · have hTm2 : TPm m T (wI τ 324 0 0) := TPm_fr hTm (Fr_thr τ 0) (scr_td (by omega)) (fun j => scr_lo (by omega))
    have fin : ok (some ((-1 : Int32), wI τ 324 0 0)) (fun r' τ' => r' = -1 ∧ Inv (KK GK C WK B P) τ') := ok_ret ⟨rfl, Inv_thr hK hI 0⟩
    rw [m_known hI, bd_some, ite_bI, e30]
    refine ok_ite (fun c3 => ?_) (fun c3 => fin)
    rw [m_isName hTm2, bd_some, ite_bI, if_neg (fun z => hno ⟨c3, z⟩)]
    exact fin
theorem op_where (h : Inv (KK GK C WK B P) σ) (hS : SK GK C WK B P) (a1 a2 a3 a4 a5 : Int32) : ∃ σ', lw_op 32 a1 a2 a3 a4 a5 σ σ' ∧ Inv (KK GK C WK B P) σ' := by
  have hK := KK_KX hS
  show ∃ σ', (∃ (r : Int32) (σ1 : jM), f_X12_where a1 σ = some (r, σ1) ∧ f_X13_where a1 σ1 = some (r, σ')) ∧ Inv (KK GK C WK B P) σ'
  obtain ⟨m, T, hT⟩ := TP_of h.2.2.2.1
  refine op_mk (c_tapeq h hS hT a1 (X := f_X8_tabletTellingMost) (Y := fun v => pz (bw (dm σ) v m T (dm σ 324 2)).1) (fun v τ hv hw hct hG h18 h10 hN hm => c_tellMost hw hct hG h18 h10 hv hN hm)) (fun r τ hq => m_tapeq hK h a1 (X := fun τ => f_X13_where_36 Fu a1 (-1) 0 0 τ) (Y := fun v => pz (bw (dm σ) v m T (dm σ 324 2)).1) (fun v τ hv e hw hM h9 h0 hm => ?_) r τ hq)
  subst e
  exact ok_imp (m_where36 hw hM hv hm h9 h0) (fun r τ' u => ⟨u.1, u.2.mono (fun k j z => wwn_scr z)⟩)
end WHR
