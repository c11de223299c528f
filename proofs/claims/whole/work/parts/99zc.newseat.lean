/-! a new name as the last seat -/
section NEW
variable {D : dD} {σ : jM} {v : Nat} {C B P : dD → Nat → jM → Prop} {m t : Nat} {T : Nat → Nat}
noncomputable def esN (D : dD) (v m : Nat) (T : Nat → Nat) (t : Nat) : seT := (up (ese D v 0).1 (nse D v 0) t, up (ese D v 0).2.1 (nse D v 0) (nce D v T m), fun i j => if i = nse D v 0 then cev D v T m j else (ese D v 0).2.2 i j)
noncomputable def WN (D : dD) (v m : Nat) (T : Nat → Nat) (t : Nat) : List (gF × gF) := lvs D v (esN D v m T t) (nse D v 0 + 1) 0 g0 r0
theorem esN_n : (esN D v m T t).1 (nse D v 0) = t ∧ (esN D v m T t).2.1 (nse D v 0) = nce D v T m ∧ ∀ j, (esN D v m T t).2.2 (nse D v 0) j = cev D v T m j := ⟨up_same _ _ _, up_same _ _ _, fun _ => if_pos rfl⟩
theorem esN_i {i : Nat} (h : i ≠ nse D v 0) : (esN D v m T t).1 i = (ese D v 0).1 i ∧ (esN D v m T t).2.1 i = (ese D v 0).2.1 i ∧ ∀ j, (esN D v m T t).2.2 i j = (ese D v 0).2.2 i j := ⟨up_ne _ _ h, up_ne _ _ h, fun _ => if_neg h⟩
theorem WN_len (hw : DW D) (ht : t < D 324 2) : (WN D v m T t).length ≤ 2097152 := by
  have h6 := nse_le hw (v := v) 0
  refine Nat.le_trans (lvs_len (fun i _ h2 => ?_)) (pow8 _ (by omega))
  by_cases e : i = nse D v 0
  · subst e
    rw [esN_n.1]
    exact (hw.1.2.1 _ ht).2.2.2.1
  · rw [(esN_i e).1]
    exact (hw.1.2.1 _ (ese_lt hw (by omega))).2.2.2.1
/-- the class has its seats, and the new one's cells -/
def SN (D : dD) (v m : Nat) (T : Nat → Nat) (σ : jM) : Prop := rI σ 296 5 = nI (nse D v 0) ∧ SC D (ese D v 0) (nse D v 0) σ ∧ rI σ 301 (nse D v 0) = nI (nce D v T m) ∧ ∀ j, j < nce D v T m → rI σ (303 + nse D v 0) j = nI (cev D v T m j)
theorem SN_SC (hw : DW D) (hm : nmok m T) (ht : t < D 324 2) (h : SN D v m T σ) (h3 : rI σ 300 (nse D v 0) = nI t) : SC D (esN D v m T t) (nse D v 0 + 1) σ := by
  have h6 := nse_le hw (v := v) 0
  have hn := nce_le (D := D) v T m
  refine ⟨by omega, fun i hi => ?_⟩
  by_cases e : i = nse D v 0
  · subst e
    rw [esN_n.1, esN_n.2.1]
    refine ⟨ht, by have := hm.2.1; omega, h3, h.2.2.1, fun j hj => ?_⟩
    rw [esN_n.2.2]
    exact ⟨cev_bd hw.2.1 hm.2.2 hj, h.2.2.2 j hj⟩
  · obtain ⟨a1, a2, a3, a4, a5⟩ := h.2.1.2 i (by omega)
    rw [(esN_i e).1, (esN_i e).2.1]
    refine ⟨a1, a2, a3, a4, fun j hj => ?_⟩
    rw [(esN_i e).2.2]
    exact a5 j hj
theorem SN_fr {τ : jM} (h : SN D v m T σ) (h6 : nse D v 0 ≤ 6) (h5 : rI τ 296 5 = rI σ 296 5) (h0 : ∀ i, i < nse D v 0 → rI τ 300 i = rI σ 300 i) (h1 : ∀ i, rI τ 301 i = rI σ 301 i) (h3 : ∀ k j, 303 ≤ k → k ≤ 309 → rI τ k j = rI σ k j) : SN D v m T τ := by
  refine ⟨h5.trans h.1, ⟨h.2.1.1, fun i hi => ?_⟩, (h1 _).trans h.2.2.1, fun j hj => (h3 _ _ (by omega) (by omega)).trans (h.2.2.2 j hj)⟩
  obtain ⟨a1, a2, a3, a4, a5⟩ := h.2.1.2 i hi
  exact ⟨a1, a2, (h0 i hi).trans a3, (h1 i).trans a4, fun j hj => ⟨(a5 j hj).1, (h3 _ _ (by omega) (by omega)).trans (a5 j hj).2⟩⟩
abbrev wsq (b : Prop) (k j : Nat) : Prop := (b ∧ (k = 297 ∨ (k = 296 ∧ j = 1))) ∨ k = 298 ∨ (k = 296 ∧ (j = 5 ∨ j = 13 ∨ j = 16 ∨ j = 17)) ∨ (299 ≤ k ∧ k ≤ 321)
theorem wsq_no {b : Prop} {k j : Nat} (h1 : ¬ (k = 297 ∨ (k = 296 ∧ j = 1))) (h2 : ¬ (k = 298 ∨ (k = 296 ∧ (j = 5 ∨ j = 13 ∨ j = 16 ∨ j = 17)) ∨ (299 ≤ k ∧ k ≤ 321))) : ¬ wsq b k j := fun z => z.elim (fun y => h1 y.2) h2
theorem wA_no {b : Prop} {k j : Nat} (h1 : ¬ (k = 297 ∨ (k = 296 ∧ j = 1))) (h2 : ¬ (wD0 0 k j ∨ (k = 296 ∧ j = 17))) : ¬ wA b k j := fun z => by
  rcases z with (z | z) | z
  · exact h1 z.2
  · exact h2 (Or.inl z)
  · exact h2 (Or.inr z)
theorem wA_wsq {b : Prop} {k j : Nat} (z : wA b k j) : wsq b k j := by
  rcases z with (z | z) | z
  · exact Or.inl z
  · exact Or.inr (by omega)
  · exact Or.inr (by omega)
theorem c_newAt (hw : DW D) (hct : CDt D σ) (hG : GK D v σ) (h18 : ∀ s, s < 40 → rI σ 18 s = nI (std D v s)) (hN : SN D v m T σ) (hm : nmok m T) {M : Nat} (ht : t < D 324 2) (hM : M < 2147483648) (hM1 : 1 ≤ M) : ok (f_X8_waysWithNewAt (nI t) (nI M) σ) (fun r τ => SN D v m T τ ∧ Fr (wsq (rI σ 296 18 ≠ 0)) σ τ ∧ (((WN D v m T t).length < M ∧ r = nI (WN D v m T t).length) ∨ (M ≤ (WN D v m T t).length ∧ r = nI M))) := by
  have h6 := nse_le hw (v := v) 0
  unfold f_X8_waysWithNewAt
  refine ok_bd c_clearCells (fun _ τ1 u => ?_)
  obtain ⟨u1, u2, u3, uF⟩ := u
  have e5 : rI τ1 296 5 = nI (nse D v 0) := (uF.I _ _ (by omega)).trans hN.1
  rw [rI_nk (show 296 ≠ 300 by omega), e5, gd_n (by omega) (by omega), nI_1]
  simp (disch := omega) only [nI_ix]
  generalize hn : nse D v 0 = n at *
  have hF2 : Fr (wsq (rI σ 296 18 ≠ 0)) σ (wI (wI τ1 300 n (nI t)) 296 5 (nI (n + 1))) := Fr.w (Fr.w (uF.mono (fun k j z => Or.inr (by omega))) (Or.inr (by omega))) (Or.inr (by omega))
  have hN2 : SC D (esN D v m T t) (n + 1) (wI (wI τ1 300 n (nI t)) 296 5 (nI (n + 1))) := by
    have hN1 : SN D v m T (wI τ1 300 n (nI t)) := SN_fr hN (by omega) ((rI_nk (by omega)).trans (uF.I _ _ (by omega))) (fun i hi => (rI_nj (by omega)).trans (uF.I _ _ (by omega))) (fun i => (rI_nk (by omega)).trans (uF.I _ _ (by omega))) (fun k j a b => (rI_nk (by omega)).trans (uF.I _ _ (by omega)))
    have hs := SN_SC hw hm ht hN1 (by rw [hn, rI_same])
    rw [hn] at hs
    refine ⟨hs.1, fun i hi => ?_⟩
    obtain ⟨a1, a2, a3, a4, a5⟩ := hs.2 i hi
    exact ⟨a1, a2, (rI_nk (by omega)).trans a3, (rI_nk (by omega)).trans a4, fun j hj => ⟨(a5 j hj).1, (rI_nk (by omega)).trans (a5 j hj).2⟩⟩
  have hX : CX D v (esN D v m T t) (n + 1) (wI (wI τ1 300 n (nI t)) 296 5 (nI (n + 1))) := ⟨CDt_eq hw.1 rfl rfl rfl rfl rfl rfl (hF2.I _ _ (wsq_no (by omega) (by omega))) (fun k j a b => hF2.I _ _ (wsq_no (by omega) (by omega))) hct, GK_St _ _ _ _ (fun k j hr => ⟨hF2.I _ _ (wsq_no (by omega) (by omega)), hF2.L _ _ (wsq_no (by omega) (by omega))⟩) hG, fun s hs => (hF2.I _ _ (wsq_no (by omega) (by omega))).trans (h18 s hs), hN2⟩
  have e18 : (rI σ 296 18 ≠ 0) ↔ rI (wI (wI τ1 300 n (nI t)) 296 5 (nI (n + 1))) 296 18 ≠ 0 := by rw [hF2.I 296 18 (wsq_no (by omega) (by omega))]
  have g1 : CG g0 (wI (wI τ1 300 n (nI t)) 296 5 (nI (n + 1))) := CG_fr u1 (fun s => by rw [rI_nk (by omega), rI_nk (by omega)]) (fun _ _ _ => rfl)
  have r1 : CR7 r0 (wI (wI τ1 300 n (nI t)) 296 5 (nI (n + 1))) := fun i hi => by rw [rI_nk (by omega), rI_nk (by omega)]; exact u2 i hi
  have e16 : rI (wI (wI τ1 300 n (nI t)) 296 5 (nI (n + 1))) 296 16 = 0 := by rw [rI_nj (by omega), rI_nk (by omega)]; exact u3
  have hW : WN D v m T t = lvs D v (esN D v m T t) (n + 1) 0 g0 r0 := by unfold WN; rw [hn]
  have hla := c_layAll (M := M) hw (Nat.le_refl _) hM hM1 (rI σ 296 18 ≠ 0) hX (rI_same _ _ _ _) e18 e16 g1 r1 (fun i _ => rfl) (fun i _ h => absurd rfl h)
  rw [← hW] at hla
  refine ok_bd (R := DQ (rI σ 296 18 ≠ 0) M g0 r0 (WN D v m T t) (wI (wI τ1 300 n (nI t)) 296 5 (nI (n + 1)))) hla (fun ret τ3 hh => ?_)
  obtain ⟨hF3, hres⟩ := hh
  have e53 : rI τ3 296 5 = nI (n + 1) := (hF3.I _ _ (wA_no (by omega) (by omega))).trans (rI_same _ _ _ _)
  have ep : nI (n + 1) - 1 = nI n := nI_pred _
  rw [e53, ep]
  have hFt : Fr (wsq (rI σ 296 18 ≠ 0)) σ (wI τ3 296 5 (nI n)) := Fr.w (hF2.trans (hF3.mono (fun k j z => wA_wsq z))) (Or.inr (by omega))
  have hNt : SN D v m T (wI τ3 296 5 (nI n)) := by
    refine SN_fr hN (by omega) ?_ (fun i hi => ?_) (fun i => ?_) (fun k j a b => ?_)
    · rw [rI_same]; exact hN.1.symm ▸ (by rw [hn])
    · rw [hn] at hi
      rw [rI_nk (by omega), hF3.I _ _ (wA_no (by omega) (by omega)), rI_nk (by omega), rI_nj (by omega), uF.I _ _ (by omega)]
    · rw [rI_nk (by omega), hF3.I _ _ (wA_no (by omega) (by omega)), rI_nk (by omega), rI_nk (by omega), uF.I _ _ (by omega)]
    · rw [rI_nk (by omega), hF3.I _ _ (wA_no (by omega) (by omega)), rI_nk (by omega), rI_nk (by omega), uF.I _ _ (by omega)]
  rcases hres with ⟨x1, -, -, -, x5, -⟩ | ⟨x1, -, x, x3, x4, x5, x6⟩
  · exact ok_ret ⟨hNt, hFt, Or.inl ⟨x1, x5⟩⟩
  · exact ok_ret ⟨hNt, hFt, Or.inr ⟨x1, x6⟩⟩
/-- the class seats all, and the new one -/
theorem c_seatAll (hS : SK GK C WK B P) (h : Vw (KK GK C WK B P) v σ) (hT : TP m T σ) (hm : nmok m T) {Q : Int32 → jM → Prop} {F : jM → Option (Int32 × jM)} (hq : ∀ τ, Vw (KK GK C WK B P) v τ → dm τ = dm σ → rI τ 3 0 = rI σ 3 0 → SN (dm σ) v m T τ → Fr (wsr (rI σ 296 18 ≠ 0) (rIx (dm σ) v)) σ τ → ok (F τ) Q) : ok (bd (f_X8_seatNames 0 σ) (fun _ σ10 => bd (f_X8_seatNew 263 (rI σ10 262 1) σ10) (fun _ σ13 => F σ13))) Q := by
  have hw := h.1.2.1
  have hn6 := nse_le hw (v := v) 0
  have hrl := rIx_le hw.2.1 v
  have hrx := rulX_cases (rIx (dm σ) v)
  refine ok_bd (c_seatNames hw h.1.2.2.1 (a := 0) (by omega) h.2.1 h.2.2.1 h.2.2.2.1.1) (fun _ τ1 t => ?_)
  obtain ⟨t5, tS, tN, tF⟩ := t
  have hF1 : Fr (wsr (rI σ 296 18 ≠ 0) (rIx (dm σ) v)) σ τ1 := tF.mono (fun k j z => Or.inr (by omega))
  obtain ⟨i1, i2, i3⟩ := Vw_srch hS h hF1
  have e21 : rI τ1 262 1 = nI m := (tF.I _ _ (by omega)).trans hT.2.2.1
  have hcd := i1.1.2.2.1.2.1
  rw [i2] at hcd
  unfold f_X8_seatNew
  rw [t5, e21, gd_n (by omega) (by omega)]
  simp (disch := omega) only [nI_ix, rI_nk, t5, gd_n]
  have hx : (wI τ1 299 (nse (dm σ) v 0) (-1)).2.2 = rIx (dm σ) v := (tF.2.2 (by omega)).trans h.2.2.2.1.1
  rw [hx]
  have hF2 : Fr (wsr (rI σ 296 18 ≠ 0) (rIx (dm σ) v)) σ (wI τ1 299 (nse (dm σ) v 0) (-1)) := Fr.w hF1 (Or.inr (by omega))
  have hcr : CDr (dm σ) (wI τ1 299 (nse (dm σ) v 0) (-1)) := CDr_eq hw.2.1 rfl rfl rfl rfl rfl rfl rfl (rI_nk (by omega)) (rI_nk (by omega)) (fun k j a b i => rI_nk (by omega)) hcd
  have e63 : (shf 263).2 = 300 := rfl
  have hm8 := hm.2.1
  have hsp := c_spell hw.2.1 hcr (v := v) (n := m) (a := 263) (b := 303 + nse (dm σ) v 0) (L := T) hm.2.2 (fun i hi => by rw [rI_nk (by omega), tF.I 263 i (by omega)]; exact (hT.2.2.2 i hi).2.1) hm8 ⟨by rw [e63]; omega, by rw [e63]; omega⟩ (shf_cell _ (by omega)) ⟨by omega, Or.inr (by omega)⟩
  obtain ⟨r, τ2, hs0, rfl, hs2, hs3⟩ := hsp
  rw [hs0, bd_some, bd_some]
  have hF3 : Fr (wsr (rI σ 296 18 ≠ 0) (rIx (dm σ) v)) σ (wI τ2 301 (nse (dm σ) v 0) (nI (nce (dm σ) v T m))) := Fr.w (hF2.trans (hs3.mono (fun k j z => Or.inr (by omega)))) (Or.inr (by omega))
  obtain ⟨k1, k2, k3⟩ := Vw_srch hS h hF3
  refine hq _ k1 k2 k3 ⟨?_, ⟨tS.1, fun i hi => ?_⟩, rI_same _ _ _ _, fun j hj => ?_⟩ hF3
  · rw [rI_nk (by omega), hs3.I _ _ (by omega), rI_nk (by omega)]; exact t5
  · obtain ⟨a1, a2, a3, a4, a5⟩ := tS.2 i hi
    refine ⟨a1, a2, ?_, ?_, fun j hj => ⟨(a5 j hj).1, ?_⟩⟩
    · rw [rI_nk (by omega), hs3.I _ _ (by omega), rI_nk (by omega)]; exact a3
    · rw [rI_nj (by omega), hs3.I _ _ (by omega), rI_nk (by omega)]; exact a4
    · rw [rI_nk (by omega), hs3.I _ _ (by omega), rI_nk (by omega)]; exact (a5 j hj).2
  · rw [rI_nk (by omega)]; exact hs2 j hj
abbrev wwn (k j : Nat) : Prop := wfa k j ∨ (k = 361 ∧ j = 6)
theorem wwn_scr {k j : Nat} (h : wwn k j) : scr k j := h.elim wfa_scr (fun z => Or.inr (Or.inr (Or.inr (Or.inr (Or.inr (Or.inr (Or.inr (Or.inr (Or.inr (Or.inr (Or.inl ⟨z.1, by omega⟩)))))))))))
theorem m_seatN (hw : DW D) (hM : MD D σ) (hv : v ≤ 100000) (hm : nmok m T) (h9 : rI σ 359 6 = nI m) (h0 : ∀ i, i < m → rI σ 360 (48 + i) = nI (T i)) (ht : t < D 324 2) {Q : Int32 → jM → Prop} {F : jM → Option (Int32 × jM)} (hq : ∀ τ, MX D v (esN D v m T t) (up (nmo D v 0) (nse D v 0) 6) (nse D v 0 + 1) τ → Fr wwn σ τ → ok (F τ) Q) : ok (bd (f_X13_takes (nI v) 0 σ) (fun _ σ4 => gd (inb 6 7) (bd (f_X13_spells 6 (nI v) (wI σ4 361 (Int32.toNatClampNeg 6) (nI t))) (fun _ σ8 => gd (inb (rI σ8 324 64) 7) (F (wI (wI σ8 367 (Int32.toNatClampNeg (rI σ8 324 64)) 6) 324 64 ((rI σ8 324 64) + 1))))))) Q := by
  have h6 := nse_le hw (v := v) 0
  refine ok_bd (m_takes hw hM (a := 0) (by omega) hv) (fun _ τ1 t' => ?_)
  obtain ⟨hX, hF1⟩ := t'
  have e6 : Int32.toNatClampNeg 6 = 6 := rfl
  rw [gd_pos (show inb 6 7 from nI_inb (a := 6) (by omega) (by omega)), e6]
  have n1 : ∀ k j, (k = 359 ∨ k = 360) → ¬ wtk k j := fun k j hk z => by omega
  have hM2 : MD D (wI τ1 361 6 (nI t)) := MD_fr hX.1 (W := fun k j => k = 361 ∧ j = 6) (Fr.w Fr.refl ⟨rfl, rfl⟩) (fun k j hp z => by have := pers_ge hp; rcases hp with hp | hp | hp | hp | hp | hp | hp | hp | hp | hp | hp <;> omega)
  have hsp := m_spells hw.2.1 hM2 (v := v) (n := m) (m := 6) (L := T) hv (by omega) hm.2.2 hm.2.1 (by rw [rI_nk (by omega), hF1.I 359 6 (n1 _ _ (by omega))]; exact h9) (fun i hi => by rw [rI_nk (by omega), hF1.I 360 _ (n1 _ _ (by omega))]; exact h0 i hi)
  refine ok_bd hsp (fun _ τ2 u => ?_)
  obtain ⟨s1, s2, s3⟩ := u
  have e64 : rI τ2 324 64 = nI (nse D v 0) := by
    rw [s3.I 324 64 (by omega), rI_nk (by omega)]; exact hX.2.2.2.1
  rw [e64, gd_n (by omega) (by omega), nI_1, nI_ix (by omega)]
  have hFt : Fr wwn σ (wI (wI τ2 367 (nse D v 0) 6) 324 64 (nI (nse D v 0 + 1))) := Fr.w (Fr.w ((Fr.w (hF1.mono (V := wwn) (fun k j z => Or.inl (Or.inl z))) (Or.inr ⟨rfl, rfl⟩)).trans (s3.mono (fun k j z => Or.inl (Or.inl (Or.inr (Or.inr (by omega))))))) (Or.inl (Or.inl (Or.inr (Or.inr (by omega)))))) (Or.inl (Or.inl (Or.inr (Or.inl ⟨rfl, rfl⟩))))
  refine hq _ ⟨?_, ?_, ?_, ?_, fun i hi => ?_⟩ hFt
  · exact MD_fr hM hFt (fun k j hp z => scr_pers hp (wwn_scr z))
  · refine ML_fr hX.2.1 (fun k j z => ?_)
    rw [rI_ne (by omega), rI_nk (by omega), s3.I k j (by omega), rI_nk (by omega)]
  · omega
  · exact rI_same _ _ _ _
  · have hce := nce_le (D := D) v T m
    by_cases e : i = nse D v 0
    · subst e
      rw [esN_n.1, esN_n.2.1, up_same]
      refine ⟨by omega, ht, ?_, ?_, ?_, by have := hm.2.1; omega, fun j hj => ⟨?_, ?_⟩⟩
      · rw [rI_nk (by omega), rI_same]; rfl
      · rw [rI_nk (by omega), rI_nk (by omega), s3.I 361 6 (by omega), rI_same]
      · rw [rI_nk (by omega), rI_nk (by omega)]; exact s1
      · rw [rI_nk (by omega), rI_nk (by omega), esN_n.2.2]; exact s2 j hj
      · rw [esN_n.2.2]; exact cev_bd hw.2.1 hm.2.2 hj
    · obtain ⟨a1, a2, a3, a4, a5, a6, a7⟩ := hX.2.2.2.2 i (by omega)
      have hnm := (nmo_of (D := D) (v := v) (a := 0) (i := i) (by omega)).1
      have h55 := hw.2.2.2.2.1
      rw [(esN_i e).1, (esN_i e).2.1, up_ne _ _ e]
      refine ⟨a1, a2, ?_, ?_, ?_, a6, fun j hj => ⟨?_, ?_⟩⟩
      · rw [rI_nk (by omega), rI_nj e, s3.I 367 i (by omega), rI_nk (by omega)]; exact a3
      · rw [rI_nk (by omega), rI_nk (by omega), s3.I 361 _ (by omega), rI_nj (by omega)]; exact a4
      · rw [rI_nk (by omega), rI_nk (by omega), s3.I 365 _ (by omega), rI_nk (by omega)]; exact a5
      · rw [rI_nk (by omega), rI_nk (by omega), s3.I 364 _ (by omega), rI_nk (by omega), (esN_i e).2.2]; exact (a7 j hj).1
      · rw [(esN_i e).2.2]; exact (a7 j hj).2
theorem m_waysWith (hw : DW D) (hM : MD D σ) (hv : v ≤ 100000) (hm : nmok m T) (h9 : rI σ 359 6 = nI m) (h0 : ∀ i, i < m → rI σ 360 (48 + i) = nI (T i)) (ht : t < D 324 2) : ok (f_X13_waysWith (nI v) (nI t) σ) (fun r τ => r = nI (WN D v m T t).length ∧ MD D τ ∧ Fr wwn σ τ) := by
  unfold f_X13_waysWith
  refine m_seatN (F := fun τ => bd (f_X13_goesThrough 6 (nI v) τ) (fun _ σ12 => some ((rI σ12 324 68) , σ12))) hw hM hv hm h9 h0 ht (fun τ hX hF => ?_)
  refine ok_bd (m_goesThrough hw J6 (fun _ _ _ => False) (fun L τ τ' h hF => (hF.I _ _ (by omega)).trans h) (fun L g r τ' h1 h2 h3 h4 h5 => m_meets6 h5) hX (rI_same _ _ _ _)) (fun _ τ2 t => ?_)
  obtain ⟨t1, t2⟩ := t
  have hFt : Fr wwn σ τ2 := hF.trans (t1.mono (fun k j z => Or.inl (Or.inr z)))
  rcases t2 with t2 | ⟨_, _, _, _, t2⟩
  · exact ok_ret ⟨t2, MD_fr hM hFt (fun k j hp z => scr_pers hp (wwn_scr z)), hFt⟩
  · exact t2.elim
end NEW
