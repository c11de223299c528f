/-! is there a way without some names -/
section HAS
variable {σ : jM} {C B P : dD → Nat → jM → Prop}
theorem c_hasWay {v a : Nat} (hS : SK GK C WK B P) (h : Vw (KK GK C WK B P) v σ) (hG : GK (dm σ) v σ) (ha : a < 64) : ok (f_X8_hasWayWithout (nI a) σ) (fun r τ => (Vw (KK GK C WK B P) v τ ∧ dm τ = dm σ ∧ rI τ 3 0 = rI σ 3 0) ∧ r = bI (0 < (WW (dm σ) v a).length) ∧ Fr (wsr (rI σ 296 18 ≠ 0) (rIx (dm σ) v)) σ τ) := by
  have hw := h.1.2.1
  have hn6 := nse_le hw (v := v) a
  have hrl := rIx_le hw.2.1 v
  have hrx := rulX_cases (rIx (dm σ) v)
  unfold f_X8_hasWayWithout
  refine ok_bd (c_seatNames hw h.1.2.2.1 (a := a) ha h.2.1 h.2.2.1 h.2.2.2.1.1) (fun _ τ1 t => ?_)
  obtain ⟨t5, tS, tN, tF⟩ := t
  have hF1 : Fr (wsr (rI σ 296 18 ≠ 0) (rIx (dm σ) v)) σ τ1 := tF.mono (fun k j z => Or.inr (by omega))
  refine ok_bd c_clearCells (fun _ τ2 u => ?_)
  obtain ⟨u1, u2, u3, uF⟩ := u
  have hF2 : Fr (wsr (rI σ 296 18 ≠ 0) (rIx (dm σ) v)) σ τ2 := hF1.trans (uF.mono (fun k j z => Or.inr (by omega)))
  have e5 : rI τ2 296 5 = nI (nse (dm σ) v a) := (uF.I _ _ (by omega)).trans t5
  have no : ∀ {k j : Nat}, ¬ (k = 297 ∨ (k = 296 ∧ j = 1)) → ¬ (k = 298 ∨ (k = 296 ∧ (j = 5 ∨ j = 13 ∨ j = 16 ∨ j = 17)) ∨ (299 ≤ k ∧ k ≤ 321) ∨ k = rulX (rIx (dm σ) v) + 7 ∨ k = rulX (rIx (dm σ) v) + 8) → ¬ wsr (rI σ 296 18 ≠ 0) (rIx (dm σ) v) k j := fun a c z => z.elim (fun y => a y.2) c
  obtain ⟨i1, i2, i3⟩ := Vw_srch hS h hF2
  have hX : CX (dm σ) v (ese (dm σ) v a) (nse (dm σ) v a) τ2 := by
    have hcd := i1.1.2.2.1
    have hst := i1.2.2.2.1.2
    rw [i2] at hcd hst
    refine ⟨hcd.1, GK_St _ _ _ _ (fun k j hr => ⟨hF2.I _ _ (no (by omega) (by omega)), hF2.L _ _ (no (by omega) (by omega))⟩) hG, hst, tS.1, fun i hi => ?_⟩
    obtain ⟨s1, s2, s3, s4, s5⟩ := tS.2 i hi
    exact ⟨s1, s2, (uF.I _ _ (by omega)).trans s3, (uF.I _ _ (by omega)).trans s4, fun j hj => ⟨(s5 j hj).1, (uF.I _ _ (by omega)).trans (s5 j hj).2⟩⟩
  have e18 : (rI σ 296 18 ≠ 0) ↔ rI τ2 296 18 ≠ 0 := by rw [hF2.I 296 18 (no (by omega) (by omega))]
  have hla := c_layAll (M := 1) hw (Nat.le_refl _) (by omega) (by omega) (rI σ 296 18 ≠ 0) hX e5 e18 u3 u1 u2 (fun i _ => rfl) (fun i _ h => absurd rfl h)
  refine ok_bd (R := DQ (rI σ 296 18 ≠ 0) 1 g0 r0 (WW (dm σ) v a) τ2) hla (fun ret τ3 hh => ?_)
  obtain ⟨hF3, hres⟩ := hh
  have hFt : Fr (wsr (rI σ 296 18 ≠ 0) (rIx (dm σ) v)) σ τ3 := hF2.trans (hF3.mono (fun k j z => by
    rcases z with (z | z) | z
    · exact Or.inl z
    · exact Or.inr (by omega)
    · exact Or.inr (by omega)))
  rcases hres with ⟨x1, rfl, x3⟩ | ⟨x1, rfl, x3⟩
  · rw [gd_0]
    exact ok_ret ⟨Vw_srch hS h hFt, by rw [bI_neg (by omega)], hFt⟩
  · rw [gd_1]
    exact ok_ret ⟨Vw_srch hS h hFt, by rw [bI_pos (by omega)], hFt⟩
theorem m_hasWay {D : dD} {v a : Nat} (hw : DW D) (hM : MD D σ) (hv : v ≤ 100000) (ha : a < 64) {Q : Int32 → jM → Prop} {F : jM → Option (Int32 × jM)} (hq : ∀ τ, Fr wfa σ τ → MD D τ → rI τ 324 68 = nI (if 0 < (WW D v a).length then 1 else 0) → ok (F τ) Q) : ok (bd (f_X13_takes (nI v) (nI a) σ) (fun _ σ8 => bd (f_X13_goesThrough 1 (nI v) σ8) (fun _ σ11 => F σ11))) Q := by
  refine ok_bd (m_takes hw hM ha hv) (fun _ τ1 t => ?_)
  obtain ⟨hX, hF1⟩ := t
  refine ok_bd (m_goesThrough hw J1 (fun _ _ τ => rI τ 324 68 = 1) (fun L τ τ' h hF => ⟨(hF.I _ _ (by omega)).trans h.1, h.2⟩) (fun L g r τ' h1 h2 h3 h4 h5 => m_meets1 h5) hX ⟨rI_same _ _ _ _, rfl⟩) (fun _ τ2 t => ?_)
  obtain ⟨t1, t2⟩ := t
  have hFt : Fr wfa σ τ2 := (hF1.mono (fun k j z => Or.inl z)).trans (t1.mono (fun k j z => Or.inr z))
  refine hq τ2 hFt (MX_fr hX t1).1 ?_
  rcases t2 with ⟨j1, j2⟩ | ⟨A, x, B', hW, e1⟩
  · have j2 : WW D v a = [] := j2
    rw [j1, j2]; rfl
  · have hW : WW D v a = A ++ x :: B' := hW
    rw [e1, if_pos (by rw [hW, List.length_append, List.length_cons]; omega)]
    rfl
end HAS
