/-! spelled, cell -/
section NMO
variable {K : dD → Nat → jM → Prop} {σ : jM} {D : dD}
theorem shf_nam : ∀ n : Nat, n < 6 → (shf (namX n + 1)).2 = 8 := by decide +kernel
theorem shf_cell : ∀ n : Nat, n < 7 → (shf (303 + n)).2 = 8 := by decide +kernel
/-- the letters of a name -/
def nl (D : dD) (m i : Nat) : Nat := D 360 (8 * m + i)
theorem nl_bd (hw : DWn D) {m : Nat} (hm : m < D 324 55) : ∀ i, i < D 359 m → 97 ≤ nl D m i ∧ nl D m i ≤ 122 := (hw.2 m hm).2.2.2.2.2
theorem wsp_ccr {t a k j : Nat} (ht : t ≤ 10) (ha : a = 2 ∨ (303 ≤ a ∧ a ≤ 309)) (h : wsp t a k j) : ccr k j := by
  rcases rulX_cases t with ⟨h1, h2⟩ | ⟨h1, h2⟩
  · rw [wsp, h2] at h
    omega
  · rw [wsp, h2] at h
    omega
theorem wms_scr {m k j : Nat} (h : wms m k j) : scr k j := by
  have h2 : 364 ≤ k ∧ k ≤ 373 := by omega
  exact Or.inr (Or.inr (Or.inr (Or.inr (Or.inr (Or.inr (Or.inr (Or.inr (Or.inr (Or.inr (Or.inr h2))))))))))
/-- a class's query that writes nothing that the view holds keeps all -/
theorem Vw_keep {v : Nat} (hK : KX K) (h : Vw K v σ) {τ : jM} {W : Nat → Nat → Prop} (hF : Fr W σ τ) (hW : ∀ k j, W k j → ccr k j ∧ (k < 264 ∨ 323 < k) ∧ k ≠ 18 ∧ k ≠ 3) : Vw K v τ ∧ dm τ = dm σ := by
  obtain ⟨h1, h2, h3, h4, h5, d, h6, h7, h8⟩ := h
  have e10 : rI τ 3 10 = nI v := (hF.I _ _ (fun z => (hW _ _ z).2.2.2 rfl)).trans h3
  have e0 : rI τ 3 0 = nI d := (hF.I _ _ (fun z => (hW _ _ z).2.2.2 rfl)).trans h8
  have hV : VV K (dm σ) τ := Or.inr ⟨v, d, h6, h7, e0, e10, ⟨(hF.2.2 (fun z => (hW _ _ z).2.2.2 rfl)).trans h4.1, fun s hs => (hF.I _ _ (fun z => (hW _ _ z).2.2.1 rfl)).trans (h4.2 s hs)⟩, hK _ _ _ _ (fun k j a b => ⟨hF.I _ _ (fun z => by have := (hW _ _ z).2.1; omega), hF.L _ _ (fun z => by have := (hW _ _ z).2.1; omega)⟩) h5⟩
  obtain ⟨i1, i2⟩ := Inv_ccr h1 (hF.mono (fun k j z => (hW k j z).1)) hV
  exact ⟨Vw_of i1 e10 h2, i2⟩
theorem c_spellName (hK : KX K) {v m : Nat} (h : Vw K v σ) (hm : m < dm σ 324 55) : ok (f_X12_spellName (nI m) σ) (fun r τ => r = nI (nce (dm σ) v (nl (dm σ) m) (dm σ 359 m)) ∧ (∀ q, q < nce (dm σ) v (nl (dm σ) m) (dm σ 359 m) → rI τ 2 q = nI (cev (dm σ) v (nl (dm σ) m) (dm σ 359 m) q)) ∧ Vw K v τ ∧ dm τ = dm σ ∧ rI τ 3 0 = rI σ 3 0) := by
  have hI := h.1
  have h6 := (gN hI).1.1
  obtain ⟨b1, b2, b3, b4, b5, b6⟩ := (gN hI).1.2 m hm
  obtain ⟨c1, c2, c3, c4, c5⟩ := (gN hI).2.2.1 m hm
  have hnx : namX m = 250 + 2 * m := rfl
  unfold f_X12_spellName
  rw [gd_n (by omega) (by omega), nI_ix (by omega), h.2.2.2.1.1, c1]
  refine ok_bd (c_spell (gR hI).1 (gR hI).2 (v := v) (L := nl (dm σ) m) (nl_bd (gN hI).1 hm) c5 b2 ⟨by rw [shf_nam m (by omega)]; exact b2, by rw [shf_nam m (by omega)]; omega⟩ (by decide) ⟨by omega, Or.inl rfl⟩) (fun r τ hh => ?_)
  obtain ⟨rfl, h2, h3⟩ := hh
  have hrl := rIx_le (gR hI).1 v
  have hrx := rulX_cases (rIx (dm σ) v)
  have hW : ∀ k j, wsp (rIx (dm σ) v) 2 k j → ccr k j ∧ (k < 264 ∨ 323 < k) ∧ k ≠ 18 ∧ k ≠ 3 := fun k j z => ⟨wsp_ccr hrl (Or.inl rfl) z, by omega⟩
  obtain ⟨i1, i2⟩ := Vw_keep hK h h3 hW
  exact ok_ret ⟨rfl, h2, i1, i2, h3.I _ _ (fun z => by have := (hW _ _ z).2.2.2; omega)⟩
theorem op_spelled (h : Inv K σ) (hK : KX K) (hC : KC K) (a1 a2 a3 a4 a5 : Int32) : ∃ σ', lw_op 18 a1 a2 a3 a4 a5 σ σ' ∧ Inv K σ' := by
  show ∃ σ', (∃ (r : Int32) (σ1 : jM), f_X12_spelled a1 a2 σ = some (r, σ1) ∧ f_X13_spelled a1 a2 σ1 = some (r, σ')) ∧ Inv K σ'
  refine op_mk (Q := fun r τ => Inv K τ ∧ rI τ 3 0 = rI σ 3 0 ∧ rI τ 3 8 = rI σ 3 8 ∧ ((∃ m v, m < dm τ 324 55 ∧ v ≤ 100000 ∧ a1 = nI m ∧ a2 = nI v ∧ (0 ≤ a2 ∧ a2 ≤ rI σ 3 0) ∧ r = nI (nce (dm τ) v (nl (dm τ) m) (dm τ 359 m))) ∨ (¬ ((0 ≤ a1 ∧ a1 < rI σ 3 8) ∧ (0 ≤ a2 ∧ a2 ≤ rI σ 3 0)) ∧ r = -1))) ?_ ?_
  · unfold f_X12_spelled f_X12_spelled_19
    rw [e_hasName, bd_some, ite_bI]
    refine ok_ite (fun c1 => ?_) (fun c1 => ok_ret ⟨h, rfl, rfl, Or.inr ⟨fun z => c1 z.1, rfl⟩⟩)
    refine ok_bd (c_see h hC a2) (fun r τ hh => ?_)
    obtain ⟨rfl, h1, h2, h3, h4⟩ := hh
    have e30 : rI τ 3 0 = rI σ 3 0 := h3.I _ _ (fun z => by have := ccr_ge z; omega)
    have e38 : rI τ 3 8 = rI σ 3 8 := h3.I _ _ (fun z => by have := ccr_ge z; omega)
    rw [ite_bI]
    refine ok_ite (fun c2 => ?_) (fun c2 => ok_ret ⟨h1, e30, e38, Or.inr ⟨fun z => c2 z.2, rfl⟩⟩)
    obtain ⟨v, rfl, hV⟩ := h4 c2
    have h6 := (gN h).1.1
    rw [(gN h).2.1] at c1
    obtain ⟨m, hm, rfl⟩ := i_lt c1.1 c1.2 (by omega)
    rw [← h2] at hm
    refine ok_bd (c_spellName hK hV hm) (fun r τ' hh => ?_)
    obtain ⟨rfl, -, g2, g3, g4⟩ := hh
    refine ok_ret ⟨g2.1, g4.trans e30, ?_, Or.inl ⟨m, v, by rw [g3]; exact hm, hV.2.1, rfl, rfl, c2, by rw [g3]⟩⟩
    rw [(gN g2.1).2.1, g3, h2, (gN h).2.1]
  · intro r τ hq
    obtain ⟨hI, e30, e38, hq⟩ := hq
    have h6 := (gN hI).1.1
    have m55 : rI τ 324 55 = nI (dm τ 324 55) := (md hI.1 (by omega) (by omega)).1
    rw [q_X13_spelled]
    unfold f_X13_spelled_27
    rw [e_within, bd_some, ite_bI, m55]
    rcases hq with ⟨m, v, hm, hv, rfl, rfl, c2, rfl⟩ | ⟨c, rfl⟩
    · rw [if_pos ((nI_sub1 (by omega)).mpr ⟨nI_pos' (by omega), (nI_lt2 (by omega) (by omega)).mpr hm⟩), m_known hI, bd_some, ite_bI, e30, if_pos c2]
      obtain ⟨b1, b2, b3, b4, b5, b6⟩ := (gN hI).1.2 m hm
      have hM := MD_thr hI
      refine ok_bd (m_spells (gR hI).1 hM hv (m := m) (n := dm τ 359 m) (L := nl (dm τ) m) (by omega) b6 b2 (hM.r (by omega) (by omega)) (fun i hi => hM.r (by omega) (by omega))) (fun _ τ' hh => ?_)
      rw [gd_n (by omega) (by omega), nI_ix (by omega), hh.1]
      exact ok_ret ⟨rfl, Inv_scr hK (Inv_thr hK hI 0) (hh.2.2.mono (fun k j => wms_scr))⟩
    · rw [(gN h).2.1] at c e38
      have e55 : dm τ 324 55 = dm σ 324 55 := by
        have := (gN h).1.1
        rw [(gN hI).2.1] at e38
        exact (nI_eq2 (by omega) (by omega)).mp e38
      rw [e55]
      refine ok_ite (fun c1 => ?_) (fun c1 => ok_ret ⟨rfl, Inv_thr hK hI 0⟩)
      rw [m_known hI, bd_some, ite_bI, e30, if_neg (fun z => c ⟨(nI_sub1 (by have := (gN h).1.1; omega)).mp c1, z⟩)]
      exact ok_ret ⟨rfl, Inv_thr hK hI 0⟩
theorem op_cell (h : Inv K σ) (hK : KX K) (hC : KC K) (a1 a2 a3 a4 a5 : Int32) : ∃ σ', lw_op 19 a1 a2 a3 a4 a5 σ σ' ∧ Inv K σ' := by
  show ∃ σ', (∃ (r : Int32) (σ1 : jM), f_X12_cell a1 a2 a3 σ = some (r, σ1) ∧ f_X13_cell a1 a2 a3 σ1 = some (r, σ')) ∧ Inv K σ'
  refine op_mk (Q := fun r τ => Inv K τ ∧ rI τ 3 0 = rI σ 3 0 ∧ rI τ 3 8 = rI σ 3 8 ∧ ((∃ m v, m < dm τ 324 55 ∧ v ≤ 100000 ∧ a1 = nI m ∧ a3 = nI v ∧ (0 ≤ a3 ∧ a3 ≤ rI σ 3 0) ∧ ((∃ q, q < nce (dm τ) v (nl (dm τ) m) (dm τ 359 m) ∧ a2 = nI q ∧ r = nI (cev (dm τ) v (nl (dm τ) m) (dm τ 359 m) q)) ∨ (¬ (0 ≤ a2 ∧ a2 < nI (nce (dm τ) v (nl (dm τ) m) (dm τ 359 m))) ∧ r = -1))) ∨ (¬ ((0 ≤ a1 ∧ a1 < rI σ 3 8) ∧ (0 ≤ a3 ∧ a3 ≤ rI σ 3 0)) ∧ r = -1))) ?_ ?_
  · unfold f_X12_cell f_X12_cell_19 f_X12_cell_47 f_X12_cell_48
    rw [e_hasName, bd_some, ite_bI]
    refine ok_ite (fun c1 => ?_) (fun c1 => ok_ret ⟨h, rfl, rfl, Or.inr ⟨fun z => c1 z.1, rfl⟩⟩)
    refine ok_bd (c_see h hC a3) (fun r τ hh => ?_)
    obtain ⟨rfl, h1, h2, h3, h4⟩ := hh
    have e30 : rI τ 3 0 = rI σ 3 0 := h3.I _ _ (fun z => by have := ccr_ge z; omega)
    have e38 : rI τ 3 8 = rI σ 3 8 := h3.I _ _ (fun z => by have := ccr_ge z; omega)
    rw [ite_bI]
    refine ok_ite (fun c2 => ?_) (fun c2 => ok_ret ⟨h1, e30, e38, Or.inr ⟨fun z => c2 z.2, rfl⟩⟩)
    obtain ⟨v, rfl, hV⟩ := h4 c2
    have h6 := (gN h).1.1
    rw [(gN h).2.1] at c1
    obtain ⟨m, hm, rfl⟩ := i_lt c1.1 c1.2 (by omega)
    rw [← h2] at hm
    refine ok_bd (c_spellName hK hV hm) (fun r τ' hh => ?_)
    obtain ⟨rfl, g1, g2, g3, g4⟩ := hh
    have e38' : rI τ' 3 8 = rI σ 3 8 := by rw [(gN g2.1).2.1, g3, h2, (gN h).2.1]
    obtain ⟨b1, b2, -⟩ := (gN hV.1).1.2 m hm
    have nle := nce_le (D := dm τ) v (nl (dm τ) m) (dm τ 359 m)
    refine ok_ite (fun z => ?_) (fun z => ok_ite (fun z2 => ?_) (fun z2 => ?_))
    · exact ok_ret ⟨g2.1, g4.trans e30, e38', Or.inl ⟨m, v, by rw [g3]; exact hm, hV.2.1, rfl, rfl, c2, Or.inr ⟨fun y => i_nlt.mpr y.1 z, rfl⟩⟩⟩
    · refine ok_ret ⟨g2.1, g4.trans e30, e38', Or.inl ⟨m, v, by rw [g3]; exact hm, hV.2.1, rfl, rfl, c2, Or.inr ⟨fun y => ?_, rfl⟩⟩⟩
      rw [g3] at y
      exact i_nlt.mpr z2 y.2
    · obtain ⟨q, hq, rfl⟩ := i_lt (i_nlt.mp z) (i_nle.mp z2) (by omega)
      rw [gd_n (by omega) (by omega), nI_ix (by omega), g1 q hq]
      exact ok_ret ⟨g2.1, g4.trans e30, e38', Or.inl ⟨m, v, by rw [g3]; exact hm, hV.2.1, rfl, rfl, c2, Or.inl ⟨q, by rw [g3]; exact hq, rfl, by rw [g3]⟩⟩⟩
  · intro r τ hq
    obtain ⟨hI, e30, e38, hq⟩ := hq
    have h6 := (gN hI).1.1
    have m55 : rI τ 324 55 = nI (dm τ 324 55) := (md hI.1 (by omega) (by omega)).1
    rw [q_X13_cell]
    unfold f_X13_cell_27 f_X13_cell_66
    rw [e_within, bd_some, ite_bI, m55]
    rcases hq with ⟨m, v, hm, hv, rfl, rfl, c2, hq⟩ | ⟨c, rfl⟩
    · rw [if_pos ((nI_sub1 (by omega)).mpr ⟨nI_pos' (by omega), (nI_lt2 (by omega) (by omega)).mpr hm⟩), m_known hI, bd_some, ite_bI, e30, if_pos c2]
      obtain ⟨b1, b2, b3, b4, b5, b6⟩ := (gN hI).1.2 m hm
      have hM := MD_thr hI
      have nle := nce_le (D := dm τ) v (nl (dm τ) m) (dm τ 359 m)
      refine ok_bd (m_spells (gR hI).1 hM hv (m := m) (n := dm τ 359 m) (L := nl (dm τ) m) (by omega) b6 b2 (hM.r (by omega) (by omega)) (fun i hi => hM.r (by omega) (by omega))) (fun _ τ' hh => ?_)
      rw [gd_n (by omega) (by omega), nI_ix (by omega), hh.1, e_within, bd_some, ite_bI]
      have hfin := Inv_scr hK (Inv_thr hK hI 0) (hh.2.2.mono (fun k j => wms_scr))
      rcases hq with ⟨q, hq1, rfl, rfl⟩ | ⟨hq1, rfl⟩
      · rw [if_pos ((nI_sub1 (by omega)).mpr ⟨nI_pos' (by omega), (nI_lt2 (by omega) (by omega)).mpr hq1⟩), li8, pk_mul, nI_add, gd_n (by omega) (by omega), nI_ix (by omega), hh.2.1 q hq1]
        exact ok_ret ⟨rfl, hfin⟩
      · rw [if_neg (fun z => hq1 ((nI_sub1 (by omega)).mp z))]
        exact ok_ret ⟨rfl, hfin⟩
    · rw [(gN h).2.1] at c e38
      have e55 : dm τ 324 55 = dm σ 324 55 := by
        have := (gN h).1.1
        rw [(gN hI).2.1] at e38
        exact (nI_eq2 (by omega) (by omega)).mp e38
      rw [e55]
      refine ok_ite (fun c1 => ?_) (fun c1 => ok_ret ⟨rfl, Inv_thr hK hI 0⟩)
      rw [m_known hI, bd_some, ite_bI, e30, if_neg (fun z => c ⟨(nI_sub1 (by have := (gN h).1.1; omega)).mp c1, z⟩)]
      exact ok_ret ⟨rfl, Inv_thr hK hI 0⟩
end NMO
