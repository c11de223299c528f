/-! THE SEARCH: the class tallies; ways -/
section TAL
variable {D : dD} {σ : jM} {v : Nat} {C B P : dD → Nat → jM → Prop}
theorem fl_len {α : Type} {f : Nat → List α} {n b : Nat} (h : ∀ q, q < n → (f q).length ≤ b) : (fl f n).length ≤ n * b := by
  induction n with
  | zero => exact Nat.zero_le _
  | succ n ih =>
    rw [fl_s, List.length_append, Nat.succ_mul]
    have := ih (fun q hq => h q (by omega))
    have := h n (by omega)
    omega
theorem lvs_len {e : seT} {m l : Nat} {g r : gF} (h : ∀ i, l ≤ i → i < l + m → D 327 (e.1 i) ≤ 8) : (lvs D v e m l g r).length ≤ 8 ^ m := by
  induction m generalizing l g r with
  | zero => exact Nat.le_refl _
  | succ m ih =>
    rw [lvs_s]
    refine Nat.le_trans (fl_len (b := 8 ^ m) (fun q hq => ?_)) ?_
    · unfold kid
      cases stpo D v e l q g r with
      | none => exact Nat.zero_le _
      | some g' => exact ih (fun i h1 h2 => h i (by omega) (by omega))
    · rw [Nat.pow_succ, Nat.mul_comm (8 ^ m) 8]
      exact Nat.mul_le_mul_right _ (h l (Nat.le_refl _) (by omega))
theorem ese_lt (hw : DW D) {a i : Nat} (h : i < nse D v a) : (ese D v a).1 i < D 324 2 := (hw.2.2.2.2.2 _ (nmo_of h).1).2.2.1
theorem nse_le (hw : DW D) (a : Nat) : nse D v a ≤ 6 := by
  have := cnt_le (sel D v a) (D 324 55)
  have := hw.2.2.2.2.1
  show cnt (sel D v a) (D 324 55) ≤ 6
  omega
theorem pow8 : ∀ m : Nat, m < 8 → 8 ^ m ≤ 2097152 := by decide +kernel
theorem WW_len (hw : DW D) (a : Nat) : (WW D v a).length ≤ 2097152 := by
  have h6 := nse_le hw (v := v) a
  refine Nat.le_trans (lvs_len (fun i _ h2 => (hw.1.2.1 _ (ese_lt hw (by omega))).2.2.2.1)) (pow8 _ (by omega))
def WK (D : dD) (v : Nat) (σ : jM) : Prop := rI σ 322 0 = nI (WW D v 0).length ∧ (∀ s, s < 40 → ∀ c, c < 135 → rI σ 297 (135 * s + c) = nI (lct s c (WW D v 0))) ∧ (∀ s, s < 64 → (bt (rL σ 296 1) s = true ↔ s < 40 ∧ ∃ x, x ∈ WW D v 0 ∧ x.1 s ≠ 135)) ∧ rI σ 296 18 = 0
theorem WK_St : St RW WK := fun D v σ τ he h => ⟨(he _ _ (by omega)).1.trans h.1, fun s hs c hc => (he _ _ (by omega)).1.trans (h.2.1 s hs c hc), fun s hs => by rw [(he 296 1 (by omega)).2]; exact h.2.2.1 s hs, (he _ _ (by omega)).1.trans h.2.2.2⟩
abbrev wcw (x k j : Nat) : Prop := (k = 322 ∧ (j = 0 ∨ j = 5)) ∨ (296 ≤ k ∧ k ≤ 321) ∨ k = rulX x + 7 ∨ k = rulX x + 8
theorem c_tally (hw : DW D) (hc : CD D σ) (hG : GK D v σ) (hv : v ≤ 100000) (h10 : rI σ 3 10 = nI v) (hx : σ.2.2 = rIx D v) (h18 : ∀ s, s < 40 → rI σ 18 s = nI (std D v s)) (h0 : rI σ 322 5 = 0) : ok (f_X1_countWays σ) (fun _ τ => WK D v τ ∧ Fr (wcw (rIx D v)) σ τ) := by
  have hrl := rIx_le hw.2.1 v
  have hrx := rulX_cases (rIx D v)
  have s97 : (shf 297).2 = 5400 := rfl
  have hn6 := nse_le hw (v := v) 0
  have hcd : ∀ τ, Fr (wcw (rIx D v)) σ τ → CD D τ ∧ GK D v τ ∧ ∀ s, s < 40 → rI τ 18 s = nI (std D v s) := fun τ hF => ⟨CD_fr hw hc hF (fun k j hp z => by have := cdc_lt hp; omega), GK_St _ _ _ _ (fun k j hr => ⟨hF.I _ _ (by omega), hF.L _ _ (by omega)⟩) hG, fun s hs => (hF.I _ _ (by omega)).trans (h18 s hs)⟩
  unfold f_X1_countWays f_X1_countWays_23
  rw [if_pos h0]
  have hF0 : Fr (wcw (rIx D v)) σ (wI σ 322 5 1) := Fr.w Fr.refl (Or.inl ⟨rfl, Or.inr rfl⟩)
  unfold f_X8_tallyWays
  have inner : ok (bd (f_X8_seatNames 0 (wI σ 322 5 1)) (fun _ σ2 => bd (f_X8_clearCells σ2) (fun _ σ5 => bd (f_J7_fill_53178 297 0 σ5) (fun _ σ8 => bd (f_X8_layAll 2147483647 (wI (wL σ8 296 1 0) 296 18 1)) (fun r10 σ11 => some ((rI σ11 296 16), wI σ11 296 18 0)))))) (fun r τ => r = nI (WW D v 0).length ∧ (∀ s, s < 40 → ∀ c, c < 135 → rI τ 297 (135 * s + c) = nI (lct s c (WW D v 0))) ∧ (∀ s, s < 64 → (bt (rL τ 296 1) s = true ↔ s < 40 ∧ ∃ x, x ∈ WW D v 0 ∧ x.1 s ≠ 135)) ∧ rI τ 296 18 = 0 ∧ Fr (wcw (rIx D v)) σ τ) := by
    refine ok_bd (c_seatNames hw (hcd _ hF0).1 (a := 0) (by omega) hv ((hF0.I _ _ (by omega)).trans h10) ((hF0.2.2 (by omega)).trans hx)) (fun _ τ1 t => ?_)
    obtain ⟨t5, tS, tN, tF⟩ := t
    refine ok_bd c_clearCells (fun _ τ2 u => ?_)
    obtain ⟨u1, u2, u3, uF⟩ := u
    refine ok_bd (e_fillI 297 0 τ2 (by rw [s97]; omega)) (fun _ τ3 w => ?_)
    rw [s97] at w
    obtain ⟨w1, wF⟩ := w
    have hF3 : Fr (wcw (rIx D v)) σ (wI (wL τ3 296 1 0) 296 18 1) := Fr.w (Fr.wl (((hF0.trans (tF.mono (fun k j z => by omega))).trans (uF.mono (fun k j z => by omega))).trans (wF.mono (fun k j z => by omega))) (by omega)) (by omega)
    have hF13 : Fr wS τ1 (wI (wL τ3 296 1 0) 296 18 1) := Fr.w (Fr.wl ((uF.mono (fun k j z => by omega)).trans (wF.mono (fun k j z => by omega))) (by omega)) (by omega)
    have hX : CX D v (ese D v 0) (nse D v 0) τ1 := by
      have hF1 : Fr (wcw (rIx D v)) σ τ1 := hF0.trans (tF.mono (fun k j z => by omega))
      exact ⟨(hcd _ hF1).1.1, (hcd _ hF1).2.1, (hcd _ hF1).2.2, tS⟩
    have hX3 := CX_fr hw hX hF13
    have hg3 : CG g0 (wI (wL τ3 296 1 0) 296 18 1) := CG_fr u1 (fun s => by rw [rI_nk (by omega), rI_wL]; exact wF.I _ _ (by omega)) (fun k j z => by
      rw [rL_wI, rL_ne (fun e1 e2 => by omega)]
      exact wF.L _ _ (by omega))
    have hr3 : CR7 r0 (wI (wL τ3 296 1 0) 296 18 1) := fun i hi => by
      rw [rI_nk (by omega), rI_wL, wF.I 310 i (by omega)]
      exact u2 i hi
    have e5 : rI (wI (wL τ3 296 1 0) 296 18 1) 296 5 = nI (nse D v 0) := by
      rw [rI_nj (by omega), rI_wL, wF.I 296 5 (by omega), uF.I 296 5 (by omega)]
      exact t5
    have e16 : rI (wI (wL τ3 296 1 0) 296 18 1) 296 16 = 0 := by
      rw [rI_nj (by omega), rI_wL, wF.I 296 16 (by omega)]
      exact u3
    have hla := c_layAll (M := 2147483647) hw (Nat.le_refl _) (by omega) (by omega) True hX3 e5 ⟨fun _ => by rw [rI_same]; decide, fun _ => trivial⟩ e16 hg3 hr3 (fun i _ => rfl) (fun i _ h => absurd rfl h)
    refine ok_bd (R := DQ True 2147483647 g0 r0 (WW D v 0) (wI (wL τ3 296 1 0) 296 18 1)) hla (fun ret τ4 hh => ?_)
    obtain ⟨hF4, hres⟩ := hh
    have hlen := WW_len hw (v := v) 0
    rcases hres with ⟨_, _, _, _, x5, x6⟩ | ⟨x1, _⟩
    · have hT := x6 trivial
      refine ok_ret ⟨x5, fun s hs c hc => ?_, fun s hs => ?_, rI_same _ _ _ _, Fr.w (hF3.trans (hF4.mono (fun k j z => ?_))) (by omega)⟩
      · rw [rI_nk (by omega), hT.1 s hs c hc, rI_nk (by omega), rI_wL, w1 _ (by omega)]
        have : tc g0 s c (WW D v 0) = lct s c (WW D v 0) := by unfold tc; rw [if_pos rfl]
        rw [this]
        exact Int32.zero_add _
      · rw [rL_wI, hT.2 s hs, rL_wI, rL_same, bt_0]
        exact ⟨fun z => z.elim (fun y => by cases y) (fun y => ⟨y.1, y.2.2⟩), fun z => Or.inr ⟨z.1, rfl, z.2⟩⟩
      · rcases z with z | z
        · have := wD_wS z; omega
        · omega
    · omega
  refine ok_bd inner (fun r τ t => ?_)
  obtain ⟨rfl, t1, t2, t3, tF⟩ := t
  exact ok_ret ⟨⟨rI_same _ _ _ _, fun s hs c hc => by rw [rI_nk (by omega)]; exact t1 s hs c hc, t2, by rw [rI_nk (by omega)]; exact t3⟩, Fr.w tF (Or.inl ⟨rfl, Or.inl rfl⟩)⟩
theorem c_countWays {v : Nat} (hS : SK GK C WK B P) (h : Vw (KK GK C WK B P) v σ) (hG : GK (dm σ) v σ) : ok (f_X1_countWays σ) (fun _ τ => Vw (KK GK C WK B P) v τ ∧ dm τ = dm σ ∧ rI τ 3 0 = rI σ 3 0 ∧ WK (dm σ) v τ) := by
  obtain ⟨k1, k2, k3, k4, k5⟩ := h.2.2.2.2.1
  by_cases c : rI σ 322 5 = 0
  · have hrl := rIx_le h.1.2.1.2.1 v
    have hrx := rulX_cases (rIx (dm σ) v)
    refine ok_imp (c_tally h.1.2.1 h.1.2.2.1 hG h.2.1 h.2.2.1 h.2.2.2.1.1 h.2.2.2.1.2 c) (fun _ τ hh => ?_)
    obtain ⟨h1, h3⟩ := hh
    have hk : KK GK C WK B P (dm σ) v τ := ⟨k1.imp (fun z => (h3.I _ _ (by omega)).trans z) (hS.1 _ _ _ _ (fun k j hr => ⟨h3.I _ _ (by omega), h3.L _ _ (by omega)⟩)), k2.imp (fun z => (h3.I _ _ (by omega)).trans z) (hS.2.1 _ _ _ _ (fun k j hr => ⟨h3.I _ _ (by omega), h3.L _ _ (by omega)⟩)), Or.inr h1, k4.imp (fun z => (h3.I _ _ (by omega)).trans z) (hS.2.2.2.1 _ _ _ _ (fun k j hr => ⟨h3.I _ _ (by omega), h3.L _ _ (by omega)⟩)), k5.imp (fun z => (h3.I _ _ (by omega)).trans z) (hS.2.2.2.2 _ _ _ _ (fun k j hr => ⟨h3.I _ _ (by omega), h3.L _ _ (by omega)⟩))⟩
    obtain ⟨i1, i2, i3⟩ := Vw_upd h h3 (fun k j z => by
      rcases z with z | z | z
      · exact ⟨ccr_hi (by omega), by omega, by omega⟩
      · exact ⟨ccr_hi (by omega), by omega, by omega⟩
      · exact ⟨wsp_ccr (a := 2) hrl (Or.inl rfl) (Or.inr z), by omega, by omega⟩) hk
    exact ⟨i1, i2, i3, h1⟩
  · unfold f_X1_countWays f_X1_countWays_23
    rw [if_neg c]
    exact ok_ret ⟨h, rfl, rfl, k3.resolve_left c⟩
theorem op_ways (h : Inv (KK GK C WK B P) σ) (hS : SK GK C WK B P) (a1 a2 a3 a4 a5 : Int32) : ∃ σ', lw_op 20 a1 a2 a3 a4 a5 σ σ' ∧ Inv (KK GK C WK B P) σ' := by
  have hK := KK_KX hS
  show ∃ σ', (∃ (r : Int32) (σ1 : jM), f_X12_ways a1 σ = some (r, σ1) ∧ f_X13_ways a1 σ1 = some (r, σ')) ∧ Inv (KK GK C WK B P) σ'
  refine op_q (σ := σ) hK (R := fun r => (∃ v, v ≤ 100000 ∧ a1 = nI v ∧ kn σ a1 ∧ r = nI (WW (dm σ) v 0).length) ∨ (r = -1 ∧ ¬ kn σ a1)) ?_ ?_
  · unfold f_X12_ways
    refine ok_bd (c_seeGrid hS h a1) (fun r τ hh => ?_)
    obtain ⟨rfl, h1, h2, h3, h4⟩ := hh
    have e30 : rI τ 3 0 = rI σ 3 0 := h3.I _ _ (fun z => by have := ccr_ge z; omega)
    rw [ite_bI]
    refine ok_ite (fun c3 => ?_) (fun c3 => ok_ret ⟨h1, h2, e30, Or.inr ⟨rfl, c3⟩⟩)
    obtain ⟨v, rfl, hV, hG⟩ := h4 c3
    refine ok_bd (c_countWays hS hV hG) (fun _ τ1 t => ?_)
    obtain ⟨t1, t2, t3, t4⟩ := t
    rw [t4.1, h2]
    exact ok_ret ⟨t1.1, t2.trans h2, t3.trans e30, Or.inl ⟨v, hV.2.1, rfl, c3, rfl⟩⟩
  · intro r τ hI hD e30 hR
    unfold f_X13_ways
    have hM := MD_thr hI
    rw [hD] at hM
    have hw := hI.2.1
    rw [hD] at hw
    rw [m_known hI, bd_some, ite_bI, e30]
    rcases hR with ⟨v, hv, rfl, c3, rfl⟩ | ⟨rfl, hno⟩
    · rw [if_pos c3]
      refine ok_bd (m_findAll hw hM hv) (fun _ τ1 t => ?_)
      obtain ⟨t1, -, -, t4⟩ := t
      exact ok_ret ⟨t1.1, thr_scr t4 (fun k j => wfa_scr)⟩
    · rw [if_neg hno]
      exact ok_ret ⟨rfl, Fr_thr τ 0⟩
end TAL
