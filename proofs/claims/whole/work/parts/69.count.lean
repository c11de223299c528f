/-! count -/
section CNT
variable {K : dD → Nat → jM → Prop} {σ : jM} {D : dD}
theorem c_cntT (hw : DWt D) (hc : CDt D σ) {d : Nat} (hd : d ≤ 100000) (h0 : rI σ 3 0 = nI d) : f_X12_countingToday_4 (nI (D 324 2)) σ = some (nI (cnt (fun t => decide (tC D d t)) (D 324 2)), σ) := by
  have hT := hw.1
  refine ok_eq ?_
  unfold f_X12_countingToday_4
  refine L_X12_countingToday_4_5 (D 324 2) (fun k l3 l4 τ => l3 = nI (cnt (fun t => decide (tC D d t)) k) ∧ l4 = nI k ∧ τ = σ) (by omega) (fun k q l3 l4 τ hk hI hq => ?_) (Nat.zero_le _) ⟨rfl, rfl, rfl⟩
  obtain ⟨rfl, rfl, rfl⟩ := hI
  unfold s_X12_countingToday_4_5 f_X12_countingToday_4_44 f_X12_countingToday_4_38
  simp (disch := omega) only [o_n, nI_le2, nI_ix, gd_n]
  by_cases c : k < D 324 2
  · rw [if_neg (by omega), if_neg (by omega), h0, e_tC hw hc c hd, bd_some, ite_bI]
    refine ok_ite (fun z => hq (k + 1) _ _ _ (by omega) (by omega) ⟨?_, nI_1 k, rfl⟩) (fun z => hq (k + 1) _ _ _ (by omega) (by omega) ⟨?_, nI_1 k, rfl⟩)
    · rw [cnt_s, if_pos (decide_eq_true z), nI_1]
    · rw [cnt_s, if_neg (fun y => z (of_decide_eq_true y)), Nat.add_zero]
  · have e : k = D 324 2 := by omega
    rw [if_pos (by omega)]
    exact ok_ret ⟨by rw [e], rfl⟩
theorem c_cntN (hw : DWn D) (hc : CDn D σ) {d : Nat} (hd : d ≤ 100000) (h0 : rI σ 3 0 = nI d) : f_X12_countingToday_7 (nI (D 324 55)) σ = some (nI (cnt (fun n => decide (D 362 n ≤ d ∧ d < D 363 n)) (D 324 55)), σ) := by
  have hT := hw.1
  refine ok_eq ?_
  unfold f_X12_countingToday_7
  refine L_X12_countingToday_7_5 (D 324 55) (fun k l3 l4 τ => l3 = nI (cnt (fun n => decide (D 362 n ≤ d ∧ d < D 363 n)) k) ∧ l4 = nI k ∧ τ = σ) (by omega) (fun k q l3 l4 τ hk hI hq => ?_) (Nat.zero_le _) ⟨rfl, rfl, rfl⟩
  obtain ⟨rfl, rfl, rfl⟩ := hI
  unfold s_X12_countingToday_7_5 f_X12_countingToday_7_44 f_X12_countingToday_7_38
  simp (disch := omega) only [o_n, nI_le2, nI_ix, gd_n]
  by_cases c : k < D 324 55
  · rw [if_neg (by omega), if_neg (by omega), h0, e_nC hw hc c hd, bd_some, ite_bI]
    refine ok_ite (fun z => hq (k + 1) _ _ _ (by omega) (by omega) ⟨?_, nI_1 k, rfl⟩) (fun z => hq (k + 1) _ _ _ (by omega) (by omega) ⟨?_, nI_1 k, rfl⟩)
    · rw [cnt_s, if_pos (decide_eq_true z), nI_1]
    · rw [cnt_s, if_neg (fun y => z (of_decide_eq_true y)), Nat.add_zero]
  · have e : k = D 324 55 := by omega
    rw [if_pos (by omega)]
    exact ok_ret ⟨by rw [e], rfl⟩
theorem m_cntT (hw : DWt D) (hM : MD D σ) {d : Nat} (hd : d ≤ 100000) (h0 : rI σ 324 1 = nI d) : f_X13_count_106 Fu 0 0 σ = some (nI (cnt (fun t => decide (tC D d t)) (D 324 2)), σ) := by
  have hT := hw.1
  refine ok_eq ?_
  refine L_X13_count_106 (D 324 2) (fun k l3 l4 τ => l3 = nI (cnt (fun t => decide (tC D d t)) k) ∧ l4 = nI k ∧ τ = σ) (by omega) (fun k q l3 l4 τ hk hI hq => ?_) (Nat.zero_le _) ⟨rfl, rfl, rfl⟩
  obtain ⟨rfl, rfl, rfl⟩ := hI
  unfold s_X13_count_106 f_X13_count_129
  rw [hM.r (k := 324) (j := 2) (by omega) (by omega)]
  simp (disch := omega) only [nI_le2]
  by_cases c : k < D 324 2
  · rw [if_neg (by omega), h0, m_tC hw hM c hd, bd_some, ite_bI]
    refine ok_ite (fun z => hq (k + 1) _ _ _ (by omega) (by omega) ⟨?_, nI_1 k, rfl⟩) (fun z => hq (k + 1) _ _ _ (by omega) (by omega) ⟨?_, nI_1 k, rfl⟩)
    · rw [cnt_s, if_pos (decide_eq_true z), nI_1]
    · rw [cnt_s, if_neg (fun y => z (of_decide_eq_true y)), Nat.add_zero]
  · have e : k = D 324 2 := by omega
    rw [if_pos (by omega)]
    exact ok_ret ⟨by rw [e], rfl⟩
theorem m_cntN (hw : DWn D) (hM : MD D σ) {d : Nat} (hd : d ≤ 100000) (h0 : rI σ 324 1 = nI d) : f_X13_count_139 Fu 0 0 σ = some (nI (cnt (fun n => decide (D 362 n ≤ d ∧ d < D 363 n)) (D 324 55)), σ) := by
  have hT := hw.1
  refine ok_eq ?_
  refine L_X13_count_139 (D 324 55) (fun k l3 l4 τ => l3 = nI (cnt (fun n => decide (D 362 n ≤ d ∧ d < D 363 n)) k) ∧ l4 = nI k ∧ τ = σ) (by omega) (fun k q l3 l4 τ hk hI hq => ?_) (Nat.zero_le _) ⟨rfl, rfl, rfl⟩
  obtain ⟨rfl, rfl, rfl⟩ := hI
  unfold s_X13_count_139 f_X13_count_172
  rw [hM.r (k := 324) (j := 55) (by omega) (by omega)]
  simp (disch := omega) only [nI_le2, nI_ix]
  by_cases c : k < D 324 55
  · have h1 := hM.lt (k := 362) (j := k) (by omega) (by omega)
    have h2 := hM.lt (k := 363) (j := k) (by omega) (by omega)
    rw [if_neg (by omega), gd_n (by omega) (by omega), gd_n (by omega) (by omega), h0, hM.r (k := 362) (by omega) (by omega), hM.r (k := 363) (by omega) (by omega), e_counts, bd_some, ite_bI]
    simp (disch := omega) only [nI_le2, nI_lt2]
    refine ok_ite (fun z => hq (k + 1) _ _ _ (by omega) (by omega) ⟨?_, nI_1 k, rfl⟩) (fun z => hq (k + 1) _ _ _ (by omega) (by omega) ⟨?_, nI_1 k, rfl⟩)
    · rw [cnt_s, if_pos (decide_eq_true z), nI_1]
    · rw [cnt_s, if_neg (fun y => z (of_decide_eq_true y)), Nat.add_zero]
  · have e : k = D 324 55 := by omega
    rw [if_pos (by omega)]
    exact ok_ret ⟨by rw [e], rfl⟩
theorem Fr_thr (σ : jM) (x : Int32) : Fr scr σ (wI σ 324 0 x) := Fr.refl.w (Or.inl (by omega))
theorem op_count (h : Inv K σ) (hK : KX K) (a1 a2 a3 a4 a5 : Int32) : ∃ σ', lw_op 35 a1 a2 a3 a4 a5 σ σ' ∧ Inv K σ' := by
  obtain ⟨d, hd, ed1, ed2⟩ := h.2.2.2.1.1
  obtain ⟨n, hn, e1, e2, e3⟩ := h.2.2.2.1.2.1
  obtain ⟨m, hm, f1, f2, f3⟩ := h.2.2.2.1.2.2.2
  have hM := MD_of h.1
  have hM' : MD (dm σ) (wI σ 324 0 0) := MD_fr hM (Fr_thr σ 0) (fun k j hp => scr_pers hp)
  have cT := c_cntT (gT h).1 (gT h).2 hd ed2
  have cN := c_cntN (gN h).1 (gN h).2 hd ed2
  have mT := m_cntT (σ := wI σ 324 0 0) (gT h).1 hM' hd ed1
  have mN := m_cntN (σ := wI σ 324 0 0) (gN h).1 hM' hd ed1
  rw [← (gT h).2.1] at cT
  rw [← (gN h).2.1] at cN
  refine ⟨wI σ 324 0 0, ?_, Inv_thr hK h 0⟩
  show ∃ (r : Int32) (σ1 : jM), f_X12_count a1 σ = some (r, σ1) ∧ f_X13_count a1 σ1 = some (r, wI σ 324 0 0)
  by_cases g0 : a1 = 0
  · exact ⟨_, _, by unfold f_X12_count; rw [if_pos g0], by rw [q_X13_count, if_pos g0, ed1, ed2]⟩
  by_cases g1 : a1 = 1
  · exact ⟨_, _, by unfold f_X12_count; rw [if_neg g0, if_pos g1], by rw [q_X13_count, if_neg g0, if_pos g1, (gT h).2.1, hM.r (k := 324) (j := 2) (by omega) (by omega)]⟩
  by_cases g2 : a1 = 2
  · exact ⟨_, _, by unfold f_X12_count; rw [if_neg g0, if_neg g1, if_pos g2], by rw [q_X13_count, if_neg g0, if_neg g1, if_pos g2, (gR h).2.1, hM.r (k := 324) (j := 8) (by omega) (by omega)]⟩
  by_cases g3 : a1 = 3
  · exact ⟨_, _, by unfold f_X12_count; rw [if_neg g0, if_neg g1, if_neg g2, if_pos g3], by rw [q_X13_count, if_neg g0, if_neg g1, if_neg g2, if_pos g3, (gS h).2.1, hM.r (k := 324) (j := 32) (by omega) (by omega)]⟩
  by_cases g4 : a1 = 4
  · exact ⟨_, _, by unfold f_X12_count; rw [if_neg g0, if_neg g1, if_neg g2, if_neg g3, if_pos g4], by rw [q_X13_count, if_neg g0, if_neg g1, if_neg g2, if_neg g3, if_pos g4, (gN h).2.1, hM.r (k := 324) (j := 55) (by omega) (by omega)]⟩
  by_cases g5 : a1 = 5
  · exact ⟨_, _, by unfold f_X12_count; rw [if_neg g0, if_neg g1, if_neg g2, if_neg g3, if_neg g4, if_pos g5], by rw [q_X13_count, if_neg g0, if_neg g1, if_neg g2, if_neg g3, if_neg g4, if_pos g5, (gH h).2.1, hM.r (k := 324) (j := 25) (by omega) (by omega)]⟩
  by_cases g6 : a1 = 6
  · exact ⟨_, _, by unfold f_X12_count; rw [if_neg g0, if_neg g1, if_neg g2, if_neg g3, if_neg g4, if_neg g5, if_pos g6], by rw [q_X13_count, if_neg g0, if_neg g1, if_neg g2, if_neg g3, if_neg g4, if_neg g5, if_pos g6, e1, e2]⟩
  by_cases g7 : a1 = 7
  · exact ⟨_, _, by unfold f_X12_count; rw [if_neg g0, if_neg g1, if_neg g2, if_neg g3, if_neg g4, if_neg g5, if_neg g6, if_pos g7], by rw [q_X13_count, if_neg g0, if_neg g1, if_neg g2, if_neg g3, if_neg g4, if_neg g5, if_neg g6, if_pos g7, f1, f2]⟩
  by_cases g8 : a1 = 8
  · exact ⟨_, _, by unfold f_X12_count; rw [if_neg g0, if_neg g1, if_neg g2, if_neg g3, if_neg g4, if_neg g5, if_neg g6, if_neg g7, if_pos g8, cT, bd_some], by rw [q_X13_count, if_neg g0, if_neg g1, if_neg g2, if_neg g3, if_neg g4, if_neg g5, if_neg g6, if_neg g7, if_pos g8, mT]⟩
  by_cases g9 : a1 = 9
  · exact ⟨_, _, by unfold f_X12_count; rw [if_neg g0, if_neg g1, if_neg g2, if_neg g3, if_neg g4, if_neg g5, if_neg g6, if_neg g7, if_neg g8, if_pos g9, cN, bd_some], by rw [q_X13_count, if_neg g0, if_neg g1, if_neg g2, if_neg g3, if_neg g4, if_neg g5, if_neg g6, if_neg g7, if_neg g8, if_pos g9, mN]⟩
  exact ⟨_, _, by unfold f_X12_count; rw [if_neg g0, if_neg g1, if_neg g2, if_neg g3, if_neg g4, if_neg g5, if_neg g6, if_neg g7, if_neg g8, if_neg g9], by rw [q_X13_count, if_neg g0, if_neg g1, if_neg g2, if_neg g3, if_neg g4, if_neg g5, if_neg g6, if_neg g7, if_neg g8, if_neg g9]⟩
end CNT
