/-! way -/
section WAY
variable {D : dD} {σ : jM} {v : Nat} {C B P : dD → Nat → jM → Prop}
theorem lvs_r {e : seT} {m l : Nat} {g r : gF} {x : gF × gF} (h : x ∈ lvs D v e m l g r) : (∀ i, i < l → x.2 i = r i) ∧ (∀ i, l ≤ i → i < l + m → x.2 i < D 327 (e.1 i)) := by
  induction m generalizing l g r with
  | zero => rw [lvs_0, List.mem_singleton] at h; rw [h]; exact ⟨fun _ _ => rfl, fun i h1 h2 => by omega⟩
  | succ m ih =>
    rw [lvs_s] at h
    obtain ⟨q, hq, hx⟩ := fl_mem h
    unfold kid at hx
    cases h1 : stpo D v e l q g r with
    | none => rw [h1] at hx; cases hx
    | some g' =>
      rw [h1] at hx
      have hx : x ∈ lvs D v e m (l + 1) g' (up r l q) := hx
      obtain ⟨a1, a2⟩ := ih hx
      refine ⟨fun i hi => by rw [a1 i (by omega), up_ne _ _ (by omega)], fun i h2 h3 => ?_⟩
      by_cases ei : i = l
      · subst ei; rw [a1 i (by omega), up_same]; exact hq
      · exact a2 i (by omega) (by omega)
theorem WW_row (hw : DW D) {a i : Nat} {x : gF × gF} (h : x ∈ WW D v a) (hi : i < nse D v a) : x.2 i < 8 := by
  have h1 := (lvs_r h).2 i (Nat.zero_le _) (by omega)
  have h2 := (hw.1.2.1 _ (ese_lt hw hi)).2.2.2.1
  omega
noncomputable def wof (D : dD) (v : Nat) (x : gF × gF) (m : Nat) : Int32 := if fi (fun i => decide (nmo D v 0 i = m)) (nse D v 0) 0 = 999 then -1 else nI (x.2 (fi (fun i => decide (nmo D v 0 i = m)) (nse D v 0) 0))
theorem c_rowOfName (hw : DW D) {x : gF × gF} {m : Nat} (hx : x ∈ WW D v 0) (h5 : rI σ 296 5 = nI (nse D v 0)) (h99 : ∀ i, i < nse D v 0 → rI σ 299 i = nI (nmo D v 0 i)) (hr : CR7 x.2 σ) (hm : m < 6) : f_X8_rowOfName (nI m) σ = some (wof D v x m, σ) := by
  have hn6 := nse_le hw (v := v) 0
  refine ok_eq ?_
  unfold f_X8_rowOfName wof
  generalize hR : fi (fun i => decide (nmo D v 0 i = m)) (nse D v 0) 0 = R
  refine L_X8_rowOfName_2 (nse D v 0) (fun i l2 τ => l2 = nI i ∧ τ = σ ∧ R = fi (fun i => decide (nmo D v 0 i = m)) (nse D v 0 - i) i) (by omega) (fun i p l2 τ hk hI hp => ?_) (Nat.zero_le _) ⟨rfl, rfl, hR.symm⟩
  obtain ⟨rfl, rfl, hq⟩ := hI
  unfold s_X8_rowOfName_2
  rw [h5, ite_iff (nI_le2 (by omega) (by omega))]
  by_cases ci : i < nse D v 0
  · have hnm := (nmo_of ci).1
    have h55 := hw.2.2.2.2.1
    rw [show nse D v 0 - i = (nse D v 0 - (i + 1)) + 1 by omega, fi_s] at hq
    rw [if_neg (by omega), gd_n (by omega) (by omega)]
    simp (disch := omega) only [nI_ix]
    rw [h99 i ci, ite_iff (nI_eq2 (by omega) (by omega))]
    refine ok_ite (fun z => ?_) (fun z => ?_)
    · rw [if_pos (decide_eq_true z)] at hq
      have h8 := WW_row hw hx ci
      rw [gd_n (by omega) (by omega), (hr i (by omega)).1]
      refine ok_ret ⟨?_, rfl⟩
      rw [hq, if_neg (by omega)]
      unfold rz
      rw [if_neg (by omega)]
    · rw [if_neg (fun y => z (of_decide_eq_true y))] at hq
      exact hp (i + 1) _ _ (by omega) (by omega) ⟨nI_1 i, rfl, hq⟩
  · rw [if_pos (by omega)]
    rw [show nse D v 0 - i = 0 by omega] at hq
    have e9 : R = 999 := hq
    exact ok_ret ⟨by rw [if_pos e9], rfl⟩
theorem m_wayRow (hw : DW D) {x : gF × gF} {m : Nat} (hX : MX D v (ese D v 0) (nmo D v 0) (nse D v 0) σ) (h70 : ∀ i, i < nse D v 0 → rI σ 370 i = nI (x.2 i)) (hm : m < 6) : f_X13_way_45 Fu (nI m) 0 σ = some (wof D v x m, σ) := by
  have hn6 := nse_le hw (v := v) 0
  refine ok_eq ?_
  unfold wof
  generalize hR : fi (fun i => decide (nmo D v 0 i = m)) (nse D v 0) 0 = R
  refine L_X13_way_45 (nse D v 0) (fun i l4 τ => l4 = nI i ∧ τ = σ ∧ R = fi (fun i => decide (nmo D v 0 i = m)) (nse D v 0 - i) i) (by omega) (fun i p l4 τ hk hI hp => ?_) (Nat.zero_le _) ⟨rfl, rfl, hR.symm⟩
  obtain ⟨rfl, rfl, hq⟩ := hI
  unfold s_X13_way_45
  rw [hX.2.2.2.1, ite_iff (nI_le2 (by omega) (by omega))]
  by_cases ci : i < nse D v 0
  · have hnm := (nmo_of ci).1
    have h55 := hw.2.2.2.2.1
    obtain ⟨a1, a2, a3, -⟩ := hX.2.2.2.2 i ci
    rw [show nse D v 0 - i = (nse D v 0 - (i + 1)) + 1 by omega, fi_s] at hq
    rw [if_neg (by omega), gd_n (by omega) (by omega)]
    simp (disch := omega) only [nI_ix]
    rw [a3, ite_iff (nI_eq2 (by omega) (by omega))]
    refine ok_ite (fun z => ?_) (fun z => ?_)
    · rw [if_pos (decide_eq_true z)] at hq
      rw [gd_n (by omega) (by omega), h70 i ci]
      exact ok_ret ⟨by rw [hq, if_neg (by omega)], rfl⟩
    · rw [if_neg (fun y => z (of_decide_eq_true y))] at hq
      exact hp (i + 1) _ _ (by omega) (by omega) ⟨nI_1 i, rfl, hq⟩
  · rw [if_pos (by omega)]
    rw [show nse D v 0 - i = 0 by omega] at hq
    have e9 : R = 999 := hq
    exact ok_ret ⟨by rw [if_pos e9], rfl⟩
end WAY
