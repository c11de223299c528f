/-! THE SEARCH: who sits -/
section SEAT
variable {D : dD} {σ : jM} {v : Nat}
abbrev nCt (D : dD) (v i : Nat) : Prop := (D 362 i ≤ v ∧ v < D 363 i) ∧ tC D v (D 361 i)
/-- a name that counts and isn't left out -/
def sel (D : dD) (v a i : Nat) : Bool := decide (nCt D v i) && !a.testBit i
noncomputable def nmo (D : dD) (v a i : Nat) : Nat := lst (fun k => sel D v a k = true ∧ cnt (sel D v a) k = i)
noncomputable def nse (D : dD) (v a : Nat) : Nat := cnt (sel D v a) (D 324 55)
theorem nmo_at {a k : Nat} (h : sel D v a k = true) : nmo D v a (cnt (sel D v a) k) = k := by
  have := (lst_spec (p := fun j => sel D v a j = true ∧ cnt (sel D v a) j = cnt (sel D v a) k) ⟨k, h, rfl⟩).1
  exact cnt_uniq this.1 h this.2
theorem nmo_of {a i : Nat} (h : i < nse D v a) : nmo D v a i < D 324 55 ∧ sel D v a (nmo D v a i) = true ∧ cnt (sel D v a) (nmo D v a i) = i := by
  obtain ⟨k, h1, h2, h3⟩ := cnt_at h
  have e := nmo_at h2
  rw [h3] at e
  rw [e]
  exact ⟨h1, h2, h3⟩
noncomputable def ese (D : dD) (v a : Nat) : seT := (fun i => D 361 (nmo D v a i), fun i => nce D v (nl D (nmo D v a i)) (D 359 (nmo D v a i)), fun i j => cev D v (nl D (nmo D v a i)) (D 359 (nmo D v a i)) j)
theorem c_nameCounts (hwn : DWn D) (hwt : DWt D) (hcn : CDn D σ) (hct : CDt D σ) {i : Nat} (hi : i < D 324 55) (hv : v ≤ 100000) (h10 : rI σ 3 10 = nI v) : f_X0_nameCounts (nI i) σ = some (bI (nCt D v i), σ) := by
  obtain ⟨b1, b2, b3, b4, b5, b6⟩ := hwn.2 i hi
  obtain ⟨c1, c2, c3, c4, c5⟩ := hcn.2.1 i hi
  have h6 := hwn.1
  refine ok_eq ?_
  unfold f_X0_nameCounts f_X0_nameCounts_36 f_X0_nameCounts_37
  rw [gd_n (by omega) (by omega)]
  simp (disch := omega) only [nI_ix, gd_n]
  rw [h10, e_nC hwn hcn hi hv, bd_some, ite_bI]
  refine ok_ite (fun z => ?_) (fun z => ?_)
  · rw [c2, c_tC hwt hct b3 hv h10, bd_some, ite_bI]
    refine ok_ite (fun y => ?_) (fun y => ?_)
    · rw [gd_T2]
      exact ok_ret ⟨by rw [bI_pos (show nCt D v i from ⟨z, y⟩)], rfl⟩
    · rw [gd_T]
      exact ok_ret ⟨by rw [bI_neg (show ¬ nCt D v i from fun w => y w.2)], rfl⟩
  · rw [gd_T]
    exact ok_ret ⟨by rw [bI_neg (show ¬ nCt D v i from fun w => z w.1)], rfl⟩
theorem m_nameCounts (hwn : DWn D) (hwt : DWt D) (hM : MD D σ) {i : Nat} (hi : i < D 324 55) (hv : v ≤ 100000) : f_X13_nameCounts (nI i) (nI v) σ = some (bI (nCt D v i), σ) := by
  obtain ⟨b1, b2, b3, b4, b5, b6⟩ := hwn.2 i hi
  have h6 := hwn.1
  refine ok_eq ?_
  unfold f_X13_nameCounts f_X13_nameCounts_37 f_X13_nameCounts_38
  simp (disch := omega) only [gd_n, nI_ix]
  rw [hM.r (by omega) (by omega), hM.r (by omega) (by omega), e_counts, bd_some, ite_bI, ite_iff (and_congr (nI_le2 (by omega) (by omega)) (nI_lt2 (by omega) (by omega)))]
  refine ok_ite (fun z => ?_) (fun z => ?_)
  · rw [hM.r (k := 361) (by omega) (by omega), m_tC hwt hM b3 hv, bd_some, ite_bI]
    refine ok_ite (fun y => ?_) (fun y => ?_)
    · rw [gd_T2]
      exact ok_ret ⟨by rw [bI_pos (show nCt D v i from ⟨z, y⟩)], rfl⟩
    · rw [gd_T]
      exact ok_ret ⟨by rw [bI_neg (show ¬ nCt D v i from fun w => y w.2)], rfl⟩
  · rw [gd_T]
    exact ok_ret ⟨by rw [bI_neg (show ¬ nCt D v i from fun w => z w.1)], rfl⟩
theorem mask_c : ∀ a : Nat, a < 64 → ∀ k : Nat, k < 6 → (((jushr (nI a) (nI k)) &&& 1 = 0) ↔ a.testBit k = false) := by decide +kernel
theorem mask_m : ∀ a : Nat, a < 64 → ∀ k : Nat, k < 6 → ((((nI a) >>> ((nI k) &&& 31)) &&& 1 = 1) ↔ a.testBit k = true) := by decide +kernel
abbrev wsn (x k j : Nat) : Prop := (k = 296 ∧ j = 5) ∨ k = 299 ∨ k = 300 ∨ k = 301 ∨ (303 ≤ k ∧ k ≤ 309) ∨ k = rulX x + 7 ∨ k = rulX x + 8
theorem c_seatNames (hw : DW D) (hc : CD D σ) {a : Nat} (ha : a < 64) (hv : v ≤ 100000) (h10 : rI σ 3 10 = nI v) (hx : σ.2.2 = rIx D v) : ok (f_X8_seatNames (nI a) σ) (fun _ τ => rI τ 296 5 = nI (nse D v a) ∧ SC D (ese D v a) (nse D v a) τ ∧ (∀ i, i < nse D v a → rI τ 299 i = nI (nmo D v a i)) ∧ Fr (wsn (rIx D v)) σ τ) := by
  have h6 := hw.2.2.2.2.1
  have hrl := rIx_le hw.2.1 v
  have hrx := rulX_cases (rIx D v)
  have hcd : ∀ τ, Fr (wsn (rIx D v)) σ τ → CD D τ := fun τ hF => CD_fr hw hc hF (fun k j hp z => by have := cdc_lt hp; omega)
  unfold f_X8_seatNames
  refine L_X8_seatNames_7 (D 324 55) (fun k l2 τ => l2 = nI k ∧ rI τ 296 5 = nI (cnt (sel D v a) k) ∧ SC D (ese D v a) (cnt (sel D v a) k) τ ∧ (∀ i, i < cnt (sel D v a) k → rI τ 299 i = nI (nmo D v a i)) ∧ Fr (wsn (rIx D v)) σ τ) (by omega) (fun k p l2 τ hk hI hp => ?_) (Nat.zero_le _) ⟨rfl, rI_same _ _ _ _, ⟨by rw [cnt_0]; omega, fun i hi => by rw [cnt_0] at hi; omega⟩, fun i hi => by rw [cnt_0] at hi; omega, Fr.w Fr.refl (by omega)⟩
  obtain ⟨rfl, e5, hS, hN, hF⟩ := hI
  have hC := hcd τ hF
  have hcn := hC.2.2.2.2
  rw [q_s_X8_seatNames_7]
  unfold f_X8_seatNames_116
  rw [hcn.1, ite_iff (nI_le2 (by omega) (by omega))]
  by_cases ck : k < D 324 55
  · have skip : sel D v a k = false → ok (p (nI a) (nI k + 1) τ) (fun _ τ => rI τ 296 5 = nI (nse D v a) ∧ SC D (ese D v a) (nse D v a) τ ∧ (∀ i, i < nse D v a → rI τ 299 i = nI (nmo D v a i)) ∧ Fr (wsn (rIx D v)) σ τ) := fun z => by
      have e : cnt (sel D v a) (k + 1) = cnt (sel D v a) k := by rw [cnt_s, z]; rfl
      exact hp (k + 1) _ _ (by omega) (by omega) ⟨nI_1 k, by rw [e]; exact e5, by rw [e]; exact hS, by rw [e]; exact hN, hF⟩
    rw [if_neg (by omega), ite_iff (mask_c a ha k (by omega))]
    refine ok_ite (fun z => ?_) (fun z => skip (by unfold sel; rw [Bool.not_eq_false] at z; rw [z]; simp))
    rw [c_nameCounts hw.2.2.2.2 hw.1 hcn hC.1 ck hv ((hF.I _ _ (by omega)).trans h10), bd_some, ite_bI]
    refine ok_ite (fun z2 => ?_) (fun z2 => skip (by unfold sel; rw [decide_eq_false z2]; rfl))
    have hsel : sel D v a k = true := by unfold sel; rw [decide_eq_true z2, z]; rfl
    have hnk := nmo_at hsel
    have hle := cnt_le (sel D v a) k
    obtain ⟨b1, b2, b3, b4, b5, b6⟩ := hw.2.2.2.2.2 k ck
    obtain ⟨c1, c2, c3, c4, c5⟩ := hcn.2.1 k ck
    have hnx : namX k = 250 + 2 * k := rfl
    generalize hm : cnt (sel D v a) k = m at *
    simp (disch := omega) only [e5, gd_n, nI_ix, rI_nk]
    rw [c1, c2]
    have hxt : (wI (wI τ 299 m (nI k)) 300 m (nI (D 361 k))).2.2 = rIx D v := (hF.2.2 (by omega)).trans hx
    rw [hxt]
    have hF1 : Fr (wsn (rIx D v)) σ (wI (wI τ 299 m (nI k)) 300 m (nI (D 361 k))) := Fr.w (Fr.w hF (by omega)) (by omega)
    refine ok_bd (c_spell hw.2.1 (hcd _ hF1).2.1 (v := v) (n := D 359 k) (a := namX k + 1) (b := 303 + m) (L := nl D k) (nl_bd hw.2.2.2.2 ck) (fun i hi => ((hcd _ hF1).2.2.2.2.2.1 k ck).2.2.2.2 i hi) b2 ⟨by rw [shf_nam k (by omega)]; exact b2, by rw [shf_nam k (by omega)]; omega⟩ (shf_cell m (by omega)) ⟨by omega, Or.inr (by omega)⟩) (fun r τ1 t => ?_)
    obtain ⟨rfl, t2, t3⟩ := t
    have hF2 : Fr (wsn (rIx D v)) σ τ1 := hF1.trans (t3.mono (fun k j z => by omega))
    have e : cnt (sel D v a) (k + 1) = m + 1 := by rw [cnt_s, hsel, hm]; rfl
    have nE : nce D v (nl D k) (D 359 k) ≤ 8 := by have := nce_le (D := D) v (nl D k) (D 359 k); omega
    have e5' : rI τ1 296 5 = nI m := by rw [t3.I 296 5 (by omega), rI_nk (by omega), rI_nk (by omega)]; exact e5
    rw [e5', nI_1 m]
    refine hp (k + 1) _ _ (by omega) (by omega) ⟨nI_1 k, ?_, ⟨by omega, fun i hi => ?_⟩, fun i hi => ?_, Fr.w (Fr.w hF2 (by omega)) (by omega)⟩
    · rw [rI_same, e]
    · rw [e] at hi
      by_cases ei : i = m
      · subst ei
        have q1 : (ese D v a).1 i = D 361 k := by show D 361 (nmo D v a i) = _; rw [hnk]
        have q2 : (ese D v a).2.1 i = nce D v (nl D k) (D 359 k) := by show nce D v (nl D (nmo D v a i)) (D 359 (nmo D v a i)) = _; rw [hnk]
        have q3 : ∀ j, (ese D v a).2.2 i j = cev D v (nl D k) (D 359 k) j := fun j => by show cev D v (nl D (nmo D v a i)) (D 359 (nmo D v a i)) j = _; rw [hnk]
        rw [q1, q2]
        refine ⟨b3, nE, ?_, ?_, fun j hj => ⟨by rw [q3]; exact cev_bd hw.2.1 (nl_bd hw.2.2.2.2 ck) hj, ?_⟩⟩
        · rw [rI_nk (by omega), rI_nk (by omega), t3.I 300 i (by omega), rI_same]
        · rw [rI_nk (by omega), rI_same]
        · rw [rI_nk (by omega), rI_nk (by omega), q3]
          exact t2 j hj
      · obtain ⟨s1, s2, s3, s4, s5⟩ := hS.2 i (by omega)
        refine ⟨s1, s2, ?_, ?_, fun j hj => ⟨(s5 j hj).1, ?_⟩⟩
        · rw [rI_nk (by omega), rI_nk (by omega), t3.I 300 i (by omega), rI_nj ei, rI_nk (by omega)]; exact s3
        · rw [rI_nk (by omega), rI_nj ei, t3.I 301 i (by omega), rI_nk (by omega), rI_nk (by omega)]; exact s4
        · rw [rI_nk (by omega), rI_nk (by omega), t3.I (303 + i) j (by omega), rI_nk (by omega), rI_nk (by omega)]; exact (s5 j hj).2
    · rw [e] at hi
      by_cases ei : i = m
      · subst ei
        rw [rI_nk (by omega), rI_nk (by omega), t3.I 299 i (by omega), rI_nk (by omega), rI_same, hnk]
      · rw [rI_nk (by omega), rI_nk (by omega), t3.I 299 i (by omega), rI_nk (by omega), rI_nj ei]
        exact hN i (by omega)
  · have e : k = D 324 55 := by omega
    subst e
    rw [if_pos (by omega)]
    exact ok_ret ⟨e5, hS, hN, hF⟩
end SEAT
