/-! a tablet: the reference reads it -/
section TBM
variable {σ : jM} {n p s : Nat} {T : Nat → Nat}
abbrev wrM (w k j : Nat) : Prop := wrm w k j ∨ (k = 327 ∧ j = 24)
/-- the reference has row w -/
def rwm (n : Nat) (T : Nat → Nat) (p w : Nat) (τ : jM) : Prop := rI τ 328 (192 + w) = nI (rowR n T 7 p 0).2.1 ∧ ∀ j, j < (rowR n T 7 p 0).2.1 → rI τ 329 (6 * (192 + w) + j) = pz (plv n T (cu n T p j))
theorem m_readRow (hT : TPm n T σ) (h : TKm n T p σ) (hp : p ≤ n) (hwl : rI σ 324 21 = 0) (hS : SG σ) {w : Nat} (hw : w ≤ 8) (h27 : rI σ 327 24 = nI w) : ok (f_X13_readRow σ) (fun _ τ => SG τ ∧ Fr (wrM w) σ τ ∧ ((BPl n T p ∧ w ≠ 8 ∧ (rowR n T 7 p 0).1 = 0 ∧ rI τ 324 21 = 0 ∧ rI τ 327 24 = nI (w + 1) ∧ rwm n T p w τ ∧ TKm n T (rowR n T 7 p 0).2.2 τ) ∨ (∃ f s, f ≠ 0 ∧ f ≤ 3 ∧ rI τ 324 21 = nI f ∧ rI τ 324 22 = nI s ∧ (f, s) = (if BPl n T p then (if w = 8 then (3, stt n T p) else ((rowR n T 7 p 0).1, (rowR n T 7 p 0).2.1)) else (1, stt n T p)) ∧ ¬ (BPl n T p ∧ w ≠ 8 ∧ (rowR n T 7 p 0).1 = 0)))) := by
  have t24 : Int32.toNatClampNeg 24 = 24 := rfl
  have i24 : inb 24 25 := nI_inb (a := 24) (by omega) (by omega)
  have flt : ∀ f : Nat, f < 3 → f_X13_fails (nI (f + 1)) σ = some ((), wI (wI σ 324 21 (nI (f + 1))) 324 22 (rI σ 324 18)) := fun f hf => m_fails hwl _
  have ret : ∀ f : Nat, f < 3 → f_X13_readRow_42 (wI (wI σ 324 21 (nI (f + 1))) 324 22 (rI σ 324 18)) = some ((), wI (wI σ 324 21 (nI (f + 1))) 324 22 (rI σ 324 18)) := fun f hf => by
    unfold f_X13_readRow_42
    rw [e_isWell, bd_some, bI_neg (fun z => ?_), if_pos rfl]
    rw [rI_nj (by omega), rI_same] at z
    have := (nI_eq2 (b := 0) (by omega) (by omega)).mp z
    omega
  have fin : ∀ f : Nat, f < 3 → (f + 1, stt n T p) = (if BPl n T p then (if w = 8 then (3, stt n T p) else ((rowR n T 7 p 0).1, (rowR n T 7 p 0).2.1)) else (1, stt n T p)) → ¬ (BPl n T p ∧ w ≠ 8 ∧ (rowR n T 7 p 0).1 = 0) → ok (some ((), wI (wI σ 324 21 (nI (f + 1))) 324 22 (rI σ 324 18))) (fun _ τ => SG τ ∧ Fr (wrM w) σ τ ∧ ((BPl n T p ∧ w ≠ 8 ∧ (rowR n T 7 p 0).1 = 0 ∧ rI τ 324 21 = 0 ∧ rI τ 327 24 = nI (w + 1) ∧ rwm n T p w τ ∧ TKm n T (rowR n T 7 p 0).2.2 τ) ∨ (∃ f s, f ≠ 0 ∧ f ≤ 3 ∧ rI τ 324 21 = nI f ∧ rI τ 324 22 = nI s ∧ (f, s) = (if BPl n T p then (if w = 8 then (3, stt n T p) else ((rowR n T 7 p 0).1, (rowR n T 7 p 0).2.1)) else (1, stt n T p)) ∧ ¬ (BPl n T p ∧ w ≠ 8 ∧ (rowR n T 7 p 0).1 = 0)))) := fun f hf x1 x2 => ok_ret ⟨SG_fr hS (W := wmN) (Fr.w (Fr.w Fr.refl (by omega)) (by omega)) (fun k j z => by omega), Fr.w (Fr.w Fr.refl (by omega)) (by omega), Or.inr ⟨f + 1, stt n T p, by omega, by omega, by rw [rI_nj (by omega), rI_same], by rw [rI_same]; exact h.1, x1, x2⟩⟩
  have go : BPl n T p → ok (f_X13_readRow_25 σ) (fun _ τ => SG τ ∧ Fr (wrM w) σ τ ∧ ((BPl n T p ∧ w ≠ 8 ∧ (rowR n T 7 p 0).1 = 0 ∧ rI τ 324 21 = 0 ∧ rI τ 327 24 = nI (w + 1) ∧ rwm n T p w τ ∧ TKm n T (rowR n T 7 p 0).2.2 τ) ∨ (∃ f s, f ≠ 0 ∧ f ≤ 3 ∧ rI τ 324 21 = nI f ∧ rI τ 324 22 = nI s ∧ (f, s) = (if BPl n T p then (if w = 8 then (3, stt n T p) else ((rowR n T 7 p 0).1, (rowR n T 7 p 0).2.1)) else (1, stt n T p)) ∧ ¬ (BPl n T p ∧ w ≠ 8 ∧ (rowR n T 7 p 0).1 = 0)))) := fun hb => by
    unfold f_X13_readRow_25
    rw [gd_pos i24, t24, h27, li8, ite_iff (nI_eq2 (by omega) (by omega))]
    refine ok_ite (fun z => ?_) (fun z => ?_)
    · have e3 : f_X13_fails 3 σ = _ := flt 2 (by omega)
      rw [e3, bd_some, ret 2 (by omega)]
      exact fin 2 (by omega) (by rw [if_pos hb, if_pos z]) (fun y => y.2.1 z)
    · unfold f_X13_readRow_42
      rw [e_isWell, bd_some, bI_pos hwl, if_neg (by decide), gd_pos i24, gd_pos i24, gd_pos i24, t24, h27, li192, nI_add, gd_n (by omega) (by omega), nI_1, nI_ix (by omega)]
      have hF1 : Fr (wrM w) σ (wI (wI σ 327 24 (nI (w + 1))) 328 (192 + w) 0) := Fr.w (Fr.w Fr.refl (by omega)) (by omega)
      have hS1 : SG (wI (wI σ 327 24 (nI (w + 1))) 328 (192 + w) 0) := SG_w (SG_w hS (fun _ => nI_pos' (by omega)) (fun y => by omega)) (fun _ => by decide) (fun y => by omega)
      have hT1 : TPm n T (wI (wI σ 327 24 (nI (w + 1))) 328 (192 + w) 0) := TPm_fr hT hF1 (by omega) (fun j => by omega)
      have hK1 : TKm n T p (wI (wI σ 327 24 (nI (w + 1))) 328 (192 + w) 0) := ⟨by rw [rI_nk (by omega), rI_nk (by omega)]; exact h.1, by rw [rI_nk (by omega), rI_nk (by omega)]; exact h.2.1, by rw [rI_nk (by omega), rI_nk (by omega)]; exact h.2.2.1, by rw [rI_nk (by omega), rI_nk (by omega)]; exact h.2.2.2.1, by rw [rI_nk (by omega), rI_nk (by omega)]; exact h.2.2.2.2⟩
      refine ok_imp (m_readRow80 hT1 hK1 hp (by rw [rI_nk (by omega), rI_nk (by omega)]; exact hwl) hS1 (w := w) (by omega) (rI_same _ _ _ _) hb) (fun _ τ u => ?_)
      obtain ⟨⟨u1, u2⟩, u3⟩ := u
      have hcd := rowR_cd (n := n) (T := T) 7 p 0
      refine ⟨u1, hF1.trans (u3.mono (fun k j z => Or.inl z)), ?_⟩
      rcases u2 with ⟨y1, y2, y3, y4, y5⟩ | ⟨y1, y2, y3⟩
      · exact Or.inl ⟨hb, z, y1, y2, by rw [u3.I _ _ (by omega), rI_nk (by omega), rI_same], ⟨y3, y4⟩, y5⟩
      · exact Or.inr ⟨_, _, y1, hcd, y2, y3, by rw [if_pos hb, if_neg z], fun y => y1 y.2.2⟩
  unfold f_X13_readRow
  rw [ite_iff (m_isNum h)]
  refine ok_ite (fun z => go (Or.inl z)) (fun z => ?_)
  have e := m_isSgn hT h (b := 63) (by omega)
  have e : f_X13_isSign 63 σ = _ := e
  rw [e, bd_some, ite_bI]
  refine ok_ite (fun y => go (Or.inr y)) (fun y => ?_)
  have nb : ¬ BPl n T p := fun x => x.elim z y
  have e1 : f_X13_fails 1 σ = _ := flt 0 (by omega)
  rw [e1, bd_some, ret 0 (by omega)]
  exact fin 0 (by omega) (by rw [if_neg nb]) (fun y => nb y.1)
theorem m_stops_ok (h : rI σ 324 21 = 0) : f_X13_stops σ = some (0, wI (wI σ 324 16 0) 324 23 (-1)) := by
  unfold f_X13_stops f_X13_stops_21 f_X13_stops_41
  rw [e_isWell, bd_some, bI_pos (by rw [rI_nj (by omega)]; exact h), if_neg (by decide), e_isWell, bd_some, bI_pos (by rw [rI_nj (by omega), rI_nj (by omega)]; exact h), if_neg (by decide)]
theorem m_stops_no {f : Nat} (h : rI σ 324 21 = nI f) (hf : f ≠ 0) (hf3 : f ≤ 3) : f_X13_stops σ = some (-1 - nI f, wI (wI σ 324 16 0) 324 23 (rI σ 324 22)) := by
  have n0 : ¬ nI f = 0 := fun z => by have := (nI_eq2 (b := 0) (by omega) (by omega)).mp z; omega
  unfold f_X13_stops f_X13_stops_21 f_X13_stops_41
  rw [e_isWell, bd_some, bI_neg (by rw [rI_nj (by omega), h]; exact n0), if_pos rfl, rI_nj (show 22 ≠ 16 by omega), e_isWell, bd_some, bI_neg (by rw [rI_nj (by omega), rI_nj (by omega), h]; exact n0), if_pos rfl, rI_nj (show 21 ≠ 23 by omega), rI_nj (show 21 ≠ 16 by omega), h]
theorem neg_f : ∀ f : Nat, f ≤ 3 → ¬ (0 ≤ -1 - nI f) := by decide
/-- what is copied from the place of reading -/
abbrev wcp (t k j : Nat) : Prop := (k = 328 ∧ 8 * t ≤ j ∧ j < 8 * t + 8) ∨ (k = 329 ∧ 48 * t ≤ j ∧ j < 48 * t + 48) ∨ (k = 325 ∧ j = t) ∨ (k = 326 ∧ j = t) ∨ (k = 324 ∧ j = 2)
theorem m_copy {t : Nat} (ht : t < 24) (h2 : rI σ 324 2 = nI t) : ok (f_X13_tablet_84 Fu (nI t) 0 σ) (fun r τ => r = nI t ∧ rI τ 324 2 = nI (t + 1) ∧ rI τ 325 t = rI σ 324 1 ∧ rI τ 326 t = nI 1000000 ∧ (∀ w, w < 8 → rI τ 328 (8 * t + w) = rI σ 328 (192 + w) ∧ ∀ i, i < 6 → rI τ 329 (6 * (8 * t + w) + i) = rI σ 329 (6 * (192 + w) + i)) ∧ Fr (wcp t) σ τ) := by
  refine L_X13_tablet_84 8 (fun k l3 τ => l3 = nI k ∧ (∀ w, w < k → rI τ 328 (8 * t + w) = rI σ 328 (192 + w) ∧ ∀ i, i < 6 → rI τ 329 (6 * (8 * t + w) + i) = rI σ 329 (6 * (192 + w) + i)) ∧ Fr (fun k j => (k = 328 ∧ 8 * t ≤ j ∧ j < 8 * t + 8) ∨ (k = 329 ∧ 48 * t ≤ j ∧ j < 48 * t + 48)) σ τ) (by omega) (fun k q l3 τ hk hI hq => ?_) (Nat.zero_le _) ⟨rfl, fun w hw => by omega, Fr.refl⟩
  obtain ⟨rfl, hA, hF⟩ := hI
  rw [q_s_X13_tablet_84, li8, li192, ite_iff (nI_le2 (by omega) (by omega)), pk_mul]
  by_cases ck : k < 8
  · rw [if_neg (by omega), nI_add, nI_add, gd_n (by omega) (by omega), gd_n (by omega) (by omega)]
    simp (disch := omega) only [nI_ix]
    refine L_X13_tablet_114 6 (fun i l4 τ' => l4 = nI i ∧ (∀ i', i' < i → rI τ' 329 (6 * (8 * t + k) + i') = rI σ 329 (6 * (192 + k) + i')) ∧ Fr (fun k' j => k' = 329 ∧ 6 * (8 * t + k) ≤ j ∧ j < 6 * (8 * t + k) + 6) (wI τ 328 (8 * t + k) (rI τ 328 (192 + k))) τ') (by omega) (fun i q2 l4 τ' hk2 hI2 hq2 => ?_) (Nat.zero_le _) ⟨rfl, fun i' hi' => by omega, Fr.refl⟩
    obtain ⟨rfl, hB, hF2⟩ := hI2
    unfold s_X13_tablet_114
    rw [li6, li8, li192, ite_iff (nI_le2 (by omega) (by omega))]
    simp only [pk_mul, nI_add]
    by_cases ci : i < 6
    · rw [if_neg (by omega), gd_n (by omega) (by omega), gd_n (by omega) (by omega)]
      simp (disch := omega) only [nI_ix]
      refine hq2 (i + 1) _ _ (by omega) (by omega) ⟨nI_1 i, fun i' hi' => ?_, Fr.w hF2 (by omega)⟩
      by_cases e : i' = i
      · subst e
        rw [rI_same, hF2.I _ _ (by omega), rI_nk (by omega), hF.I _ _ (by omega)]
      · rw [rI_nj (by omega)]; exact hB i' (by omega)
    · have ei : i = 6 := by omega
      subst ei
      rw [if_pos (by omega)]
      refine hq (k + 1) _ _ (by omega) (by omega) ⟨nI_1 k, fun w hw => ?_, (Fr.w hF (by omega)).trans (hF2.mono (fun k' j z => by omega))⟩
      by_cases e : w = k
      · subst e
        exact ⟨by rw [hF2.I _ _ (by omega), rI_same, hF.I _ _ (by omega)], hB⟩
      · obtain ⟨a1, a2⟩ := hA w (by omega)
        exact ⟨by rw [hF2.I _ _ (by omega), rI_nj (by omega)]; exact a1, fun i hi => by rw [hF2.I _ _ (by omega), rI_nk (by omega)]; exact a2 i hi⟩
  · have ek : k = 8 := by omega
    subst ek
    rw [if_pos (by omega), gd_n (by omega) (by omega), gd_n (by omega) (by omega), nI_ix (by omega), hF.I 324 1 (by omega), hF.I 324 2 (by omega), h2, nI_1]
    refine ok_ret ⟨rfl, rI_same _ _ _ _, by rw [rI_nk (by omega), rI_nk (by omega), rI_same], by rw [rI_nk (by omega), rI_same]; rfl, fun w hw => ?_, Fr.w (Fr.w (Fr.w (hF.mono (fun k j z => by omega)) (by omega)) (by omega)) (by omega)⟩
    obtain ⟨a1, a2⟩ := hA w hw
    exact ⟨by rw [rI_nk (by omega), rI_nk (by omega), rI_nk (by omega)]; exact a1, fun i hi => by rw [rI_nk (by omega), rI_nk (by omega), rI_nk (by omega)]; exact a2 i hi⟩
end TBM
