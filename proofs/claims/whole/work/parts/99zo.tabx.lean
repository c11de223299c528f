/-! a tablet: the reference, all of it -/
section TBX
variable {σ : jM} {n p s : Nat} {T : Nat → Nat}
abbrev wTg (k j : Nat) : Prop := (k = 324 ∧ 17 ≤ j ∧ j ≤ 22) ∨ (k = 327 ∧ j = 24) ∨ (k = 328 ∧ 192 ≤ j ∧ j < 201) ∨ (k = 329 ∧ 1152 ≤ j ∧ j < 1206)
/-- after k rows -/
def TI (n : Nat) (T : Nat → Nat) (R : Nat × Nat) (k : Nat) (τ : jM) : Prop := (1 ≤ k ∧ k ≤ 8 ∧ rI τ 324 21 = 0 ∧ rI τ 327 24 = nI k ∧ TKm n T (rst n T k) τ ∧ rst n T k ≤ n ∧ R = tabR n T (9 - k) (rst n T k) k ∧ ∀ w, w < k → (rowR n T 7 (rst n T w) 0).1 = 0 ∧ rwm n T (rst n T w) w τ) ∨ (R.1 ≠ 0 ∧ R.1 ≤ 3 ∧ rI τ 324 21 = nI R.1 ∧ rI τ 324 22 = nI R.2)
theorem m_step (hT : TPm n T σ) {k : Nat} {R : Nat × Nat} (hk : k ≤ 8) (h : TKm n T (rst n T k) σ) (hn : rst n T k ≤ n) (hwl : rI σ 324 21 = 0) (hS : SG σ) (h27 : rI σ 327 24 = nI k) (hP : ∀ w, w < k → (rowR n T 7 (rst n T w) 0).1 = 0 ∧ rwm n T (rst n T w) w σ) (hR : R = if BPl n T (rst n T k) then (if k = 8 then (3, stt n T (rst n T k)) else if (rowR n T 7 (rst n T k) 0).1 = 0 then tabR n T (8 - k) (rst n T (k + 1)) (k + 1) else ((rowR n T 7 (rst n T k) 0).1, (rowR n T 7 (rst n T k) 0).2.1)) else (1, stt n T (rst n T k))) : ok (f_X13_readRow σ) (fun _ τ => SG τ ∧ Fr wTg σ τ ∧ TI n T R (k + 1) τ) := by
  refine ok_imp (m_readRow hT h hn hwl hS hk h27) (fun _ τ u => ?_)
  obtain ⟨u1, u2, u3⟩ := u
  refine ⟨u1, u2.mono (fun k j z => by omega), ?_⟩
  rcases u3 with ⟨y1, y2, y3, y4, y5, y6, y7⟩ | ⟨f, s, y1, y2, y3, y4, y5, y6⟩
  · rw [if_pos y1, if_neg y2, if_pos y3] at hR
    refine Or.inl ⟨by omega, by omega, y4, y5, y7, (row_ok y3).2.2.1 hn, by rw [show 9 - (k + 1) = 8 - k by omega]; exact hR, fun w hw => ?_⟩
    by_cases e : w = k
    · subst e; exact ⟨y3, y6⟩
    · obtain ⟨p0, p1, p2⟩ := hP w (by omega)
      have h6 := (row_ok p0).2.1
      exact ⟨p0, (u2.I _ _ (by omega)).trans p1, fun j hj => (u2.I _ _ (by omega)).trans (p2 j hj)⟩
  · have hR2 : R = (f, s) := by
      rw [hR, y5]
      by_cases c1 : BPl n T (rst n T k)
      · rw [if_pos c1, if_pos c1]
        by_cases c2 : k = 8
        · rw [if_pos c2, if_pos c2]
        · rw [if_neg c2, if_neg c2, if_neg (fun z => y6 ⟨c1, c2, z⟩)]
      · rw [if_neg c1, if_neg c1]
    rw [hR2]
    exact Or.inr ⟨y1, y2, y3, y4⟩
theorem m_tabRead (hT : TPm n T σ) (h : TKm n T 0 σ) (hwl : rI σ 324 21 = 0) (hS : SG σ) (h27 : rI σ 327 24 = 0) {Q : Int32 → jM → Prop} (hq : ∀ τ, SG τ → Fr wTg σ τ → (((tabR n T 9 0 0).1 = 0 ∧ rI τ 324 21 = 0 ∧ rI τ 327 24 = nI (tabR n T 9 0 0).2 ∧ ∀ w, w < (tabR n T 9 0 0).2 → (rowR n T 7 (rst n T w) 0).1 = 0 ∧ rwm n T (rst n T w) w τ) ∨ ((tabR n T 9 0 0).1 ≠ 0 ∧ rI τ 324 21 = nI (tabR n T 9 0 0).1 ∧ rI τ 324 22 = nI (tabR n T 9 0 0).2)) → ok (f_X13_tablet_53 τ) Q) : ok (bd (f_X13_readRow σ) (fun _ σ60 => f_X13_tablet_32 Fu σ60)) Q := by
  have e0 : tabR n T 9 0 0 = if BPl n T (rst n T 0) then (if 0 = 8 then (3, stt n T (rst n T 0)) else if (rowR n T 7 (rst n T 0) 0).1 = 0 then tabR n T (8 - 0) (rst n T (0 + 1)) (0 + 1) else ((rowR n T 7 (rst n T 0) 0).1, (rowR n T 7 (rst n T 0) 0).2.1)) else (1, stt n T (rst n T 0)) := by
    rw [tabR_s, if_neg (by omega)]
    rfl
  refine ok_bd (m_step (k := 0) (R := tabR n T 9 0 0) hT (by omega) h (Nat.zero_le _) hwl hS h27 (fun w hw => by omega) e0) (fun _ τ0 u => ?_)
  obtain ⟨u1, u2, u3⟩ := u
  generalize tabR n T 9 0 0 = R at *
  refine L_X13_tablet_32 9 (fun k τ => SG τ ∧ Fr wTg σ τ ∧ TI n T R k τ) (by omega) (fun k q τ hk hI hq2 => ?_) (k := 0 + 1) (by omega) ⟨u1, u2, u3⟩
  obtain ⟨hS1, hF, hI⟩ := hI
  have hT1 : TPm n T τ := TPm_fr hT hF (by omega) (fun j => by omega)
  unfold s_X13_tablet_32
  rw [e_isWell, bd_some, ite_bI]
  rcases hI with ⟨i1, i2, i3, i4, i5, i6, i7, i8⟩ | ⟨i1, i2, i3, i4⟩
  · rw [if_pos i3, ite_iff (m_isOver i5)]
    obtain ⟨m, hm⟩ : ∃ m, 9 - k = m + 1 := ⟨8 - k, by omega⟩
    rw [hm, tabR_s] at i7
    refine ok_ite (fun z => ?_) (fun z => ?_)
    · rw [if_pos ⟨by omega, z⟩] at i7
      refine hq τ hS1 hF (Or.inl ⟨by rw [i7], i3, by rw [i7]; exact i4, fun w hw => i8 w (by rw [i7] at hw; exact hw)⟩)
    · rw [if_neg (fun y => z y.2)] at i7
      refine ok_bd (m_step (k := k) (R := R) hT1 i2 i5 i6 i3 hS1 i4 i8 (by rw [show 8 - k = m by omega]; exact i7)) (fun _ τ1 u => ?_)
      exact hq2 (k + 1) _ (by omega) (by omega) ⟨u.1, hF.trans u.2.1, u.2.2⟩
  · rw [if_neg (fun z => by
      rw [i3] at z
      have := (nI_eq2 (b := 0) (by omega) (by omega)).mp z
      omega)]
    exact hq τ hS1 hF (Or.inr ⟨i1, i3, i4⟩)
abbrev wTf (k j : Nat) : Prop := (k = 324 ∧ (j = 0 ∨ (16 ≤ j ∧ j ≤ 23))) ∨ (k = 327 ∧ j = 24) ∨ (k = 328 ∧ 192 ≤ j ∧ j < 201) ∨ (k = 329 ∧ 1152 ≤ j ∧ j < 1206)
abbrev wTs (t k j : Nat) : Prop := wTf k j ∨ wcp t k j ∨ (k = 327 ∧ j = t)
theorem m_tablet (hT : TPm n T σ) (hS : SG σ) {t : Nat} (ht : t < 24) (h2 : rI σ 324 2 = nI t) : ok (f_X13_tablet σ) (fun r τ => SG τ ∧ rI τ 324 16 = 0 ∧ (((tabR n T 9 0 0).1 = 0 ∧ r = nI t ∧ rI τ 324 23 = -1 ∧ rI τ 324 2 = nI (t + 1) ∧ rI τ 325 t = rI σ 324 1 ∧ rI τ 326 t = nI 1000000 ∧ rI τ 327 t = nI (tabR n T 9 0 0).2 ∧ (∀ w, w < (tabR n T 9 0 0).2 → (rowR n T 7 (rst n T w) 0).1 = 0 ∧ rI τ 328 (8 * t + w) = nI (rowR n T 7 (rst n T w) 0).2.1 ∧ ∀ j, j < (rowR n T 7 (rst n T w) 0).2.1 → rI τ 329 (6 * (8 * t + w) + j) = pz (plv n T (cu n T (rst n T w) j))) ∧ (∀ w, w < 8 → 0 ≤ rI τ 328 (8 * t + w) ∧ ∀ i, i < 6 → rI τ 329 (6 * (8 * t + w) + i) = -1 ∨ inb (rI τ 329 (6 * (8 * t + w) + i)) 40) ∧ Fr (wTs t) σ τ) ∨ ((tabR n T 9 0 0).1 ≠ 0 ∧ r = -1 - nI (tabR n T 9 0 0).1 ∧ rI τ 324 23 = nI (tabR n T 9 0 0).2 ∧ Fr wTf σ τ))) := by
  have t24 : Int32.toNatClampNeg 24 = 24 := rfl
  have i24 : inb 24 25 := nI_inb (a := 24) (by omega) (by omega)
  have hcd := tabR_cd (n := n) (T := T) 9 0 0
  rw [q_X13_tablet, h2, if_neg (show ¬ nI t = 24 from fun z => by have := (nI_eq2 (b := 24) (by omega) (by omega)).mp z; omega)]
  unfold f_X13_starts
  have hF0 : Fr wTf σ (wI (wI (wI σ 324 0 0) 324 21 0) 324 17 0) := Fr.w (Fr.w (Fr.w Fr.refl (by omega)) (by omega)) (by omega)
  have hT0 : TPm n T (wI (wI (wI σ 324 0 0) 324 21 0) 324 17 0) := by
    refine ⟨hT.1, ?_, fun j hj => ⟨(hT.2.2 j hj).1, ?_⟩⟩
    · rw [rI_nj (by omega), rI_nj (by omega), rI_nj (by omega)]; exact hT.2.1
    · rw [rI_nk (by omega), rI_nk (by omega), rI_nk (by omega)]; exact (hT.2.2 j hj).2
  obtain ⟨a, τ0, e0, u1, u2⟩ := m_next hT0 (p := 0) (Nat.zero_le _) (rI_same _ _ _ _)
  rw [e0, bd_some, bd_some, gd_pos i24, t24]
  have hF1 : Fr wTf σ (wI τ0 327 24 0) := Fr.w (hF0.trans (u2.mono (fun k j z => by omega))) (by omega)
  have hT1 : TPm n T (wI τ0 327 24 0) := by
    refine ⟨hT.1, ?_, fun j hj => ⟨(hT.2.2 j hj).1, ?_⟩⟩
    · rw [rI_nk (by omega), u2.I _ _ (by omega)]; exact hT0.2.1
    · rw [rI_nk (by omega), u2.I _ _ (by omega)]; exact (hT0.2.2 j hj).2
  have hK1 : TKm n T 0 (wI τ0 327 24 0) := ⟨by rw [rI_nk (by omega)]; exact u1.1, by rw [rI_nk (by omega)]; exact u1.2.1, by rw [rI_nk (by omega)]; exact u1.2.2.1, by rw [rI_nk (by omega)]; exact u1.2.2.2.1, by rw [rI_nk (by omega)]; exact u1.2.2.2.2⟩
  have hS1 : SG (wI τ0 327 24 0) := SG_fr hS (W := fun k j => k = 324 ∨ k = 327) ((Fr.w (Fr.w (Fr.w (Fr.refl (σ := σ)) (Or.inl rfl)) (Or.inl rfl)) (Or.inl rfl)).trans (u2.mono (fun k j z => Or.inl z.1)) |>.w (Or.inr rfl)) (fun k j z => by omega)
  refine m_tabRead hT1 hK1 (by rw [rI_nk (by omega), u2.I _ _ (by omega), rI_nj (by omega), rI_same]) hS1 (rI_same _ _ _ _) (fun τ x1 x2 x3 => ?_)
  have hF2 : Fr wTf σ τ := hF1.trans (x2.mono (fun k j z => by omega))
  unfold f_X13_tablet_53
  rcases x3 with ⟨y1, y2, y3, y4⟩ | ⟨y1, y2, y3⟩
  · rw [m_stops_ok y2, bd_some, if_pos (by decide), gd_pos i24, t24]
    obtain ⟨r1, r2, r3, r4⟩ := tabR_ok (n := n) (T := T) (k := 9) (i := 0) (R := tabR n T 9 0 0) rfl y1 (by omega)
    have e2 : rI (wI (wI τ 324 16 0) 324 23 (-1)) 324 2 = nI t := by rw [rI_nj (by omega), rI_nj (by omega), hF2.I _ _ (by omega)]; exact h2
    have e27 : rI (wI (wI τ 324 16 0) 324 23 (-1)) 327 24 = nI (tabR n T 9 0 0).2 := by rw [rI_nk (by omega), rI_nk (by omega)]; exact y3
    rw [e2, gd_n (by omega) (by omega), nI_ix (by omega), e27]
    have hF3 : Fr (wTs t) σ (wI (wI (wI τ 324 16 0) 324 23 (-1)) 327 t (nI (tabR n T 9 0 0).2)) := Fr.w (Fr.w (Fr.w (hF2.mono (fun k j z => Or.inl z)) (Or.inl (by omega))) (Or.inl (by omega))) (Or.inr (Or.inr ⟨rfl, rfl⟩))
    have hS3 : SG (wI (wI (wI τ 324 16 0) 324 23 (-1)) 327 t (nI (tabR n T 9 0 0).2)) := SG_fr x1 (W := fun k j => k = 324 ∨ k = 327) (Fr.w (Fr.w (Fr.w Fr.refl (Or.inl rfl)) (Or.inl rfl)) (Or.inr rfl)) (fun k j z => by omega)
    refine ok_imp (m_copy ht (by rw [rI_nk (by omega)]; exact e2)) (fun r τ2 w => ?_)
    obtain ⟨w1, w2, w3, w4, w5, w6⟩ := w
    have sc : ∀ k j, (k = 328 ∧ 192 ≤ j) ∨ (k = 329 ∧ 1152 ≤ j) → rI (wI (wI (wI τ 324 16 0) 324 23 (-1)) 327 t (nI (tabR n T 9 0 0).2)) k j = rI τ k j := fun k j hk => by rw [rI_nk (by omega), rI_nk (by omega), rI_nk (by omega)]
    refine ⟨SG_fr hS3 w6 (fun k j z y => by omega), by rw [w6.I _ _ (by omega), rI_nk (by omega), rI_nj (by omega), rI_same], Or.inl ⟨y1, w1, by rw [w6.I _ _ (by omega), rI_nk (by omega), rI_same], w2, ?_, w4, by rw [w6.I _ _ (by omega), rI_same], fun w hw => ?_, fun w hw => ?_, hF3.trans (w6.mono (fun k j z => Or.inr (Or.inl z)))⟩⟩
    · rw [w3, rI_nk (by omega), rI_nj (by omega), rI_nj (by omega), hF2.I _ _ (by omega)]
    · obtain ⟨p0, p1, p2⟩ := y4 w hw
      have h6 := (row_ok p0).2.1
      obtain ⟨q1, q2⟩ := w5 w (by omega)
      exact ⟨p0, by rw [q1, sc _ _ (by omega)]; exact p1, fun j hj => by rw [q2 j (by omega), sc _ _ (by omega)]; exact p2 j hj⟩
    · obtain ⟨q1, q2⟩ := w5 w hw
      refine ⟨by rw [q1]; exact (hS3 328 (192 + w) (by omega)).1 (by omega), fun i hi => ?_⟩
      rw [q2 i hi]
      exact (hS3 329 (6 * (192 + w) + i) (by omega)).2 rfl
  · rw [m_stops_no y2 y1 hcd, bd_some, if_neg (neg_f _ hcd)]
    have hF3 : Fr wTf σ (wI (wI τ 324 16 0) 324 23 (rI τ 324 22)) := Fr.w (Fr.w hF2 (by omega)) (by omega)
    exact ok_ret ⟨SG_fr x1 (W := fun k j => k = 324 ∨ k = 327) (Fr.w (Fr.w Fr.refl (Or.inl rfl)) (Or.inl rfl)) (fun k j z => by omega), by rw [rI_nj (by omega), rI_same], Or.inr ⟨y1, rfl, by rw [rI_same]; exact y3, hF3⟩⟩
end TBX
