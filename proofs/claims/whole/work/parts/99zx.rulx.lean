/-! the rules: the reference, all of it -/
section RLX
variable {σ : jM} {n p q s : Nat} {T : Nat → Nat}
abbrev wRg (k j : Nat) : Prop := (k = 324 ∧ 17 ≤ j ∧ j ≤ 22) ∨ (k = 331 ∧ j = 10) ∨ (332 ≤ k ∧ k ≤ 335 ∧ 120 ≤ j ∧ j < 133)
/-- the reference has clause c -/
def cdmx (n : Nat) (T : Nat → Nat) (c : Nat) (τ : jM) : Prop := cgd n T c ∧ rI τ 332 (120 + c) = nI (knd n T (cbg n T c)) ∧ CDm (120 + c) (knd n T (cbg n T c)) (cR n T (cbg n T c)).2.2 τ
theorem cdmx_fr {c : Nat} {τ : jM} (h : cdmx n T c σ) (e : ∀ k, 332 ≤ k → k ≤ 335 → rI τ k (120 + c) = rI σ k (120 + c)) : cdmx n T c τ := by
  obtain ⟨h1, h2, h3, h4, h5⟩ := h
  refine ⟨h1, (e _ (by omega) (by omega)).trans h2, (e _ (by omega) (by omega)).trans h3, fun z => ?_, fun z => (e _ (by omega) (by omega)).trans (h5 z)⟩
  exact ⟨(e _ (by omega) (by omega)).trans (h4 z).1, (e _ (by omega) (by omega)).trans (h4 z).2⟩
def RI (n : Nat) (T : Nat → Nat) (R : Nat × Nat) (k : Nat) (τ : jM) : Prop := (k ≤ 12 ∧ rI τ 324 21 = 0 ∧ rI τ 331 10 = nI k ∧ TKm n T (cbg n T k) τ ∧ cbg n T k ≤ n ∧ R = rulR n T (13 - k) (cbg n T k) k ∧ ∀ c, c < k → cdmx n T c τ) ∨ (R.1 ≠ 0 ∧ R.1 ≤ 3 ∧ rI τ 324 21 = nI R.1 ∧ rI τ 324 22 = nI R.2)
theorem m_rulRead (hT : TPm n T σ) (h : TKm n T 0 σ) (hwl : rI σ 324 21 = 0) (hS : SG σ) (h31 : rI σ 331 10 = 0) {Q : Int32 → jM → Prop} (hq : ∀ τ, SG τ → Fr wRg σ τ → (((rulR n T 13 0 0).1 = 0 ∧ rI τ 324 21 = 0 ∧ rI τ 331 10 = nI (rulR n T 13 0 0).2 ∧ ∀ c, c < (rulR n T 13 0 0).2 → cdmx n T c τ) ∨ ((rulR n T 13 0 0).1 ≠ 0 ∧ rI τ 324 21 = nI (rulR n T 13 0 0).1 ∧ rI τ 324 22 = nI (rulR n T 13 0 0).2)) → ok (f_X13_rules_49 τ) Q) : ok (f_X13_rules_28 Fu σ) Q := by
  generalize hR : rulR n T 13 0 0 = R at *
  refine L_X13_rules_28 13 (fun k τ => SG τ ∧ Fr wRg σ τ ∧ RI n T R k τ) (by omega) (fun k qq τ hk hI hq2 => ?_) (Nat.zero_le _) ⟨hS, Fr.refl, Or.inl ⟨by omega, hwl, h31, h, Nat.zero_le _, hR.symm, fun c hc => by omega⟩⟩
  obtain ⟨hS1, hF, hI⟩ := hI
  have hT1 : TPm n T τ := TPm_fr hT hF (by omega) (fun j => by omega)
  unfold s_X13_rules_28
  rw [e_isWell, bd_some, ite_bI]
  rcases hI with ⟨i2, i3, i4, i5, i6, i7, i8⟩ | ⟨i1, i2, i3, i4⟩
  · rw [if_pos i3, ite_iff (m_isOver i5)]
    obtain ⟨m, hm⟩ : ∃ m, 13 - k = m + 1 := ⟨12 - k, by omega⟩
    rw [hm, rulR_s] at i7
    refine ok_ite (fun z => ?_) (fun z => ?_)
    · rw [if_pos z] at i7
      exact hq τ hS1 hF (Or.inl ⟨by rw [i7], i3, by rw [i7]; exact i4, fun c hc => i8 c (by rw [i7] at hc; exact hc)⟩)
    · rw [if_neg z] at i7
      refine ok_bd (m_readClause hT1 i5 i6 i3 hS1 i2 i4) (fun _ τ1 u => ?_)
      obtain ⟨u1, u2, u3⟩ := u
      refine hq2 (k + 1) _ (by omega) (by omega) ⟨u1, hF.trans (u2.mono (fun k j z => by omega)), ?_⟩
      rcases u3 with ⟨y1, y2, y3, y4, y5, y6, y7, y8, y9⟩ | ⟨f, s, y1, y2, y3, y4, y5, y6⟩
      · rw [if_neg y1, if_neg y2, if_pos y3, if_pos y4] at i7
        have hg : cgd n T k := ⟨y3, (knd_le (n := n) (T := T) _).resolve_left y1, i6⟩
        refine Or.inl ⟨by omega, y5, y6, y9, (en_le (cgd_ok hg).1).2, by rw [show 13 - (k + 1) = m by omega]; exact i7, fun c hc => ?_⟩
        by_cases e : c = k
        · subst e; exact ⟨hg, y7, y8⟩
        · exact cdmx_fr (i8 c (by omega)) (fun k' a b => u2.I _ _ (by omega))
      · have hR2 : R = (f, s) := by
          rw [i7, y5]
          by_cases c1 : knd n T (cbg n T k) = 9
          · rw [if_pos c1, if_pos c1]
          rw [if_neg c1, if_neg c1]
          by_cases c2 : k = 12
          · rw [if_pos c2, if_pos c2]
          rw [if_neg c2, if_neg c2]
          by_cases c3 : (cR n T (cbg n T k)).1 = 0
          · rw [if_pos c3, if_pos c3, if_neg (fun w => y6 ⟨c1, c2, c3, w⟩)]
          · rw [if_neg c3, if_neg c3]
        rw [hR2]
        exact Or.inr ⟨y1, y2, y3, y4⟩
  · rw [if_neg (by rw [i3]; exact nI_nz3 i1 i2)]
    exact hq τ hS1 hF (Or.inr ⟨i1, i3, i4⟩)
abbrev wcq (t k j : Nat) : Prop := (332 ≤ k ∧ k ≤ 335 ∧ 12 * t ≤ j ∧ j < 12 * t + 12) ∨ (k = 330 ∧ j = t) ∨ (k = 324 ∧ j = 8)
theorem m_copyR {t : Nat} (ht : t < 10) (h2 : rI σ 324 8 = nI t) : ok (f_X13_rules_78 Fu 0 σ) (fun r τ => r = rI σ 331 t ∧ rI τ 324 8 = nI (t + 1) ∧ rI τ 330 t = rI σ 324 1 ∧ (∀ c, c < 12 → ∀ k, 332 ≤ k → k ≤ 335 → rI τ k (12 * t + c) = rI σ k (120 + c)) ∧ Fr (wcq t) σ τ) := by
  refine L_X13_rules_78 12 (fun i l2 τ => l2 = nI i ∧ (∀ c, c < i → ∀ k, 332 ≤ k → k ≤ 335 → rI τ k (12 * t + c) = rI σ k (120 + c)) ∧ Fr (fun k j => 332 ≤ k ∧ k ≤ 335 ∧ 12 * t ≤ j ∧ j < 12 * t + 12) σ τ) (by omega) (fun i qq l2 τ hk hI hq => ?_) (Nat.zero_le _) ⟨rfl, fun c hc => by omega, Fr.refl⟩
  obtain ⟨rfl, hA, hF⟩ := hI
  have e8 : rI τ 324 8 = nI t := (hF.I _ _ (by omega)).trans h2
  rw [q_s_X13_rules_78, e8, li12, li120, ite_iff (nI_le2 (by omega) (by omega)), pk_mul, nI_add, nI_add, nI_1, show nI (t + 1) - 1 = nI t from nI_pred _]
  simp (disch := omega) only [gd_n, nI_ix]
  by_cases ci : i < 12
  · rw [if_neg (by omega), nI_1]
    refine hq (i + 1) _ _ (by omega) (by omega) ⟨rfl, fun c hc k a b => ?_, Fr.w (Fr.w (Fr.w (Fr.w hF (by omega)) (by omega)) (by omega)) (by omega)⟩
    by_cases e : c = i
    · subst e
      rcases (by omega : k = 332 ∨ k = 333 ∨ k = 334 ∨ k = 335) with rfl | rfl | rfl | rfl
      · rw [rI_nk (by omega), rI_nk (by omega), rI_nk (by omega), rI_same, hF.I _ _ (by omega)]
      · rw [rI_nk (by omega), rI_nk (by omega), rI_same, hF.I _ _ (by omega)]
      · rw [rI_nk (by omega), rI_same, hF.I _ _ (by omega)]
      · rw [rI_same, hF.I _ _ (by omega)]
    · rw [rI_nj (by omega), rI_nj (by omega), rI_nj (by omega), rI_nj (by omega)]
      exact hA c (by omega) k a b
  · have e : i = 12 := by omega
    subst e
    rw [if_pos (by omega), hF.I 324 1 (by omega), hF.I 331 t (by omega)]
    exact ok_ret ⟨rfl, rI_same _ _ _ _, by rw [rI_nk (by omega), rI_same], fun c hc k a b => by rw [rI_nk (by omega), rI_nk (by omega)]; exact hA c hc k a b, Fr.w (Fr.w (hF.mono (fun k j z => by omega)) (by omega)) (by omega)⟩
abbrev wRf (k j : Nat) : Prop := (k = 324 ∧ (j = 0 ∨ (16 ≤ j ∧ j ≤ 23))) ∨ (k = 331 ∧ j = 10) ∨ (332 ≤ k ∧ k ≤ 335 ∧ 120 ≤ j ∧ j < 133)
abbrev wRs (t k j : Nat) : Prop := wRf k j ∨ wcq t k j ∨ (k = 331 ∧ j = t)
theorem m_rules (hT : TPm n T σ) (hS : SG σ) {t : Nat} (ht : t < 10) (h2 : rI σ 324 8 = nI t) : ok (f_X13_rules σ) (fun r τ => SG τ ∧ rI τ 324 16 = 0 ∧ (((rulR n T 13 0 0).1 = 0 ∧ r = nI (rulR n T 13 0 0).2 ∧ rI τ 324 23 = -1 ∧ rI τ 324 8 = nI (t + 1) ∧ rI τ 330 t = rI σ 324 1 ∧ rI τ 331 t = nI (rulR n T 13 0 0).2 ∧ (∀ c, c < (rulR n T 13 0 0).2 → cgd n T c ∧ rI τ 332 (12 * t + c) = nI (knd n T (cbg n T c)) ∧ CDm (12 * t + c) (knd n T (cbg n T c)) (cR n T (cbg n T c)).2.2 τ) ∧ (∀ c, c < 12 → ∀ k, 332 ≤ k → k ≤ 335 → 0 ≤ rI τ k (12 * t + c)) ∧ Fr (wRs t) σ τ) ∨ ((rulR n T 13 0 0).1 ≠ 0 ∧ r = -1 - nI (rulR n T 13 0 0).1 ∧ rI τ 324 23 = nI (rulR n T 13 0 0).2 ∧ Fr wRf σ τ))) := by
  have t10 : Int32.toNatClampNeg 10 = 10 := rfl
  have i10 : inb 10 11 := nI_inb (a := 10) (by omega) (by omega)
  have hcd := rulR_cd (n := n) (T := T) 13 0 0
  rw [q_X13_rules, h2, if_neg (show ¬ nI t = 10 from fun z => by have := (nI_eq2 (b := 10) (by omega) (by omega)).mp z; omega)]
  unfold f_X13_starts
  have hF0 : Fr wRf σ (wI (wI (wI σ 324 0 0) 324 21 0) 324 17 0) := Fr.w (Fr.w (Fr.w Fr.refl (by omega)) (by omega)) (by omega)
  have hT0 : TPm n T (wI (wI (wI σ 324 0 0) 324 21 0) 324 17 0) := by
    refine ⟨hT.1, ?_, fun j hj => ⟨(hT.2.2 j hj).1, ?_⟩⟩
    · rw [rI_nj (by omega), rI_nj (by omega), rI_nj (by omega)]; exact hT.2.1
    · rw [rI_nk (by omega), rI_nk (by omega), rI_nk (by omega)]; exact (hT.2.2 j hj).2
  obtain ⟨a, τ0, e0, u1, u2⟩ := m_next hT0 (p := 0) (Nat.zero_le _) (rI_same _ _ _ _)
  rw [e0, bd_some, bd_some, gd_pos i10, t10]
  have hF1 : Fr wRf σ (wI τ0 331 10 0) := Fr.w (hF0.trans (u2.mono (fun k j z => by omega))) (by omega)
  have hT1 : TPm n T (wI τ0 331 10 0) := by
    refine ⟨hT.1, ?_, fun j hj => ⟨(hT.2.2 j hj).1, ?_⟩⟩
    · rw [rI_nk (by omega), u2.I _ _ (by omega)]; exact hT0.2.1
    · rw [rI_nk (by omega), u2.I _ _ (by omega)]; exact (hT0.2.2 j hj).2
  have hK1 : TKm n T 0 (wI τ0 331 10 0) := TKm_fr u1 (fun j _ _ => rI_nk (by omega))
  have hS1 : SG (wI τ0 331 10 0) := SG_fr hS (W := fun k j => k = 324 ∨ k = 331) ((Fr.w (Fr.w (Fr.w (Fr.refl (σ := σ)) (Or.inl rfl)) (Or.inl rfl)) (Or.inl rfl)).trans (u2.mono (fun k j z => Or.inl z.1)) |>.w (Or.inr rfl)) (fun k j z => by omega)
  refine m_rulRead hT1 hK1 (by rw [rI_nk (by omega), u2.I _ _ (by omega), rI_nj (by omega), rI_same]) hS1 (rI_same _ _ _ _) (fun τ x1 x2 x3 => ?_)
  have hF2 : Fr wRf σ τ := hF1.trans (x2.mono (fun k j z => by omega))
  unfold f_X13_rules_49
  rcases x3 with ⟨y1, y2, y3, y4⟩ | ⟨y1, y2, y3⟩
  · rw [m_stops_ok y2, bd_some, if_pos (by decide), gd_pos i10, t10]
    have r3 : (rulR n T 13 0 0).2 ≤ 12 := rulR_le (n := n) (T := T) (k := 13) (i := 0) (R := rulR n T 13 0 0) rfl y1 (by omega)
    have e2 : rI (wI (wI τ 324 16 0) 324 23 (-1)) 324 8 = nI t := by rw [rI_nj (by omega), rI_nj (by omega), hF2.I _ _ (by omega)]; exact h2
    have e27 : rI (wI (wI τ 324 16 0) 324 23 (-1)) 331 10 = nI (rulR n T 13 0 0).2 := by rw [rI_nk (by omega), rI_nk (by omega)]; exact y3
    rw [e2, gd_n (by omega) (by omega), nI_ix (by omega), e27]
    have hF3 : Fr (wRs t) σ (wI (wI (wI τ 324 16 0) 324 23 (-1)) 331 t (nI (rulR n T 13 0 0).2)) := Fr.w (Fr.w (Fr.w (hF2.mono (fun k j z => Or.inl z)) (Or.inl (by omega))) (Or.inl (by omega))) (Or.inr (Or.inr ⟨rfl, rfl⟩))
    have hS3 : SG (wI (wI (wI τ 324 16 0) 324 23 (-1)) 331 t (nI (rulR n T 13 0 0).2)) := SG_fr x1 (W := fun k j => k = 324 ∨ k = 331) (Fr.w (Fr.w (Fr.w Fr.refl (Or.inl rfl)) (Or.inl rfl)) (Or.inr rfl)) (fun k j z => by omega)
    refine ok_imp (m_copyR ht (by rw [rI_nk (by omega)]; exact e2)) (fun r τ2 w => ?_)
    obtain ⟨w1, w2, w3, w5, w6⟩ := w
    have sc : ∀ k j, 332 ≤ k ∧ k ≤ 335 → rI (wI (wI (wI τ 324 16 0) 324 23 (-1)) 331 t (nI (rulR n T 13 0 0).2)) k j = rI τ k j := fun k j hk => by rw [rI_nk (by omega), rI_nk (by omega), rI_nk (by omega)]
    have cp : ∀ c, c < 12 → ∀ k, 332 ≤ k → k ≤ 335 → rI τ2 k (12 * t + c) = rI τ k (120 + c) := fun c hc k a b => by rw [w5 c hc k a b, sc _ _ (by omega)]
    refine ⟨SG_fr hS3 w6 (fun k j z y => by omega), by rw [w6.I _ _ (by omega), rI_nk (by omega), rI_nj (by omega), rI_same], Or.inl ⟨y1, by rw [w1, rI_same], by rw [w6.I _ _ (by omega), rI_nk (by omega), rI_same], w2, ?_, by rw [w6.I _ _ (by omega), rI_same], fun c hc => ?_, fun c hc k a b => ?_, hF3.trans (w6.mono (fun k j z => Or.inr (Or.inl z)))⟩⟩
    · rw [w3, rI_nk (by omega), rI_nj (by omega), rI_nj (by omega), hF2.I _ _ (by omega)]
    · obtain ⟨p0, p1, p2, p3, p4⟩ := y4 c hc
      refine ⟨p0, by rw [cp c (by omega) _ (by omega) (by omega)]; exact p1, by rw [cp c (by omega) _ (by omega) (by omega)]; exact p2, fun z => ?_, fun z => by rw [cp c (by omega) _ (by omega) (by omega)]; exact p4 z⟩
      rw [cp c (by omega) _ (by omega) (by omega), cp c (by omega) _ (by omega) (by omega)]
      exact p3 z
    · rw [w5 c hc k a b]
      exact (hS3 k (120 + c) (by omega)).1 (by omega)
  · rw [m_stops_no y2 y1 hcd, bd_some, if_neg (neg_f _ hcd)]
    have hF3 : Fr wRf σ (wI (wI τ 324 16 0) 324 23 (rI τ 324 22)) := Fr.w (Fr.w hF2 (by omega)) (by omega)
    exact ok_ret ⟨SG_fr x1 (W := fun k j => k = 324 ∨ k = 331) (Fr.w (Fr.w Fr.refl (Or.inl rfl)) (Or.inl rfl)) (fun k j z => by omega), by rw [rI_nj (by omega), rI_same], Or.inr ⟨y1, rfl, by rw [rI_same]; exact y3, hF3⟩⟩
end RLX
