/-! THE SEARCH: the reference takes its seats and goes through all -/
section TOP
variable {D : dD} {σ : jM} {v : Nat} {e : seT} {K : Nat → Nat} {n : Nat}
theorem cf_le : ∀ m : Nat, m < 7 → cf m ≤ 337041 := by decide +kernel
theorem m_goesThrough (hw : DW D) {md l2 : Int32} (J : List (gF × gF) → jM → Prop) (E : List (gF × gF) → gF × gF → jM → Prop) (hJ : ∀ L τ τ', J L τ → Fr (fun k _ => k = 368 ∨ k = 369) τ τ' → J L τ') (hmeet : ∀ L g r τ, MX D v e K n τ → MG n g τ → MRw n r τ → (∀ i, n ≤ i → r i = 99) → J L τ → ok (f_X13_meets md l2 τ) (fun ret τ' => Fr wme τ τ' ∧ ((ret = 1 ∧ J (L ++ [(g, r)]) τ') ∨ (ret = 0 ∧ E L (g, r) τ')))) (hX : MX D v e K n σ) (hJ0 : J [] (wI σ 324 68 0)) : ok (f_X13_goesThrough md l2 σ) (fun _ τ => Fr wG σ τ ∧ (J (lvs D v e n 0 g0 r0) τ ∨ ∃ A x B, lvs D v e n 0 g0 r0 = A ++ x :: B ∧ E A x τ)) := by
  have h7 := hX.2.2.1
  unfold f_X13_goesThrough
  refine L_X13_goesThrough_7 40 (fun s l3 τ => l3 = nI s ∧ Fr (fun k _ => k = 368 ∨ k = 369) (wI σ 324 68 0) τ ∧ ∀ s', s' < s → rI τ 369 s' = -1) (by omega) (fun s p l3 τ hk hI hp => ?_) (Nat.zero_le _) ⟨rfl, Fr.refl, fun s' hs' => by omega⟩
  obtain ⟨rfl, hF, hS⟩ := hI
  rw [q_s_X13_goesThrough_7, li40, ite_iff (nI_le2 (by omega) (by omega))]
  by_cases cs : s < 40
  · rw [if_neg (by omega), gd_n (by omega) (by omega), nI_ix (by omega)]
    refine hp (s + 1) _ _ (by omega) (by omega) ⟨nI_1 s, Fr.w hF (Or.inr rfl), fun s' hs' => ?_⟩
    by_cases es : s' = s
    · subst es; exact rI_same _ _ _ _
    · rw [rI_nj es]; exact hS s' (by omega)
  · have es : s = 40 := by omega
    subst es
    have h0 : Int32.toNatClampNeg 0 = 0 := rfl
    rw [if_pos (by omega), gd_pos (show inb 0 7 from nI_inb (a := 0) (by omega) (by omega))]
    simp only [h0]
    have hF0 : Fr wG σ (wI σ 324 68 0) := Fr.w Fr.refl (Or.inr ⟨rfl, rfl⟩)
    have hF1 : Fr (fun k _ => k = 368 ∨ k = 369) (wI σ 324 68 0) (wI τ 368 0 (-1)) := Fr.w hF (Or.inl rfl)
    have hFt : Fr wG σ (wI τ 368 0 (-1)) := hF0.trans (hF1.mono (fun k j z => by omega))
    have hX1 : MX D v e K n (wI τ 368 0 (-1)) := MX_fr hX hFt
    have hj1 : J [] (wI τ 368 0 (-1)) := hJ _ _ _ hJ0 hF1
    have hg1 : MG 0 g0 (wI τ 368 0 (-1)) := fun s' hs' => ⟨by rw [rI_nk (by omega), show 40 * 0 + s' = s' by omega, hS s' hs']; rfl, Nat.le_refl _⟩
    have e64 : rI τ 324 64 = nI n := by
      have := hX1.2.2.2.1
      rw [rI_nk (by omega)] at this
      exact this
    rw [e64, ite_iff (show nI n = 0 ↔ n = 0 from nI_eq2 (b := 0) (by omega) (by omega))]
    by_cases cn : n = 0
    · subst cn
      rw [if_pos rfl]
      refine ok_bd (hmeet [] g0 r0 _ hX1 hg1 (fun i hi => by omega) (fun i _ => rfl) hj1) (fun ret τ2 t => ?_)
      obtain ⟨t1, t2⟩ := t
      have hFe : Fr wG σ τ2 := hFt.trans (t1.mono (fun k j z => by omega))
      rcases t2 with ⟨_, t2⟩ | ⟨_, t2⟩
      · exact ok_ret ⟨hFe, Or.inl t2⟩
      · exact ok_ret ⟨hFe, Or.inr ⟨[], (g0, r0), [], rfl, t2⟩⟩
    · rw [if_neg cn]
      obtain ⟨m, rfl⟩ : ∃ m, n = m + 1 := ⟨n - 1, by omega⟩
      obtain ⟨a1, a2, a3, a4, a5, a6, a7⟩ := hX1.2.2.2.2 0 (by omega)
      obtain ⟨b1, b2, b3, b4, b5⟩ := hw.1.2.1 (e.1 0) a2
      have hcf := cf_le m (by omega)
      have hmul : D 327 (e.1 0) * (1 + cf m) ≤ 8 * (1 + cf m) := Nat.mul_le_mul_right _ b4
      have hFu : Fu = 1000000000 := rfl
      have elv : lvs D v e (m + 1) 0 g0 r0 = fq (kid D v e m 0 g0 r0) (D 327 (e.1 0)) 0 := by rw [lvs_s, fl_fq]
      refine m_goes_lv hw J E hJ hmeet m (D 327 (e.1 0)) 0 0 Fu g0 r0 [] (wI τ 368 0 (-1)) (by omega) (by omega) (by omega) hX1 hg1 (fun i hi => by omega) (fun i _ => rfl) (rI_same _ _ _ _) hj1 (fun τ2 F' hF' hjj hff => ?_) (fun A x B τ2 h1 h2 h3 => ⟨hFt.trans (h3.mono (fun k j z => by omega)), Or.inr ⟨A, x, B, by rw [elv]; exact h1, h2⟩⟩)
      obtain ⟨F1, rfl⟩ : ∃ F1, F' = F1 + 1 := ⟨F' - 1, by omega⟩
      show ok (s_X13_goesThrough_54 (f_X13_goesThrough_54 F1) md l2 (zi (((0 : Nat) : Int) - 1)) 1 τ2) _
      unfold s_X13_goesThrough_54 f_X13_goesThrough_146
      rw [if_pos (by decide)]
      exact ok_ret ⟨hFt.trans (hff.mono (fun k j z => by omega)), Or.inl (by rw [elv]; exact hjj)⟩
abbrev wtk (k j : Nat) : Prop := wlks k j ∨ (k = 324 ∧ j = 64) ∨ (364 ≤ k ∧ k ≤ 367)
theorem m_takes (hw : DW D) (hM : MD D σ) {a : Nat} (ha : a < 64) (hv : v ≤ 100000) : ok (f_X13_takes (nI v) (nI a) σ) (fun _ τ => MX D v (ese D v a) (nmo D v a) (nse D v a) τ ∧ Fr wtk σ τ) := by
  have h6 := hw.2.2.2.2.1
  unfold f_X13_takes
  refine ok_bd (m_findLinks hw hM hv) (fun _ τ0 g => ?_)
  obtain ⟨hL0, hF0⟩ := g
  have hM0 : MD D τ0 := MD_fr hM hF0 (fun k j hp z => scr_pers hp (wlks_scr z))
  refine L_X13_takes_12 (D 324 55) (fun k l3 τ => l3 = nI k ∧ MS D (ese D v a) (nmo D v a) (cnt (sel D v a) k) τ ∧ Fr (fun k j => (k = 324 ∧ j = 64) ∨ (364 ≤ k ∧ k ≤ 367)) τ0 τ) (by omega) (fun k p l3 τ hk hI hp => ?_) (Nat.zero_le _) ⟨rfl, ⟨by rw [cnt_0]; omega, rI_same _ _ _ _, fun i hi => by rw [cnt_0] at hi; omega⟩, Fr.w Fr.refl (by omega)⟩
  obtain ⟨rfl, hS, hF⟩ := hI
  have hfr : ∀ τ', Fr (fun k j => (k = 324 ∧ j = 64) ∨ (364 ≤ k ∧ k ≤ 367)) τ0 τ' → MD D τ' ∧ ML D v τ' := fun τ' hF' => ⟨MD_fr hM0 hF' (fun k j hp z => by have := pers_ge hp; omega), ML_fr hL0 (fun k j z => hF'.I _ _ (by omega))⟩
  obtain ⟨hM1, hL1⟩ := hfr τ hF
  rw [q_s_X13_takes_12]
  unfold f_X13_takes_67
  rw [hM1.r (k := 324) (j := 55) (by omega) (by omega), ite_iff (nI_le2 (by omega) (by omega))]
  by_cases ck : k < D 324 55
  · have skip : sel D v a k = false → ok (p (nI v) (nI a) (nI k + 1) τ) (fun _ τ => MX D v (ese D v a) (nmo D v a) (nse D v a) τ ∧ Fr wtk σ τ) := fun z => by
      have e : cnt (sel D v a) (k + 1) = cnt (sel D v a) k := by rw [cnt_s, z]; rfl
      exact hp (k + 1) _ _ (by omega) (by omega) ⟨nI_1 k, by rw [e]; exact hS, hF⟩
    rw [if_neg (by omega), m_nameCounts hw.2.2.2.2 hw.1 hM1 ck hv, bd_some, ite_bI]
    refine ok_ite (fun z2 => ?_) (fun z2 => skip (by unfold sel; rw [decide_eq_false z2]; rfl))
    rw [ite_iff (mask_m a ha k (by omega))]
    refine ok_ite (fun z => skip (by unfold sel; rw [z]; simp)) (fun z => ?_)
    rw [Bool.not_eq_true] at z
    have hsel : sel D v a k = true := by unfold sel; rw [decide_eq_true z2, z]; rfl
    have hnk := nmo_at hsel
    have hle := cnt_le (sel D v a) k
    obtain ⟨b1, b2, b3, b4, b5, b6⟩ := hw.2.2.2.2.2 k ck
    refine ok_bd (m_spells hw.2.1 hM1 hv (m := k) (n := D 359 k) (L := nl D k) (by omega) (nl_bd hw.2.2.2.2 ck) b2 (hM1.r (by omega) (by omega)) (fun i hi => hM1.r (by omega) (by omega))) (fun _ τ1 t => ?_)
    obtain ⟨t1, t2, t3⟩ := t
    have hF2 : Fr (fun k j => (k = 324 ∧ j = 64) ∨ (364 ≤ k ∧ k ≤ 367)) τ0 τ1 := hF.trans (t3.mono (fun k j z => by omega))
    have e : cnt (sel D v a) (k + 1) = cnt (sel D v a) k + 1 := by rw [cnt_s, hsel]; rfl
    have nE : nce D v (nl D k) (D 359 k) ≤ 8 := by have := nce_le (D := D) v (nl D k) (D 359 k); omega
    generalize hm : cnt (sel D v a) k = m at *
    have e64 : rI τ1 324 64 = nI m := (t3.I _ _ (by omega)).trans hS.2.1
    rw [e64, gd_n (by omega) (by omega), nI_1 m]
    simp (disch := omega) only [nI_ix]
    have hM2 := (hfr τ1 hF2).1
    refine hp (k + 1) _ _ (by omega) (by omega) ⟨nI_1 k, ⟨by omega, by rw [rI_same, e], fun i hi => ?_⟩, Fr.w (Fr.w hF2 (by omega)) (by omega)⟩
    rw [e] at hi
    by_cases ei : i = m
    · subst ei
      have q1 : (ese D v a).1 i = D 361 k := by show D 361 (nmo D v a i) = _; rw [hnk]
      have q2 : (ese D v a).2.1 i = nce D v (nl D k) (D 359 k) := by show nce D v (nl D (nmo D v a i)) (D 359 (nmo D v a i)) = _; rw [hnk]
      have q3 : ∀ j, (ese D v a).2.2 i j = cev D v (nl D k) (D 359 k) j := fun j => by show cev D v (nl D (nmo D v a i)) (D 359 (nmo D v a i)) j = _; rw [hnk]
      rw [q1, q2, hnk]
      refine ⟨by omega, b3, ?_, ?_, ?_, nE, fun j hj => ⟨?_, by rw [q3]; exact cev_bd hw.2.1 (nl_bd hw.2.2.2.2 ck) hj⟩⟩
      · rw [rI_nk (by omega), rI_same]
      · rw [rI_nk (by omega), rI_nk (by omega)]; exact hM2.r (by omega) (by omega)
      · rw [rI_nk (by omega), rI_nk (by omega)]; exact t1
      · rw [rI_nk (by omega), rI_nk (by omega), q3]; exact t2 j hj
    · obtain ⟨s1, s2, s3, s4, s5, s6, s7⟩ := hS.2.2 i (by omega)
      have hne : nmo D v a i ≠ k := by
        have hii : i < nse D v a := by
          have : cnt (sel D v a) k ≤ cnt (sel D v a) (D 324 55) := cnt_up (by omega)
          show i < cnt (sel D v a) (D 324 55)
          omega
        have := (nmo_of hii).2.2
        intro z
        rw [z] at this
        omega
      refine ⟨s1, s2, ?_, ?_, ?_, s6, fun j hj => ⟨?_, (s7 j hj).2⟩⟩
      · rw [rI_nk (by omega), rI_nj ei, t3.I 367 i (by omega)]; exact s3
      · rw [rI_nk (by omega), rI_nk (by omega), t3.I 361 _ (by omega)]; exact s4
      · rw [rI_nk (by omega), rI_nk (by omega), t3.I 365 _ (by omega)]; exact s5
      · rw [rI_nk (by omega), rI_nk (by omega), t3.I 364 _ (by omega)]; exact (s7 j hj).1
  · have e : k = D 324 55 := by omega
    subst e
    rw [if_pos (by omega)]
    exact ok_ret ⟨⟨hM1, hL1, hS⟩, (hF0.mono (fun k j z => Or.inl z)).trans (hF.mono (fun k j z => Or.inr z))⟩
end TOP
