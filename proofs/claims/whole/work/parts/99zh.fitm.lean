/-! fits: the reference -/
section FTM
variable {D : dD} {σ : jM} {v : Nat} {C B P : dD → Nat → jM → Prop} {m t q : Nat} {T : Nat → Nat}
noncomputable def fps (D : dD) (v m : Nat) (T : Nat → Nat) (L : List (gF × gF)) (r : Nat) : Bool := decP (r / 8 < D 324 2 ∧ r % 8 < D 327 (r / 8) ∧ tC D v (r / 8) ∧ ∃ x, x ∈ L ∧ FX D v m T (r / 8) (r % 8) x)
theorem fps_fp (hw : DW D) (hm : nmok m T) (r : Nat) : fps D v m T (WW D v 0) r = fp D v m T r := decP_c ⟨fun z => ⟨z.1, z.2.1, z.2.2.1, (FT_iff hw hm z.1 z.2.1).mpr z.2.2.2⟩, fun z => ⟨z.1, z.2.1, z.2.2.1, (FT_iff hw hm z.1 z.2.1).mp z.2.2.2⟩⟩
def J3 (D : dD) (v m : Nat) (T : Nat → Nat) (L : List (gF × gF)) (τ : jM) : Prop := rI τ 365 6 = nI (nce D v T m) ∧ (∀ j, j < nce D v T m → rI τ 364 (48 + j) = nI (cev D v T m j)) ∧ ∀ r, r < 192 → rI τ 373 r = bI (fps D v m T L r = true)
theorem J3_st : ∀ L τ τ', J3 D v m T L τ → Fr (fun k _ => k = 368 ∨ k = 369) τ τ' → J3 D v m T L τ' := fun L τ τ' h hF => ⟨(hF.I _ _ (by omega)).trans h.1, fun j hj => (hF.I _ _ (by omega)).trans (h.2.1 j hj), fun r hr => (hF.I _ _ (by omega)).trans (h.2.2 r hr)⟩
abbrev wmkf (k j : Nat) : Prop := k = 373 ∨ (k = 369 ∧ 280 ≤ j)
theorem m_marksFits (hw : DW D) (hm : nmok m T) (hv : v ≤ 100000) {L : List (gF × gF)} {g r : gF} (hX : MX D v (ese D v 0) (nmo D v 0) (nse D v 0) σ) (hg : MG (nse D v 0) g σ) (hr : MRw (nse D v 0) r σ) (hJ : J3 D v m T L σ) : ok (f_X13_marksFits (nI v) σ) (fun _ τ => J3 D v m T (L ++ [(g, r)]) τ ∧ Fr wmkf σ τ) := by
  have h6 := nse_le hw (v := v) 0
  have h24 := hw.1.1
  have hce := nce_le (D := D) v T m
  have hm8 := hm.2.1
  have fpt : ∀ k, fps D v m T (L ++ [(g, r)]) k = true ↔ (fps D v m T L k = true ∨ (k / 8 < D 324 2 ∧ k % 8 < D 327 (k / 8) ∧ tC D v (k / 8) ∧ FX D v m T (k / 8) (k % 8) (g, r))) := fun k => by
    unfold fps
    rw [decP_t, decP_t]
    refine ⟨fun z => ?_, fun z => ?_⟩
    · obtain ⟨z1, z2, z3, x, z4, z5⟩ := z
      rcases List.mem_append.mp z4 with y | y
      · exact Or.inl ⟨z1, z2, z3, x, y, z5⟩
      · rw [List.mem_singleton.mp y] at z5
        exact Or.inr ⟨z1, z2, z3, z5⟩
    · rcases z with ⟨z1, z2, z3, x, z4, z5⟩ | ⟨z1, z2, z3, z5⟩
      · exact ⟨z1, z2, z3, x, List.mem_append.mpr (Or.inl z4), z5⟩
      · exact ⟨z1, z2, z3, _, List.mem_append.mpr (Or.inr (List.mem_singleton.mpr rfl)), z5⟩
  have big : ∀ k, 8 * D 324 2 ≤ k → ∀ L', fps D v m T L' k = false := fun k hk L' => decP_f (fun z => by have := z.1; omega)
  unfold f_X13_marksFits
  refine L_X13_marksFits_2 (8 * D 324 2) (fun k l2 τ => l2 = nI k ∧ Fr wmkf σ τ ∧ (∀ r', r' < k → rI τ 373 r' = bI (fps D v m T (L ++ [(g, r)]) r' = true)) ∧ (∀ r', k ≤ r' → r' < 192 → rI τ 373 r' = bI (fps D v m T L r' = true))) (by omega) (fun k p l2 τ hk hI hp => ?_) (Nat.zero_le _) ⟨rfl, Fr.refl, fun r' hr' => by omega, fun r' _ h2 => hJ.2.2 r' h2⟩
  obtain ⟨rfl, hF, hA, hB⟩ := hI
  have hX1 : MX D v (ese D v 0) (nmo D v 0) (nse D v 0) τ := MX_fr hX (hF.mono (fun k j z => by omega))
  have hM1 := hX1.1
  unfold s_X13_marksFits_2 f_X13_marksFits_180
  rw [li8, hM1.r (k := 324) (j := 2) (by omega) (by omega), pk_mul, ite_iff (nI_le2 (by omega) (by omega))]
  by_cases ck : k < 8 * D 324 2
  · rw [if_neg (by omega), gd_n (by omega) (by omega)]
    simp (disch := omega) only [nI_ix, div_n, rem_n]
    have e0 := hB k (Nat.le_refl _) (by omega)
    have skip : (fps D v m T (L ++ [(g, r)]) k = true ↔ fps D v m T L k = true) → ok (p (nI v) (nI k + 1) τ) (fun _ τ => J3 D v m T (L ++ [(g, r)]) τ ∧ Fr wmkf σ τ) := fun z => hp (k + 1) _ _ (by omega) (by omega) ⟨nI_1 k, hF, fun r' hr' => by
      by_cases e : r' = k
      · subst e; rw [e0]; exact bI_congr z.symm
      · exact hA r' (by omega), fun r' a b => hB r' (by omega) b⟩
    rw [e0]
    by_cases cf : fps D v m T L k = true
    · rw [bI_pos cf, if_neg (by decide)]
      exact skip ⟨fun _ => cf, fun _ => (fpt k).mpr (Or.inl cf)⟩
    rw [bI_neg cf, if_pos rfl, gd_n (by omega) (by omega)]
    obtain ⟨b1, b2, b3, b4, b5⟩ := hw.1.2.1 (k / 8) (by omega)
    rw [hM1.r (k := 327) (j := k / 8) (by omega) (by omega), ite_iff (nI_le2 (by omega) (by omega))]
    refine ok_ite (fun z => skip ⟨fun y => (((fpt k).mp y).resolve_left cf |> fun w => by omega), fun y => absurd y cf⟩) (fun z => ?_)
    rw [m_tC hw.1 hM1 (t := k / 8) (by omega) hv, bd_some, ite_bI]
    refine ok_ite (fun z2 => ?_) (fun z2 => skip ⟨fun y => absurd (((fpt k).mp y).resolve_left cf).2.2.1 z2, fun y => absurd y cf⟩)
    refine L_X13_marksFits_58 (nse D v 0) (fun i l4 l5 τ' => l5 = nI i ∧ τ' = τ ∧ l4 = bI (decP (∃ i', i' < i ∧ (ese D v 0).1 i' = k / 8 ∧ r i' = k % 8) = true)) (by omega) (fun i p2 l4 l5 τ' hk2 hI2 hp2 => ?_) (Nat.zero_le _) ⟨rfl, rfl, by rw [bI_neg (fun z => ?_)]; obtain ⟨i', h, -⟩ := decP_t.mp z; omega⟩
    obtain ⟨rfl, rfl, rfl⟩ := hI2
    unfold s_X13_marksFits_58 f_X13_marksFits_102 f_X13_marksFits_106 f_X13_marksFits_107 f_X13_marksFits_180
    rw [li8, hX1.2.2.2.1, ite_iff (nI_le2 (by omega) (by omega))]
    by_cases ci : i < nse D v 0
    · rw [if_neg (by omega)]
      by_cases co : ∃ i', i' < i ∧ (ese D v 0).1 i' = k / 8 ∧ r i' = k % 8
      · rw [bI_pos (decP_t.mpr co), if_neg (by decide)]
        obtain ⟨i', c1, c2⟩ := co
        exact hp2 (i + 1) _ _ _ (by omega) (by omega) ⟨nI_1 i, rfl, by rw [bI_pos (decP_t.mpr ⟨i', by omega, c2⟩)]⟩
      · obtain ⟨a1, a2, a3, a4, a5, a6, a7⟩ := hX1.2.2.2.2 i ci
        have nx : ¬ ((ese D v 0).1 i = k / 8 ∧ r i = k % 8) → ok (p2 (nI v) (nI k) (nI (k / 8)) 0 (nI i + 1) τ') (fun _ τ => J3 D v m T (L ++ [(g, r)]) τ ∧ Fr wmkf σ τ) := fun y => hp2 (i + 1) _ _ _ (by omega) (by omega) ⟨nI_1 i, rfl, by
          rw [bI_neg (fun w => ?_)]
          obtain ⟨i', w1, w2⟩ := decP_t.mp w
          by_cases e : i' = i
          · subst e; exact y w2
          · exact co ⟨i', by omega, w2⟩⟩
        have hri := hr i ci
        rw [bI_neg (fun w => co (decP_t.mp w)), if_pos rfl, gd_n (by omega) (by omega)]
        simp (disch := omega) only [nI_ix]
        rw [a3, gd_n a1 (by omega)]
        simp (disch := omega) only [nI_ix, div_n, rem_n]
        rw [a4, ite_iff (nI_eq2 (by omega) (by omega)), gd_n (by omega) (by omega), show rI τ' 368 i = nI (r i) from (hF.I _ _ (by omega)).trans hri.1, ite_iff (nI_eq2 (by omega) (by omega))]
        refine ok_ite (fun y1 => ok_ite (fun y2 => ?_) (fun y2 => nx (fun w => y2 w.2))) (fun y1 => nx (fun w => y1 w.1))
        exact hp2 (i + 1) _ _ _ (by omega) (by omega) ⟨nI_1 i, rfl, by rw [bI_pos (decP_t.mpr ⟨i, by omega, y1, y2⟩)]⟩
    · have ei : i = nse D v 0 := by omega
      subst ei
      rw [if_pos (by omega), ite_bI]
      refine ok_ite (fun co => skip ⟨fun y => ?_, fun y => absurd y cf⟩) (fun co => ?_)
      · obtain ⟨i', c1, c2⟩ := decP_t.mp co
        exact absurd c2 ((((fpt k).mp y).resolve_left cf).2.2.2.1 i' c1)
      have hown : ∀ i, i < nse D v 0 → ¬ ((ese D v 0).1 i = k / 8 ∧ r i = k % 8) := fun i hi w => co (decP_t.mpr ⟨i, hi, w⟩)
      refine L_X13_marksFits_126 40 (fun s l5 τ2 => l5 = nI s ∧ Fr (fun k j => k = 369 ∧ 280 ≤ j) τ' τ2 ∧ ∀ s', s' < s → rI τ2 369 (280 + s') = gz (g s')) (by omega) (fun s p3 l5 τ2 hk3 hI3 hp3 => ?_) (Nat.zero_le _) ⟨rfl, Fr.refl, fun s' hs' => by omega⟩
      obtain ⟨rfl, hF2, hC⟩ := hI3
      unfold s_X13_marksFits_126 f_X13_marksFits_180
      have e64 : rI τ2 324 64 = nI (nse D v 0) := (hF2.I _ _ (by omega)).trans hX1.2.2.2.1
      rw [li40, e64, pk_mul, nI_add, show (280 : Int32) = nI 280 from rfl, nI_add, ite_iff (nI_le2 (by omega) (by omega))]
      by_cases cs : s < 40
      · rw [if_neg (by omega), gd_n (by omega) (by omega), gd_n (by omega) (by omega)]
        simp (disch := omega) only [nI_ix]
        rw [show rI τ2 369 (40 * nse D v 0 + s) = gz (g s) from (hF2.I _ _ (by omega)).trans ((hF.I _ _ (by omega)).trans (hg s cs).1)]
        refine hp3 (s + 1) _ _ (by omega) (by omega) ⟨nI_1 s, Fr.w hF2 (by omega), fun s' hs' => ?_⟩
        by_cases es : s' = s
        · subst es; exact rI_same _ _ _ _
        · rw [rI_nj (by omega)]; exact hC s' (by omega)
      · have es : s = 40 := by omega
        subst es
        rw [if_pos (by omega)]
        simp (disch := omega) only [gd_n, nI_ix]
        have hX2 : MX D v (ese D v 0) (nmo D v 0) (nse D v 0) τ2 := MX_fr hX1 (hF2.mono (fun k j z => by omega))
        have hg7 : MG 7 g τ2 := fun s hs => ⟨hC s hs, (hg s hs).2⟩
        have eN : ∀ k j, (k = 364 ∨ k = 365) → rI τ2 k j = rI σ k j := fun k j hk => (hF2.I _ _ (by omega)).trans (hF.I _ _ (by omega))
        have hag := m_agrees (L := 7) (t := k / 8) (q := k % 8) (K := 6) (Z := nce D v T m) (C := cev D v T m) hw hX2.1 hX2.2.1 (by omega) (by omega) (by omega) (by omega) ((eN _ _ (by omega)).trans hJ.1) (by omega) (fun j hj => ⟨(eN _ _ (by omega)).trans (hJ.2.1 j hj), cev_bd hw.2.1 hm.2.2 hj⟩) hg7
        rw [show 8 * (k / 8) + k % 8 = k by omega] at hag
        refine ok_bd hag (fun ret τ3 u => ?_)
        obtain ⟨u1, u2⟩ := u
        have hF3 : Fr wmkf σ τ3 := (hF.trans (hF2.mono (fun k j z => Or.inr z))).trans (u1.mono (fun k j z => Or.inr ⟨z.1, by omega⟩))
        have hk3 : ∀ r', rI τ3 373 r' = rI τ' 373 r' := fun r' => (u1.I _ _ (by omega)).trans (hF2.I _ _ (by omega))
        have fin : ∀ b : Int32, b = bI (fps D v m T (L ++ [(g, r)]) k = true) → ok (p (nI v) (nI k + 1) (wI τ3 373 k b)) (fun _ τ => J3 D v m T (L ++ [(g, r)]) τ ∧ Fr wmkf σ τ) := fun b hb => hp (k + 1) _ _ (by omega) (by omega) ⟨nI_1 k, Fr.w hF3 (Or.inl rfl), fun r' hr' => by
          by_cases e : r' = k
          · subst e; rw [rI_same]; exact hb
          · rw [rI_nj e, hk3]; exact hA r' (by omega), fun r' a b => by rw [rI_nj (by omega), hk3]; exact hB r' (by omega) b⟩
        rcases u2 with ⟨rfl, u2⟩ | ⟨rfl, u2, g', u3, u4⟩
        · rw [nar_0]
          refine fin 0 ?_
          rw [bI_neg (fun y => ?_)]
          obtain ⟨w1, w2, w3, w4, w5, g', w6⟩ := ((fpt k).mp y).resolve_left cf
          rw [show 8 * (k / 8) + k % 8 = k by omega] at w5 w6
          rcases u2 with u2 | u2
          · exact u2 w5
          · rw [u2] at w6; cases w6
        · rw [nar_1]
          refine fin 1 ?_
          rw [bI_pos ((fpt k).mpr (Or.inr ⟨by omega, by omega, z2, hown, by rw [show 8 * (k / 8) + k % 8 = k by omega]; exact u2, g', by rw [show 8 * (k / 8) + k % 8 = k by omega]; exact u3⟩))]
  · have e : k = 8 * D 324 2 := by omega
    rw [if_pos (by omega)]
    refine ok_ret ⟨⟨(hF.I _ _ (by omega)).trans hJ.1, fun j hj => (hF.I _ _ (by omega)).trans (hJ.2.1 j hj), fun r' hr' => ?_⟩, hF⟩
    rcases Nat.lt_or_ge r' k with w | w
    · exact hA r' w
    · rw [hB r' w hr', big r' (by omega), big r' (by omega)]
theorem m_meets3 (hw : DW D) (hm : nmok m T) (hv : v ≤ 100000) {L : List (gF × gF)} {g r : gF} (hX : MX D v (ese D v 0) (nmo D v 0) (nse D v 0) σ) (hg : MG (nse D v 0) g σ) (hr : MRw (nse D v 0) r σ) (hJ : J3 D v m T L σ) : ok (f_X13_meets 3 (nI v) σ) (fun ret τ' => Fr wme σ τ' ∧ ((ret = 1 ∧ J3 D v m T (L ++ [(g, r)]) τ') ∨ (ret = 0 ∧ False))) := by
  have h6 := nse_le hw (v := v) 0
  unfold f_X13_meets f_X13_meets_169 f_X13_meets_179 f_X13_meets_189
  rw [if_neg (by decide), if_neg (by decide), if_pos rfl]
  have hF0 : Fr wme σ (wI σ 324 68 (rI σ 324 68 + 1)) := Fr.w Fr.refl (Or.inl ⟨rfl, rfl⟩)
  refine ok_bd (m_marksFits hw hm hv (MX_fr hX (Fr.w Fr.refl (Or.inr ⟨rfl, rfl⟩))) (MG_fr hg (fun j _ _ => rI_nk (by omega))) (fun i hi => ⟨(rI_nk (by omega)).trans (hr i hi).1, (hr i hi).2⟩) (show J3 D v m T L (wI σ 324 68 (rI σ 324 68 + 1)) from ⟨(rI_nk (by omega)).trans hJ.1, fun j hj => (rI_nk (by omega)).trans (hJ.2.1 j hj), fun r' hr' => (rI_nk (by omega)).trans (hJ.2.2 r' hr')⟩)) (fun _ τ u => ?_)
  rw [if_neg (by decide), gd_1]
  exact ok_ret ⟨hF0.trans (u.2.mono (fun k j z => by omega)), Or.inl ⟨rfl, u.1⟩⟩
theorem m_fits74 {L : List (gF × gF)} (h : J3 D v m T L σ) : f_X13_fits_74 Fu 0 0 σ = some (nI (cnt (fps D v m T L) 192), σ) := by
  refine ok_eq ?_
  refine L_X13_fits_74 192 (fun k l2 l3 τ => l2 = nI (cnt (fps D v m T L) k) ∧ l3 = nI k ∧ τ = σ) (by omega) (fun k p l2 l3 τ hk hI hp => ?_) (Nat.zero_le _) ⟨rfl, rfl, rfl⟩
  obtain ⟨rfl, rfl, rfl⟩ := hI
  unfold s_X13_fits_74 f_X13_fits_93
  rw [li192, ite_iff (nI_le2 (by omega) (by omega))]
  by_cases ck : k < 192
  · rw [if_neg (by omega), gd_n ck (by omega)]
    simp (disch := omega) only [nI_ix]
    rw [h.2.2 k ck, ite_bI]
    refine ok_ite (fun z => ?_) (fun z => ?_)
    · exact hp (k + 1) _ _ _ (by omega) (by omega) ⟨by rw [cnt_s, if_pos z, nI_1], nI_1 k, rfl⟩
    · exact hp (k + 1) _ _ _ (by omega) (by omega) ⟨by rw [cnt_s, if_neg z, Nat.add_zero], nI_1 k, rfl⟩
  · have e : k = 192 := by omega
    subst e
    rw [if_pos (by omega)]
    exact ok_ret ⟨rfl, rfl⟩
theorem fp_all (hw : DW D) (hm : nmok m T) : cnt (fps D v m T (WW D v 0)) 192 = cnt (fp D v m T) (8 * D 324 2) := by
  have h24 := hw.1.1
  rw [cnt_congr (q := fp D v m T) (fun i _ => fps_fp hw hm i)]
  obtain ⟨d, hd⟩ : ∃ d, 192 = 8 * D 324 2 + d := ⟨192 - 8 * D 324 2, by omega⟩
  have e : cnt (fp D v m T) 192 = cnt (fp D v m T) (8 * D 324 2 + d) := by rw [← hd]
  rw [e, cnt_add, cnt_zero (p := fun i => fp D v m T (8 * D 324 2 + i)) (fun i hi => decP_f (fun z => by have := z.1; omega)), Nat.add_zero]
theorem m_fitsX (hw : DW D) (hM : MD D σ) (hv : v ≤ 100000) (hm : nmok m T) (h9 : rI σ 359 6 = nI m) (h0 : ∀ i, i < m → rI σ 360 (48 + i) = nI (T i)) : ok (bd (f_X13_takes (nI v) 0 σ) (fun _ σ31 => bd (f_X13_spells 6 (nI v) σ31) (fun _ σ34 => f_X13_fits_44 Fu (nI v) 0 σ34))) (fun r τ => r = nI (cnt (fp D v m T) (8 * D 324 2)) ∧ Fr wwn σ τ) := by
  have h6 := nse_le hw (v := v) 0
  refine ok_bd (m_takes hw hM (a := 0) (by omega) hv) (fun _ τ1 t' => ?_)
  obtain ⟨hX, hF1⟩ := t'
  have hsp := m_spells hw.2.1 hX.1 (v := v) (n := m) (m := 6) (L := T) hv (by omega) hm.2.2 hm.2.1 ((hF1.I 359 6 (by omega)).trans h9) (fun i hi => (hF1.I 360 _ (by omega)).trans (h0 i hi))
  refine ok_bd hsp (fun _ τ2 u => ?_)
  obtain ⟨s1, s2, s3⟩ := u
  have hF2 : Fr wwn σ τ2 := (hF1.mono (V := wwn) (fun k j z => Or.inl (Or.inl z))).trans (s3.mono (fun k j z => Or.inl (Or.inl (Or.inr (Or.inr (by omega))))))
  have hX2 : MX D v (ese D v 0) (nmo D v 0) (nse D v 0) τ2 := by
    refine ⟨MD_fr hM hF2 (fun k j hp z => scr_pers hp (wwn_scr z)), ML_fr hX.2.1 (fun k j z => s3.I _ _ (by omega)), hX.2.2.1, (s3.I _ _ (by omega)).trans hX.2.2.2.1, fun i hi => ?_⟩
    obtain ⟨a1, a2, a3, a4, a5, a6, a7⟩ := hX.2.2.2.2 i hi
    have hnm := (nmo_of (D := D) (v := v) (a := 0) hi).1
    have h55 := hw.2.2.2.2.1
    exact ⟨a1, a2, (s3.I _ _ (by omega)).trans a3, (s3.I _ _ (by omega)).trans a4, (s3.I _ _ (by omega)).trans a5, a6, fun j hj => ⟨(s3.I _ _ (by omega)).trans (a7 j hj).1, (a7 j hj).2⟩⟩
  refine L_X13_fits_44 192 (fun k l2 τ => l2 = nI k ∧ Fr (fun k _ => k = 373) τ2 τ ∧ ∀ r, r < k → rI τ 373 r = 0) (by omega) (fun k p l2 τ hk hI hp => ?_) (Nat.zero_le _) ⟨rfl, Fr.refl, fun r hr => by omega⟩
  obtain ⟨rfl, hF, hZ⟩ := hI
  unfold s_X13_fits_44
  rw [li192, ite_iff (nI_le2 (by omega) (by omega))]
  by_cases ck : k < 192
  · rw [if_neg (by omega), gd_n ck (by omega), nar_0]
    simp (disch := omega) only [nI_ix]
    refine hp (k + 1) _ _ (by omega) (by omega) ⟨nI_1 k, Fr.w hF rfl, fun r hr => ?_⟩
    by_cases e : r = k
    · subst e; exact rI_same _ _ _ _
    · rw [rI_nj e]; exact hZ r (by omega)
  · have e : k = 192 := by omega
    subst e
    rw [if_pos (by omega)]
    have hX3 : MX D v (ese D v 0) (nmo D v 0) (nse D v 0) τ := MX_fr hX2 (hF.mono (fun k j z => by omega))
    refine ok_bd (m_goesThrough hw (J3 D v m T) (fun _ _ _ => False) J3_st (fun L g r τ' h1 h2 h3 h4 h5 => m_meets3 hw hm hv h1 h2 h3 h5) hX3 ⟨?_, fun j hj => ?_, fun r hr => ?_⟩) (fun _ τ3 t => ?_)
    · rw [rI_nk (by omega), hF.I _ _ (by omega)]; exact s1
    · rw [rI_nk (by omega), hF.I _ _ (by omega)]; exact s2 j hj
    · rw [rI_nk (by omega), hZ r hr, bI_neg (fun z => ?_)]
      obtain ⟨-, -, -, x, z, -⟩ := decP_t.mp z
      cases z
    · obtain ⟨t1, t2⟩ := t
      rcases t2 with t2 | ⟨_, _, _, _, t2⟩
      · rw [m_fits74 t2]
        exact ok_ret ⟨by rw [← fp_all hw hm]; rfl, (hF2.trans (hF.mono (fun k j z => Or.inl (Or.inr (by omega))))).trans (t1.mono (fun k j z => Or.inl (Or.inr z)))⟩
      · exact t2.elim
theorem op_fits (h : Inv (KK GK C WK B P) σ) (hS : SK GK C WK B P) (a1 a2 a3 a4 a5 : Int32) : ∃ σ', lw_op 28 a1 a2 a3 a4 a5 σ σ' ∧ Inv (KK GK C WK B P) σ' := by
  have hK := KK_KX hS
  show ∃ σ', (∃ (r : Int32) (σ1 : jM), f_X12_fits a1 σ = some (r, σ1) ∧ f_X13_fits a1 σ1 = some (r, σ')) ∧ Inv (KK GK C WK B P) σ'
  obtain ⟨m, T, hT⟩ := TP_of h.2.2.2.1
  refine op_mk (c_tapeq h hS hT a1 (X := f_X8_rowsForNew) (Y := fun v => nI (cnt (fp (dm σ) v m T) (8 * dm σ 324 2))) (fun v τ hv hw hct hG h18 h10 hN hm => c_rowsNew hw hct hG h18 h10 hv hN hm)) (fun r τ hq => m_tapeq hK h a1 (X := fun τ => bd (f_X13_takes a1 0 τ) (fun _ σ31 => bd (f_X13_spells 6 a1 σ31) (fun _ σ34 => f_X13_fits_44 Fu a1 0 σ34))) (Y := fun v => nI (cnt (fp (dm σ) v m T) (8 * dm σ 324 2))) (fun v τ hv e hw hM h9 h0 hm => ?_) r τ hq)
  subst e
  exact ok_imp (m_fitsX hw hM hv hm h9 h0) (fun r τ' u => ⟨u.1, u.2.mono (fun k j z => wwn_scr z)⟩)
end FTM
