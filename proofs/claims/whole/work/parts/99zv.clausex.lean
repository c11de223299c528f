/-! a clause: the reference, all of it -/
section CLX
variable {σ : jM} {n p q s y : Nat} {T : Nat → Nat}
theorem PS_fail {kd f : Nat} {R : Nat × Nat × Nat × Nat × Nat} {σ1 τ : jM} (hf : R.1 = f + 1) (hF : Fr (wrc y) σ1 τ) (hS : SG τ) (h1 : rI τ 324 21 = nI (f + 1)) (h2 : rI τ 324 22 = nI R.2.1) : PSm n T y kd R σ1 τ := ⟨hS, hF, Or.inr ⟨by omega, by rw [hf]; exact h1, h2⟩⟩
theorem m_vow {c : Nat} (h : c < 1000) {α : Type} {x z : α} : (if on (vw c) = -1 then x else z) = if vw c ≠ 999 then z else x := by
  have hb := vw_bd c
  by_cases e : vw c = 999
  · rw [if_pos ((on_m1 (by omega)).mpr e), if_neg (fun w => w e)]
  · rw [if_neg (fun w => e ((on_m1 (by omega)).mp w)), if_pos e]
theorem m_drTail (hT : TPm n T σ) (h : TKm n T q σ) (hq : q ≤ n) (hwl : rI σ 324 21 = 0) (hS : SG σ) (hy : 120 ≤ y ∧ y < 132) {Q : Unit → jM → Prop} (K : ∀ τ, PSm n T y 3 (drR n T q) σ τ → ok (f_X13_readClause_442 τ) Q) : ok (bd (f_X13_letterHere σ) (fun r221 σ222 => gd (inb (nI y) 132) (bd (f_X13_isWell (wI σ222 333 y r221)) (fun r225 σ226 => (if r225 = 0 then f_X13_readClause_321 3 (nI y) σ226 else gd (inb (nI y) 132) (bd (f_X13_vowel (rI σ226 333 y) σ226) (fun r231 σ232 => (if r231 = -1 then f_X13_readClause_321 3 (nI y) σ232 else bd (f_X13_fails 2 σ232) (fun _ σ236 => f_X13_readClause_321 3 (nI y) σ236))))))))) Q := by
  have hn := hT.1
  refine ok_bd (m_letterHere h hq hn hwl) (fun r τ u => ?_)
  rw [gd_n hy.2 (by omega), e_isWell, bd_some, ite_bI, rI_nk (by omega)]
  unfold drR at K
  rcases u with ⟨u1, rfl, rfl⟩ | ⟨u1, rfl, rfl⟩
  · have hb := ltr_bd u1.1
    rw [if_pos u1] at K
    rw [if_pos hwl, gd_n hy.2 (by omega), rI_same, m_vowel (by omega), bd_some, m_vow (by omega)]
    have hF1 : Fr (wrc y) τ (wI τ 333 y (nI (T (stt n T q)))) := Fr.w Fr.refl (by omega)
    have hS1 : SG (wI τ 333 y (nI (T (stt n T q)))) := SG_w hS (fun _ => nI_pos' (by omega)) (fun z => absurd z (by decide))
    have hw1 : rI (wI τ 333 y (nI (T (stt n T q)))) 324 21 = 0 := by rw [rI_nk (by omega)]; exact hwl
    have hK1 : TKm n T q (wI τ 333 y (nI (T (stt n T q)))) := TKm_fr h (fun j _ _ => rI_nk (by omega))
    by_cases c2 : vw (T (stt n T q)) ≠ 999
    · rw [if_pos c2] at K ⊢
      rw [m_fails hw1, bd_some, t321d (by rw [rI_nj (by omega), rI_same]; decide)]
      exact K _ (PS_fail (f := 1) rfl (Fr.w (Fr.w hF1 (by omega)) (by omega)) (SG_fr hS1 (W := wmN) (Fr.w (Fr.w Fr.refl (by omega)) (by omega)) (fun k j z => by omega)) (by rw [rI_nj (by omega), rI_same]; rfl) (by rw [rI_same]; exact hK1.1))
    · rw [if_neg c2] at K ⊢
      unfold f_X13_readClause_321 f_X13_readClause_332
      rw [e_isWell, bd_some, bI_pos hw1, if_neg (by decide)]
      refine ok_bd (m_nx (TPm_fr hT hF1 (by omega) (fun j => by omega)) hK1 hq) (fun _ τ1 w => ?_)
      rw [if_neg (by decide)]
      refine K τ1 ⟨SG_fr hS1 w.2 (fun k j z => by omega), hF1.trans (w.2.mono (fun k j z => by omega)), Or.inl ⟨rfl, (w.2.I _ _ (by omega)).trans hw1, w.1, by rw [w.2.I _ _ (by omega), rI_same], fun z => by omega, fun z => by omega⟩⟩
  · rw [if_neg u1] at K
    have hz : ¬ rI (wI (wI σ 324 21 1) 324 22 (nI (stt n T q))) 324 21 = 0 := by rw [rI_nj (by omega), rI_same]; decide
    rw [if_neg hz, t321d (by rw [rI_nk (by omega)]; exact hz)]
    exact K _ (PS_fail (f := 0) rfl (Fr.w (Fr.w (Fr.w Fr.refl (by omega)) (by omega)) (by omega)) (SG_w (SG_fr hS (W := wmN) (Fr.w (Fr.w Fr.refl (by omega)) (by omega)) (fun k j z => by omega)) (fun _ => by decide) (fun z => absurd z (by decide))) (by rw [rI_nk (by omega), rI_nj (by omega), rI_same]; rfl) (by rw [rI_nk (by omega), rI_same]))
theorem m_wrTail (hT : TPm n T σ) (h : TKm n T q σ) (hq : q ≤ n) (hwl : rI σ 324 21 = 0) (hS : SG σ) (hy : 120 ≤ y ∧ y < 132) {Q : Unit → jM → Prop} (K : ∀ τ, PSm n T y 2 (wrR n T q) σ τ → ok (f_X13_readClause_442 τ) Q) : ok (bd (f_X13_letterHere σ) (fun r221 σ222 => gd (inb (nI y) 132) (bd (f_X13_isWell (wI σ222 333 y r221)) (fun r225 σ226 => (if r225 = 0 then f_X13_readClause_321 2 (nI y) σ226 else f_X13_readClause_321 2 (nI y) σ226))))) Q := by
  have hn := hT.1
  have l1 := (en_le (T := T) hq).2
  have l2 := (en_le (T := T) l1).2
  refine ok_bd (m_letterHere h hq hn hwl) (fun r τ u => ?_)
  rw [gd_n hy.2 (by omega), e_isWell, bd_some, ite_bI, rI_nk (by omega)]
  unfold wrR at K
  rcases u with ⟨u1, rfl, rfl⟩ | ⟨u1, rfl, rfl⟩
  · have hb := ltr_bd u1.1
    rw [if_pos u1] at K
    rw [if_pos hwl]
    have hF1 : Fr (wrc y) τ (wI τ 333 y (nI (T (stt n T q)))) := Fr.w Fr.refl (by omega)
    have hS1 : SG (wI τ 333 y (nI (T (stt n T q)))) := SG_w hS (fun _ => nI_pos' (by omega)) (fun z => absurd z (by decide))
    have hw1 : rI (wI τ 333 y (nI (T (stt n T q)))) 324 21 = 0 := by rw [rI_nk (by omega)]; exact hwl
    have hK1 : TKm n T q (wI τ 333 y (nI (T (stt n T q)))) := TKm_fr h (fun j _ _ => rI_nk (by omega))
    unfold f_X13_readClause_321 f_X13_readClause_332
    rw [e_isWell, bd_some, bI_pos hw1, if_neg (by decide)]
    refine ok_bd (m_nx (TPm_fr hT hF1 (by omega) (fun j => by omega)) hK1 hq) (fun _ τ1 w => ?_)
    have hF2 : Fr (wrc y) τ τ1 := hF1.trans (w.2.mono (fun k j z => by omega))
    have hT2 : TPm n T τ1 := TPm_fr hT hF2 (by omega) (fun j => by omega)
    have hS2 : SG τ1 := SG_fr hS1 w.2 (fun k j z => by omega)
    have hw2 : rI τ1 324 21 = 0 := (w.2.I _ _ (by omega)).trans hw1
    have e3 : rI τ1 333 y = nI (T (stt n T q)) := by rw [w.2.I _ _ (by omega), rI_same]
    rw [if_pos rfl, e_isWell, bd_some, bI_pos hw2, if_neg (by decide), m_isWord hT2 w.1 l1 (by omega), bd_some, ite_bI]
    by_cases c2 : isW n T (en n T q) 4
    · rw [if_pos c2] at K ⊢
      unfold f_X13_readClause_359
      rw [e_isWell, bd_some, bI_pos hw2, if_neg (by decide)]
      refine ok_bd (m_nx hT2 w.1 l1) (fun _ τ2 v => ?_)
      have hF3 : Fr (wrc y) τ τ2 := hF2.trans (v.2.mono (fun k j z => by omega))
      have hT3 : TPm n T τ2 := TPm_fr hT hF3 (by omega) (fun j => by omega)
      have hS3 : SG τ2 := SG_fr hS2 v.2 (fun k j z => by omega)
      have hw3 : rI τ2 324 21 = 0 := (v.2.I _ _ (by omega)).trans hw2
      have e4 : rI τ2 333 y = nI (T (stt n T q)) := by rw [v.2.I _ _ (by omega)]; exact e3
      unfold f_X13_readClause_370
      refine ok_bd (m_letterHere v.1 l2 hn hw3) (fun r2 τ3 x => ?_)
      rw [gd_n hy.2 (by omega)]
      simp (disch := omega) only [nI_ix]
      rw [e_isWell, bd_some, ite_bI, rI_nk (by omega)]
      rcases x with ⟨x1, rfl, rfl⟩ | ⟨x1, rfl, rfl⟩
      · have hb3 := ltr_bd x1.1
        rw [if_pos x1] at K
        rw [if_pos hw3, gd_n hy.2 (by omega), rI_nk (show 333 ≠ 334 by omega), e4, m_vowel (by omega), bd_some]
        have hF4 : Fr (wrc y) τ (wI τ3 334 y (nI (T (stt n T (en n T (en n T q)))))) := Fr.w hF3 (by omega)
        have hS4 : SG (wI τ3 334 y (nI (T (stt n T (en n T (en n T q)))))) := SG_w hS3 (fun _ => nI_pos' (by omega)) (fun z => absurd z (by decide))
        have hw4 : rI (wI τ3 334 y (nI (T (stt n T (en n T (en n T q)))))) 324 21 = 0 := by rw [rI_nk (by omega)]; exact hw3
        have hK4 : TKm n T (en n T (en n T q)) (wI τ3 334 y (nI (T (stt n T (en n T (en n T q)))))) := TKm_fr v.1 (fun j _ _ => rI_nk (by omega))
        have f405 : ∀ s0 : Int32, f_X13_readClause_405 (nI y) s0 (wI τ3 334 y (nI (T (stt n T (en n T (en n T q)))))) = f_X13_readClause_423 s0 (bI (vw (T (stt n T (en n T (en n T q)))) ≠ 999)) (wI τ3 334 y (nI (T (stt n T (en n T (en n T q)))))) := fun s0 => by
          unfold f_X13_readClause_405
          rw [gd_n hy.2 (by omega)]
          simp (disch := omega) only [nI_ix]
          rw [rI_same, m_vowel (by omega), bd_some, m_vow (by omega)]
          by_cases e : vw (T (stt n T (en n T (en n T q)))) ≠ 999
          · rw [if_pos e, bI_pos e]
          · rw [if_neg e, bI_neg e]
        rw [m_vow (by omega), f405, f405]
        have eS : (if vw (T (stt n T q)) ≠ 999 then f_X13_readClause_423 1 (bI (vw (T (stt n T (en n T (en n T q)))) ≠ 999)) (wI τ3 334 y (nI (T (stt n T (en n T (en n T q)))))) else f_X13_readClause_423 0 (bI (vw (T (stt n T (en n T (en n T q)))) ≠ 999)) (wI τ3 334 y (nI (T (stt n T (en n T (en n T q))))))) = f_X13_readClause_423 (bI (vw (T (stt n T q)) ≠ 999)) (bI (vw (T (stt n T (en n T (en n T q)))) ≠ 999)) (wI τ3 334 y (nI (T (stt n T (en n T (en n T q)))))) := by
          by_cases e : vw (T (stt n T q)) ≠ 999
          · rw [if_pos e, bI_pos e]
          · rw [if_neg e, bI_neg e]
        rw [eS]
        unfold f_X13_readClause_423
        rw [ite_iff bI_iff]
        by_cases c4 : (vw (T (stt n T q)) ≠ 999 ↔ vw (T (stt n T (en n T (en n T q)))) ≠ 999)
        · rw [if_pos c4] at K ⊢
          unfold f_X13_readClause_431
          rw [e_isWell, bd_some, bI_pos hw4, if_neg (by decide)]
          refine ok_bd (m_nx (TPm_fr hT hF4 (by omega) (fun j => by omega)) hK4 l2) (fun _ τ4 z => ?_)
          refine K τ4 ⟨SG_fr hS4 z.2 (fun k j z => by omega), hF4.trans (z.2.mono (fun k j z => by omega)), Or.inl ⟨rfl, (z.2.I _ _ (by omega)).trans hw4, z.1, ?_, fun z => by omega, fun _ => ?_⟩⟩
          · rw [z.2.I _ _ (by omega), rI_nk (by omega)]; exact e4
          · rw [z.2.I _ _ (by omega), rI_same]
        · rw [if_neg c4] at K ⊢
          rw [m_fails hw4, bd_some, t431 (by rw [rI_nj (by omega), rI_same]; decide)]
          exact K _ (PS_fail (f := 1) rfl (Fr.w (Fr.w hF4 (by omega)) (by omega)) (SG_fr hS4 (W := wmN) (Fr.w (Fr.w Fr.refl (by omega)) (by omega)) (fun k j z => by omega)) (by rw [rI_nj (by omega), rI_same]; rfl) (by rw [rI_same]; exact hK4.1))
      · rw [if_neg x1] at K
        have hz : ¬ rI (wI (wI τ2 324 21 1) 324 22 (nI (stt n T (en n T (en n T q))))) 324 21 = 0 := by rw [rI_nj (by omega), rI_same]; decide
        rw [if_neg hz, t431 (by rw [rI_nk (by omega)]; exact hz)]
        exact K _ (PS_fail (f := 0) rfl (Fr.w (Fr.w (Fr.w hF3 (by omega)) (by omega)) (by omega)) (SG_w (SG_fr hS3 (W := wmN) (Fr.w (Fr.w Fr.refl (by omega)) (by omega)) (fun k j z => by omega)) (fun _ => by decide) (fun z => absurd z (by decide))) (by rw [rI_nk (by omega), rI_nj (by omega), rI_same]; rfl) (by rw [rI_nk (by omega), rI_same]))
    · rw [if_neg c2] at K ⊢
      rw [m_fails hw2, bd_some, t359 (by rw [rI_nj (by omega), rI_same]; decide) hy.2]
      exact K _ (PS_fail (f := 0) rfl (Fr.w (Fr.w (Fr.w hF2 (by omega)) (by omega)) (by omega)) (SG_w (SG_fr hS2 (W := wmN) (Fr.w (Fr.w Fr.refl (by omega)) (by omega)) (fun k j z => by omega)) (fun _ => by decide) (fun z => absurd z (by decide))) (by rw [rI_nk (by omega), rI_nj (by omega), rI_same]; rfl) (by rw [rI_nk (by omega), rI_same]; exact w.1.1))
  · rw [if_neg u1] at K
    have hz : ¬ rI (wI (wI σ 324 21 1) 324 22 (nI (stt n T q))) 324 21 = 0 := by rw [rI_nj (by omega), rI_same]; decide
    rw [if_neg hz, t321w (by rw [rI_nk (by omega)]; exact hz) hy.2]
    exact K _ (PS_fail (f := 0) rfl (Fr.w (Fr.w (Fr.w (Fr.w Fr.refl (by omega)) (by omega)) (by omega)) (by omega)) (SG_w (SG_w (SG_fr hS (W := wmN) (Fr.w (Fr.w Fr.refl (by omega)) (by omega)) (fun k j z => by omega)) (fun _ => by decide) (fun z => absurd z (by decide))) (fun _ => by decide) (fun z => absurd z (by decide))) (by rw [rI_nk (by omega), rI_nk (by omega), rI_nj (by omega), rI_same]; rfl) (by rw [rI_nk (by omega), rI_nk (by omega), rI_same]))
theorem m_shHead (hT : TPm n T σ) (h : TKm n T q σ) (hq : q ≤ n) (hwl : rI σ 324 21 = 0) (hS : SG σ) (hy : 120 ≤ y ∧ y < 132) {kd : Nat} (hk : kd < 2) {Q : Unit → jM → Prop} (K : ∀ τ, PSm n T y kd (shR n T q) σ τ → ok (f_X13_readClause_442 τ) Q) : ok (bd (f_X13_isWord 5 (wI (wI σ 334 y 3) 335 y 1)) (fun r240 σ241 => (if r240 = 0 then bd (f_X13_isWord 6 σ241) (fun r244 σ245 => (if r244 = 0 then bd (f_X13_number 1 6 σ245) (fun r248 σ249 => gd (inb (nI y) 132) (f_X13_readClause_210 (nI y) (wI σ249 333 y r248))) else f_X13_readClause_168 (nI y) σ245)) else f_X13_readClause_168 (nI y) σ241))) Q := by
  have hF1 : Fr (wrc y) σ (wI (wI σ 334 y 3) 335 y 1) := Fr.w (Fr.w Fr.refl (by omega)) (by omega)
  have hS1 : SG (wI (wI σ 334 y 3) 335 y 1) := SG_w (SG_w hS (fun _ => by decide) (fun z => absurd z (by decide))) (fun _ => by decide) (fun z => absurd z (by decide))
  have hT1 : TPm n T (wI (wI σ 334 y 3) 335 y 1) := TPm_fr hT hF1 (by omega) (fun j => by omega)
  have hK1 : TKm n T q (wI (wI σ 334 y 3) 335 y 1) := TKm_fr h (fun j _ _ => by rw [rI_nk (by omega), rI_nk (by omega)])
  have hw1 : rI (wI (wI σ 334 y 3) 335 y 1) 324 21 = 0 := by rw [rI_nk (by omega), rI_nk (by omega)]; exact hwl
  have e4 : rI (wI (wI σ 334 y 3) 335 y 1) 334 y = nI 3 := by rw [rI_nk (by omega), rI_same]; rfl
  have e5 : rI (wI (wI σ 334 y 3) 335 y 1) 335 y = nI 1 := by rw [rI_same]; rfl
  generalize wI (wI σ 334 y 3) 335 y 1 = τ at *
  have go : ∀ v : Nat, v < 1000 → (whR n T q) = (0, en n T q, v) → ok (f_X13_readClause_189 (nI y) (nI y) (nI v) τ) Q := fun v hv hW => by
    unfold f_X13_readClause_189
    rw [gd_n hy.2 (by omega), nI_ix (by omega)]
    have hF2 : Fr (wrc y) σ (wI τ 333 y (nI v)) := Fr.w hF1 (by omega)
    refine ok_bd (m_nx (TPm_fr hT hF2 (by omega) (fun j => by omega)) (TKm_fr hK1 (fun j _ _ => rI_nk (by omega))) hq) (fun _ τ2 w => ?_)
    refine m_shTail hT hS (hF2.trans (w.2.mono (fun k j z => by omega))) (SG_fr (SG_w hS1 (fun _ => nI_pos' (by omega)) (fun z => absurd z (by decide))) w.2 (fun k j z => by omega)) hy hk (by rw [w.2.I _ _ (by omega), rI_nk (by omega)]; exact e4) (by rw [w.2.I _ _ (by omega), rI_nk (by omega)]; exact e5) hq (Or.inl ⟨by rw [hW], by rw [w.2.I _ _ (by omega), rI_nk (by omega)]; exact hw1, by rw [hW]; exact w.1, by rw [w.2.I _ _ (by omega), rI_same, hW]⟩) K
  rw [m_isWord hT1 hK1 hq (by omega), bd_some, ite_bI]
  unfold f_X13_readClause_168
  by_cases c1 : isW n T q 5
  · rw [if_pos c1, m_isWord hT1 hK1 hq (by omega), bd_some, ite_bI, if_pos c1]
    exact go 0 (by omega) (by unfold whR; rw [if_pos c1])
  rw [if_neg c1, m_isWord hT1 hK1 hq (by omega), bd_some, ite_bI]
  by_cases c2 : isW n T q 6
  · rw [if_pos c2, m_isWord hT1 hK1 hq (by omega), bd_some, ite_bI, if_neg c1]
    exact go 7 (by omega) (by unfold whR; rw [if_neg c1, if_pos c2])
  rw [if_neg c2]
  have hnum := m_number (lo := 1) (hi := 6) hT1 hK1 hq hw1 (by omega) (by omega)
  refine ok_bd hnum (fun r τ1 x => ?_)
  obtain ⟨x1, x2⟩ := x
  rw [gd_n hy.2 (by omega)]
  have hF2 : Fr (wrc y) σ τ1 := hF1.trans (x1.mono (fun k j z => Or.inl z))
  have hS2 : SG τ1 := SG_fr hS1 x1 (fun k j z => by omega)
  rcases x2 with ⟨a1, a2, a3, rfl, a5, a6⟩ | ⟨a1, rfl, a3, a4⟩
  · have hW : whR n T q = (0, en n T q, vvs n T (stt n T q)) := by unfold whR; rw [if_neg c1, if_neg c2, if_pos (numc_0.mpr ⟨a1, a2, a3⟩)]
    refine m_shTail hT hS (Fr.w hF2 (by omega)) (SG_w hS2 (fun _ => nI_pos' (by omega)) (fun z => absurd z (by decide))) hy hk (by rw [rI_nk (by omega), x1.I _ _ (by omega)]; exact e4) (by rw [rI_nk (by omega), x1.I _ _ (by omega)]; exact e5) hq (Or.inl ⟨by rw [hW], by rw [rI_nk (by omega)]; exact a5, by rw [hW]; exact TKm_fr a6 (fun j _ _ => rI_nk (by omega)), by rw [rI_same, hW]⟩) K
  · have hnz : ¬ numc n T q 1 6 = 0 := fun z => a1 (numc_0.mp z)
    have hW : whR n T q = (numc n T q 1 6, stt n T q, 0) := by unfold whR; rw [if_neg c1, if_neg c2, if_neg hnz]
    have hle := numc_le (n := n) (T := T) q 1 6
    rw [← numc_ne a1] at a3
    refine m_shTail hT hS (Fr.w hF2 (by omega)) (SG_w hS2 (fun _ => by decide) (fun z => absurd z (by decide))) hy hk (by rw [rI_nk (by omega), x1.I _ _ (by omega)]; exact e4) (by rw [rI_nk (by omega), x1.I _ _ (by omega)]; exact e5) hq (Or.inr ⟨by rw [hW]; exact hnz, by rw [rI_nk (by omega), hW]; exact a3, by rw [rI_nk (by omega), hW]; exact a4, by rw [hW]; show numc n T q 1 6 ≤ 3; omega⟩) K
end CLX
