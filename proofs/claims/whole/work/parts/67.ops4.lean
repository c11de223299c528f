/-! away, told, count -/
section OPS4
variable {K : dD → Nat → jM → Prop} {σ : jM}
theorem TD_fr {W : Nat → Nat → Prop} {τ : jM} (hF : Fr W σ τ) (h : TD σ) (w1 : ¬ W 324 1) (w2 : ¬ W 3 0) (w3 : ¬ W 324 16) (w4 : ¬ W 262 1) (w5 : ∀ j, ¬ W 263 j) (w6 : ∀ j, ¬ W 336 j) (w7 : ¬ W 262 3) (w8 : ¬ W 324 23) (w9 : ¬ W 324 75) (w10 : ¬ W 0 7) (w11 : ∀ j, ¬ W 1 j) (w12 : ∀ j, ¬ W 374 j) : TD τ := by
  obtain ⟨⟨d, t0, t1, t2⟩, ⟨m, t3, t4, t5, t6⟩, t7, ⟨q, t8, t9, t10, t11⟩⟩ := h
  refine ⟨⟨d, t0, (hF.I _ _ w1).trans t1, (hF.I _ _ w2).trans t2⟩, ⟨m, t3, (hF.I _ _ w3).trans t4, (hF.I _ _ w4).trans t5, fun j hj => ?_⟩, ?_, ⟨q, t8, (hF.I _ _ w9).trans t9, (hF.I _ _ w10).trans t10, fun j hj => ?_⟩⟩
  · rw [hF.I 263 j (w5 j), hF.I 336 j (w6 j)]; exact t6 j hj
  · rw [hF.I 262 3 w7, hF.I 324 23 w8]; exact t7
  · rw [hF.I 1 j (w11 j), hF.I 374 j (w12 j)]; exact t11 j hj
theorem gone_m1 {g : Int32} {w : Nat} (h : gone g w) : g = -1 ↔ w = 1000000 := by
  rcases h with ⟨h1, h2⟩ | ⟨h1, h2⟩
  · exact ⟨fun _ => h1, fun _ => h2⟩
  · rw [h2]; exact ⟨fun z => ((nI_m1 (by omega)).mp z).elim, fun z => by omega⟩
/-- the reference's part of away, at one sort -/
theorem away_m {s0 k N : Nat} {w : Nat} (hs : (shf s0).2 = N) (hk : k < N) (hN : N < 1000) (hw : w < 2147483648) (e : rI σ s0 k = nI w) : f_X13_away_82 (nI k) s0 σ = some (if w = 1000000 then (1, wI σ s0 k (rI σ 324 1)) else (0, σ)) := by
  have ib : inb (nI k) (shf s0).2 := by rw [hs]; exact nI_inb hk (by omega)
  unfold f_X13_away_82
  rw [gd_pos ib, gd_pos ib]
  simp only [nI_ix (show k < 2147483648 by omega)]
  rw [e]
  by_cases c : w = 1000000
  · rw [if_pos c, if_pos (by rw [c]; rfl)]
  · have g : ¬ nI w = 1000000 := fun z => c ((nI_eq2 (b := 1000000) hw (by omega)).mp z)
    rw [if_neg c, if_neg g]
set_option maxHeartbeats 4000000 in
theorem op_away (h : Inv K σ) (hK : KX K) (a1 a2 a3 a4 a5 : Int32) : ∃ σ', lw_op 6 a1 a2 a3 a4 a5 σ σ' ∧ Inv K σ' := by
  obtain ⟨d, hd, ed1, ed2⟩ := h.2.2.2.1.1
  have hT := (gT h).1.1
  have hS := (gS h).1.1
  have hN := (gN h).1.1
  have bad : f_X0_find a1 a2 σ = some (none, σ) → f_X13_away a1 a2 σ = some (0, wI σ 324 0 0) → ∃ σ', lw_op 6 a1 a2 a3 a4 a5 σ σ' ∧ Inv K σ' := by
    intro e1 e2
    refine ⟨_, ⟨0, σ, ?_, e2⟩, Inv_thr hK h 0⟩
    unfold f_X12_away
    rw [e1, bd_some]
  have old : ∀ x, f_X0_find a1 a2 σ = some (some x, σ) → ¬ rI σ x 1 = -1 → f_X13_away a1 a2 σ = some (0, wI σ 324 0 0) → ∃ σ', lw_op 6 a1 a2 a3 a4 a5 σ σ' ∧ Inv K σ' := by
    intro x e1 e2 e3
    refine ⟨_, ⟨0, σ, ?_, e3⟩, Inv_thr hK h 0⟩
    unfold f_X12_away
    rw [e1, bd_some]
    show (if rI σ x 1 = -1 then _ else _) = _
    rw [if_neg e2]
  have new : ∀ x s0 k, x < 262 → 28 ≤ x → 325 ≤ s0 → s0 < 364 → (s0 = 326 ∨ s0 = 349 ∨ s0 = 363) → f_X0_find a1 a2 σ = some (some x, σ) → rI σ x 1 = -1 → (∀ s : jM, rI s 324 1 = nI d → (∀ j, rI s s0 j = rI σ s0 j) → (∀ j, j = 2 ∨ j = 32 ∨ j = 55 → rI s 324 j = rI σ 324 j) → f_X13_away a1 a2 s = some (1, wI (wI s 324 0 0) s0 k (nI d))) → Inv K (wI (wI (wI (wI σ x 1 (nI d)) 3 10 (-1)) 324 0 0) s0 k (nI d)) → ∃ σ', lw_op 6 a1 a2 a3 a4 a5 σ σ' ∧ Inv K σ' := by
    intro x s0 k hx1 hx2 hs1 hs2 hs3 e1 e2 e3 hI
    refine ⟨_, ⟨1, wI (wI σ x 1 (nI d)) 3 10 (-1), ?_, e3 _ ?_ ?_ ?_⟩, hI⟩
    · unfold f_X12_away
      rw [e1, bd_some]
      show (if rI σ x 1 = -1 then _ else _) = _
      rw [if_pos e2, e_forget, bd_some, ed2]
    · rw [rI_nk (by omega), rI_nk (by omega)]; exact ed1
    · intro j; rw [rI_nk (by omega), rI_nk (by omega)]
    · intro j _; rw [rI_nk (by omega), rI_nk (by omega)]
  by_cases c0 : 0 ≤ a2
  · obtain ⟨k, hk, rfl⟩ := i_of c0
    have eT : rI σ 3 2 = nI (dm σ 324 2) := (gT h).2.1
    have eS : rI σ 3 6 = nI (dm σ 324 32) := (gS h).2.1
    have eN : rI σ 3 8 = nI (dm σ 324 55) := (gN h).2.1
    have mT : rI σ 324 2 = nI (dm σ 324 2) := (md h.1 (by omega) (by omega)).1
    have mS : rI σ 324 32 = nI (dm σ 324 32) := (md h.1 (by omega) (by omega)).1
    have mN : rI σ 324 55 = nI (dm σ 324 55) := (md h.1 (by omega) (by omega)).1
    by_cases w0 : a1 = 0
    · by_cases lt : k < dm σ 324 2
      · have hf : f_X0_find a1 (nI k) σ = some (some (tabX k), σ) := by
          unfold f_X0_find
          rw [if_pos c0, if_pos w0, eT, if_neg (fun z => by have := (nI_le2 (by omega) hk).mp z; omega), gd_pos (nI_inb (by omega) (by omega)), nI_ix hk]
        have hg := ((gT h).2.2.1 k lt).2.1
        have me := md h.1 (k := 326) (j := k) (by omega) (by omega)
        have hm : ∀ s : jM, rI s 324 2 = nI (dm σ 324 2) → rI s 326 k = nI (dm σ 326 k) → f_X13_away a1 (nI k) s = some (if dm σ 326 k = 1000000 then (1, wI (wI s 324 0 0) 326 k (rI s 324 1)) else (0, wI s 324 0 0)) := by
          intro s q1 q2
          unfold f_X13_away f_X13_away_41
          rw [if_pos w0]
          show bd (f_X13_within (nI k) 0 (rI s 324 2 - 1) (wI s 324 0 0)) _ = _
          rw [e_within, bd_some, ite_bI, q1, if_pos ((nI_sub1 (by omega)).mpr ⟨c0, (nI_lt2 hk (by omega)).mpr lt⟩), if_pos w0]
          exact away_m (N := 24) rfl (by omega) (by omega) me.2 q2
        by_cases cg : dm σ 326 k = 1000000
        · refine new (tabX k) 326 k (by unfold tabX; omega) (by unfold tabX; omega) (by omega) (by omega) (by omega) hf ((gone_m1 hg).mpr cg) (fun s q1 q2 q3 => ?_) ?_
          · rw [hm s ((q3 2 (by omega)).trans mT) ((q2 k).trans me.1), if_pos cg, q1]
          · obtain ⟨τ, hτ⟩ : ∃ s, s = wI (wI (wI (wI σ (tabX k) 1 (nI d)) 3 10 (-1)) 324 0 0) 326 k (nI d) := ⟨_, rfl⟩
            rw [← hτ]
            have hx : tabX k = 28 + 3 * k := rfl
            have hF : Fr (fun a b => (a = tabX k ∧ b = 1) ∨ (a = 3 ∧ b = 10) ∨ (a = 324 ∧ b = 0) ∨ (a = 326 ∧ b = k)) σ τ := by
              rw [hτ]
              exact Fr.w (Fr.w (Fr.w (Fr.w Fr.refl (by omega)) (by omega)) (by omega)) (by omega)
            have hMI : MI τ := by rw [hτ]; exact MI_n (MI_o (MI_o (MI_o h.1 (by omega)) (by omega)) (by omega)) (by omega) (by omega)
            have d6 : dm τ 326 k = d := md_val (by omega) (by omega) (by omega) (by rw [hτ, rI_same])
            have d6' : ∀ j, j ≠ k → dm τ 326 j = dm σ 326 j := fun j hj => dm_pt (hF.I _ _ (by omega))
            have g0 : dm τ 324 2 = dm σ 324 2 := dm_pt (hF.I _ _ (by omega))
            have gc : ∀ c, c = 325 ∨ c = 327 ∨ c = 328 ∨ c = 329 → dm τ c = dm σ c := fun c hc => dm_cp (fun j _ => hF.I _ _ (by omega))
            have s1 : rI τ (tabX k) 1 = nI d := by rw [hτ, rI_nk (by omega), rI_nk (by omega), rI_nk (by omega), rI_same]
            refine Inv_mut hMI ⟨?_, ?_⟩ (keepR (fun k j hp => hF.I k j (by omega)) (gR h)) (keepH (fun k j hp => hF.I k j (by omega)) (gH h)) (keepS (fun k j hp => hF.I k j (by omega)) (gS h)) (keepN (fun k j hp => hF.I k j (by omega)) (Nat.le_of_eq g0.symm) (gN h)) (TD_fr hF h.2.2.2.1 (by omega) (by omega) (by omega) (by omega) (fun j => by omega) (fun j => by omega) (by omega) (by omega) (by omega) (by omega) (fun j => by omega) (fun j => by omega)) (by rw [hτ, rI_nk (by omega), rI_nk (by omega), rI_same])
            · have w := (gT h).1
              unfold DWt at w ⊢
              rw [g0, gc 325 (by omega), gc 327 (by omega), gc 328 (by omega), gc 329 (by omega)]
              refine ⟨w.1, fun t ht => ?_, w.2.2⟩
              obtain ⟨x1, x2, x3⟩ := w.2.1 t ht
              refine ⟨x1, ?_, x3⟩
              by_cases e : t = k
              · rw [e, d6]; exact Or.inr hd
              · rw [d6' t e]; exact x2
            · have w := (gT h).2
              unfold CDt at w ⊢
              rw [g0, gc 325 (by omega), gc 327 (by omega), gc 328 (by omega), gc 329 (by omega), hF.I 3 2 (by omega)]
              refine ⟨w.1, fun t ht => ?_, fun t h1 h2 => ?_⟩
              · have ht2 : tabX t = 28 + 3 * t := rfl
                obtain ⟨x1, x2, x3, x4⟩ := w.2.1 t ht
                rw [hF.I (tabX t) 0 (by omega), hF.I (tabX t) 2 (by omega)]
                refine ⟨x1, ?_, x3, fun w hw => ?_⟩
                · by_cases e : t = k
                  · rw [e, d6, s1]; exact Or.inr ⟨hd, rfl⟩
                  · rw [d6' t e, hF.I (tabX t) 1 (by omega)]; exact x2
                · rw [hF.I (tabX t + 1) w (by omega)]
                  refine ⟨(x4 w hw).1, fun i hi => ?_⟩
                  rw [hF.I (tabX t + 2) _ (by omega)]
                  exact (x4 w hw).2 i hi
              · have ht2 : tabX t = 28 + 3 * t := rfl
                rw [hF.I (tabX t) 1 (by omega)]
                exact w.2.2 t h1 h2
        · exact old (tabX k) hf (fun z => cg ((gone_m1 hg).mp z)) (by rw [hm σ mT me.1, if_neg cg])
      · refine bad ?_ ?_
        · unfold f_X0_find
          rw [if_pos c0, if_pos w0, eT, if_pos ((nI_le2 (by omega) hk).mpr (by omega))]
        · unfold f_X13_away f_X13_away_41
          rw [if_pos w0]
          show bd (f_X13_within (nI k) 0 (rI σ 324 2 - 1) (wI σ 324 0 0)) _ = _
          rw [e_within, bd_some, ite_bI, mT, if_neg (fun z => lt ((nI_lt2 hk (by omega)).mp ((nI_sub1 (by omega)).mp z).2))]
    · by_cases w1 : a1 = 1
      · by_cases lt : k < dm σ 324 32
        · have hf : f_X0_find a1 (nI k) σ = some (some (shaX k), σ) := by
            unfold f_X0_find
            rw [if_pos c0, if_neg w0, if_pos w1, eS, if_neg (fun z => by have := (nI_le2 (by omega) hk).mp z; omega), gd_pos (nI_inb (by omega) (by omega)), nI_ix hk]
          have hg := ((gS h).2.2.1 k lt).2.2.2.2.2
          have me := md h.1 (k := 349) (j := k) (by omega) (by omega)
          have hm : ∀ s : jM, rI s 324 32 = nI (dm σ 324 32) → rI s 349 k = nI (dm σ 349 k) → f_X13_away a1 (nI k) s = some (if dm σ 349 k = 1000000 then (1, wI (wI s 324 0 0) 349 k (rI s 324 1)) else (0, wI s 324 0 0)) := by
            intro s q1 q2
            unfold f_X13_away f_X13_away_41
            rw [if_neg w0, if_pos w1]
            show bd (f_X13_within (nI k) 0 (rI s 324 32 - 1) (wI s 324 0 0)) _ = _
            rw [e_within, bd_some, ite_bI, q1, if_pos ((nI_sub1 (by omega)).mpr ⟨c0, (nI_lt2 hk (by omega)).mpr lt⟩), if_neg w0, if_pos w1]
            exact away_m (N := 60) rfl (by omega) (by omega) me.2 q2
          by_cases cg : dm σ 349 k = 1000000
          · refine new (shaX k) 349 k (by unfold shaX; omega) (by unfold shaX; omega) (by omega) (by omega) (by omega) hf ((gone_m1 hg).mpr cg) (fun s q1 q2 q3 => ?_) ?_
            · rw [hm s ((q3 32 (by omega)).trans mS) ((q2 k).trans me.1), if_pos cg, q1]
            · obtain ⟨τ, hτ⟩ : ∃ s, s = wI (wI (wI (wI σ (shaX k) 1 (nI d)) 3 10 (-1)) 324 0 0) 349 k (nI d) := ⟨_, rfl⟩
              rw [← hτ]
              have hx : shaX k = 190 + k := rfl
              have hF : Fr (fun a b => (a = shaX k ∧ b = 1) ∨ (a = 3 ∧ b = 10) ∨ (a = 324 ∧ b = 0) ∨ (a = 349 ∧ b = k)) σ τ := by
                rw [hτ]
                exact Fr.w (Fr.w (Fr.w (Fr.w Fr.refl (by omega)) (by omega)) (by omega)) (by omega)
              have hMI : MI τ := by rw [hτ]; exact MI_n (MI_o (MI_o (MI_o h.1 (by omega)) (by omega)) (by omega)) (by omega) (by omega)
              have d6 : dm τ 349 k = d := md_val (by omega) (by omega) (by omega) (by rw [hτ, rI_same])
              have d6' : ∀ j, j ≠ k → dm τ 349 j = dm σ 349 j := fun j hj => dm_pt (hF.I _ _ (by omega))
              have g0 : dm τ 324 32 = dm σ 324 32 := dm_pt (hF.I _ _ (by omega))
              have gc : ∀ c, 344 ≤ c → c ≤ 348 → dm τ c = dm σ c := fun c h1 h2 => dm_cp (fun j _ => hF.I _ _ (by omega))
              have s1 : rI τ (shaX k) 1 = nI d := by rw [hτ, rI_nk (by omega), rI_nk (by omega), rI_nk (by omega), rI_same]
              refine Inv_mut hMI (keepT (fun k j hp => hF.I k j (by omega)) (gT h)) (keepR (fun k j hp => hF.I k j (by omega)) (gR h)) (keepH (fun k j hp => hF.I k j (by omega)) (gH h)) ⟨?_, ?_⟩ (keepN (fun k j hp => hF.I k j (by omega)) (Nat.le_of_eq (dm_pt (hF.I _ _ (by omega))).symm) (gN h)) (TD_fr hF h.2.2.2.1 (by omega) (by omega) (by omega) (by omega) (fun j => by omega) (fun j => by omega) (by omega) (by omega) (by omega) (by omega) (fun j => by omega) (fun j => by omega)) (by rw [hτ, rI_nk (by omega), rI_nk (by omega), rI_same])
              · have w := (gS h).1
                unfold DWs at w ⊢
                rw [g0, gc 344 (by omega) (by omega), gc 345 (by omega) (by omega), gc 346 (by omega) (by omega), gc 347 (by omega) (by omega), gc 348 (by omega) (by omega)]
                refine ⟨w.1, fun t ht => ?_⟩
                obtain ⟨x1, x2, x3, x4, x5, x6, x7⟩ := w.2 t ht
                refine ⟨x1, x2, x3, x4, x5, x6, ?_⟩
                by_cases e : t = k
                · rw [e, d6]; exact Or.inr hd
                · rw [d6' t e]; exact x7
              · have w := (gS h).2
                unfold CDs at w ⊢
                rw [g0, gc 344 (by omega) (by omega), gc 345 (by omega) (by omega), gc 346 (by omega) (by omega), gc 347 (by omega) (by omega), gc 348 (by omega) (by omega), hF.I 3 6 (by omega)]
                refine ⟨w.1, fun t ht => ?_, fun t h1 h2 => ?_⟩
                · have ht2 : shaX t = 190 + t := rfl
                  obtain ⟨x1, x2, x3, x4, x5, x6⟩ := w.2.1 t ht
                  rw [hF.I (shaX t) 0 (by omega), hF.I (shaX t) 2 (by omega), hF.I (shaX t) 3 (by omega), hF.I (shaX t) 4 (by omega), hF.I (shaX t) 5 (by omega)]
                  refine ⟨x1, x2, x3, x4, x5, ?_⟩
                  by_cases e : t = k
                  · rw [e, d6, s1]; exact Or.inr ⟨hd, rfl⟩
                  · rw [d6' t e, hF.I (shaX t) 1 (by omega)]; exact x6
                · have ht2 : shaX t = 190 + t := rfl
                  rw [hF.I (shaX t) 1 (by omega)]
                  exact w.2.2 t h1 h2
          · exact old (shaX k) hf (fun z => cg ((gone_m1 hg).mp z)) (by rw [hm σ mS me.1, if_neg cg])
        · refine bad ?_ ?_
          · unfold f_X0_find
            rw [if_pos c0, if_neg w0, if_pos w1, eS, if_pos ((nI_le2 (by omega) hk).mpr (by omega))]
          · unfold f_X13_away f_X13_away_41
            rw [if_neg w0, if_pos w1]
            show bd (f_X13_within (nI k) 0 (rI σ 324 32 - 1) (wI σ 324 0 0)) _ = _
            rw [e_within, bd_some, ite_bI, mS, if_neg (fun z => lt ((nI_lt2 hk (by omega)).mp ((nI_sub1 (by omega)).mp z).2))]
      · by_cases w2 : a1 = 2
        · by_cases lt : k < dm σ 324 55
          · have hf : f_X0_find a1 (nI k) σ = some (some (namX k), σ) := by
              unfold f_X0_find
              rw [if_pos c0, if_neg w0, if_neg w1, if_pos w2, eN, if_neg (fun z => by have := (nI_le2 (by omega) hk).mp z; omega), gd_pos (nI_inb (by omega) (by omega)), nI_ix hk]
            have hg := ((gN h).2.2.1 k lt).2.2.2.1
            have me := md h.1 (k := 363) (j := k) (by omega) (by omega)
            have hm : ∀ s : jM, rI s 324 55 = nI (dm σ 324 55) → rI s 363 k = nI (dm σ 363 k) → f_X13_away a1 (nI k) s = some (if dm σ 363 k = 1000000 then (1, wI (wI s 324 0 0) 363 k (rI s 324 1)) else (0, wI s 324 0 0)) := by
              intro s q1 q2
              unfold f_X13_away f_X13_away_41
              rw [if_neg w0, if_neg w1, if_pos w2]
              show bd (f_X13_within (nI k) 0 (rI s 324 55 - 1) (wI s 324 0 0)) _ = _
              rw [e_within, bd_some, ite_bI, q1, if_pos ((nI_sub1 (by omega)).mpr ⟨c0, (nI_lt2 hk (by omega)).mpr lt⟩), if_neg w0, if_neg w1]
              exact away_m (N := 6) rfl (by omega) (by omega) me.2 q2
            by_cases cg : dm σ 363 k = 1000000
            · refine new (namX k) 363 k (by unfold namX; omega) (by unfold namX; omega) (by omega) (by omega) (by omega) hf ((gone_m1 hg).mpr cg) (fun s q1 q2 q3 => ?_) ?_
              · rw [hm s ((q3 55 (by omega)).trans mN) ((q2 k).trans me.1), if_pos cg, q1]
              · obtain ⟨τ, hτ⟩ : ∃ s, s = wI (wI (wI (wI σ (namX k) 1 (nI d)) 3 10 (-1)) 324 0 0) 363 k (nI d) := ⟨_, rfl⟩
                rw [← hτ]
                have hx : namX k = 250 + 2 * k := rfl
                have hF : Fr (fun a b => (a = namX k ∧ b = 1) ∨ (a = 3 ∧ b = 10) ∨ (a = 324 ∧ b = 0) ∨ (a = 363 ∧ b = k)) σ τ := by
                  rw [hτ]
                  exact Fr.w (Fr.w (Fr.w (Fr.w Fr.refl (by omega)) (by omega)) (by omega)) (by omega)
                have hMI : MI τ := by rw [hτ]; exact MI_n (MI_o (MI_o (MI_o h.1 (by omega)) (by omega)) (by omega)) (by omega) (by omega)
                have d6 : dm τ 363 k = d := md_val (by omega) (by omega) (by omega) (by rw [hτ, rI_same])
                have d6' : ∀ j, j ≠ k → dm τ 363 j = dm σ 363 j := fun j hj => dm_pt (hF.I _ _ (by omega))
                have g0 : dm τ 324 55 = dm σ 324 55 := dm_pt (hF.I _ _ (by omega))
                have g2 : dm τ 324 2 = dm σ 324 2 := dm_pt (hF.I _ _ (by omega))
                have gc : ∀ c, 359 ≤ c → c ≤ 362 → dm τ c = dm σ c := fun c h1 h2 => dm_cp (fun j _ => hF.I _ _ (by omega))
                have s1 : rI τ (namX k) 1 = nI d := by rw [hτ, rI_nk (by omega), rI_nk (by omega), rI_nk (by omega), rI_same]
                refine Inv_mut hMI (keepT (fun k j hp => hF.I k j (by omega)) (gT h)) (keepR (fun k j hp => hF.I k j (by omega)) (gR h)) (keepH (fun k j hp => hF.I k j (by omega)) (gH h)) (keepS (fun k j hp => hF.I k j (by omega)) (gS h)) ⟨?_, ?_⟩ (TD_fr hF h.2.2.2.1 (by omega) (by omega) (by omega) (by omega) (fun j => by omega) (fun j => by omega) (by omega) (by omega) (by omega) (by omega) (fun j => by omega) (fun j => by omega)) (by rw [hτ, rI_nk (by omega), rI_nk (by omega), rI_same])
                · have w := (gN h).1
                  unfold DWn at w ⊢
                  rw [g0, g2, gc 359 (by omega) (by omega), gc 360 (by omega) (by omega), gc 361 (by omega) (by omega), gc 362 (by omega) (by omega)]
                  refine ⟨w.1, fun t ht => ?_⟩
                  obtain ⟨x1, x2, x3, x4, x5, x6⟩ := w.2 t ht
                  refine ⟨x1, x2, x3, x4, ?_, x6⟩
                  by_cases e : t = k
                  · rw [e, d6]; exact Or.inr hd
                  · rw [d6' t e]; exact x5
                · have w := (gN h).2
                  unfold CDn at w ⊢
                  rw [g0, gc 359 (by omega) (by omega), gc 360 (by omega) (by omega), gc 361 (by omega) (by omega), gc 362 (by omega) (by omega), hF.I 3 8 (by omega)]
                  refine ⟨w.1, fun t ht => ?_, fun t h1 h2 => ?_⟩
                  · have ht2 : namX t = 250 + 2 * t := rfl
                    obtain ⟨x1, x2, x3, x4, x5⟩ := w.2.1 t ht
                    rw [hF.I (namX t) 0 (by omega), hF.I (namX t) 3 (by omega), hF.I (namX t) 4 (by omega)]
                    refine ⟨x1, x2, x3, ?_, fun i hi => ?_⟩
                    · by_cases e : t = k
                      · rw [e, d6, s1]; exact Or.inr ⟨hd, rfl⟩
                      · rw [d6' t e, hF.I (namX t) 1 (by omega)]; exact x4
                    · rw [hF.I (namX t + 1) i (by omega)]
                      exact x5 i hi
                  · have ht2 : namX t = 250 + 2 * t := rfl
                    rw [hF.I (namX t) 1 (by omega)]
                    exact w.2.2 t h1 h2
            · exact old (namX k) hf (fun z => cg ((gone_m1 hg).mp z)) (by rw [hm σ mN me.1, if_neg cg])
          · refine bad ?_ ?_
            · unfold f_X0_find
              rw [if_pos c0, if_neg w0, if_neg w1, if_pos w2, eN, if_pos ((nI_le2 (by omega) hk).mpr (by omega))]
            · unfold f_X13_away f_X13_away_41
              rw [if_neg w0, if_neg w1, if_pos w2]
              show bd (f_X13_within (nI k) 0 (rI σ 324 55 - 1) (wI σ 324 0 0)) _ = _
              rw [e_within, bd_some, ite_bI, mN, if_neg (fun z => lt ((nI_lt2 hk (by omega)).mp ((nI_sub1 (by omega)).mp z).2))]
        · refine bad ?_ ?_
          · unfold f_X0_find
            rw [if_pos c0, if_neg w0, if_neg w1, if_neg w2]
          · unfold f_X13_away f_X13_away_41
            have g : ¬ (0 ≤ nI k ∧ nI k ≤ (0 : Int32) - 1) := fun z => absurd ((nI_sub1 (n := 0) (by omega)).mp z).2 (fun y => by have := (nI_lt2 hk (by omega)).mp y; omega)
            rw [if_neg w0, if_neg w1, if_neg w2, e_within, bd_some, ite_bI, if_neg g]
  · refine bad ?_ ?_
    · unfold f_X0_find
      rw [if_neg c0]
    · have e : ∀ s x, f_X13_away_41 a1 a2 x s = some (0, s) := by
        intro s x
        unfold f_X13_away_41
        rw [e_within, bd_some, ite_bI, if_neg (fun z => c0 z.1)]
      unfold f_X13_away
      rw [e, e, e, e]
      split
      · rfl
      · split
        · rfl
        · split <;> rfl
theorem e_signAt {t w i : Nat} (hw : 6 * w + i < 48) (σ : jM) : f_X10_signAt t (nI w) (nI i) σ = some (rI σ (tabX t + 2) (6 * w + i), σ) := by
  unfold f_X10_signAt
  have e : nI w * 6 + nI i = nI (6 * w + i) := by rw [show (6 : Int32) = nI 6 from rfl, pk_mul, nI_add, Nat.mul_comm]
  rw [e, gd_pos (nI_inb hw (by omega)), nI_ix (by omega)]
theorem e_hasWord (h : Inv K σ) (a1 a2 : Int32) : ∃ c : Prop, ∃ _ : Decidable c, f_X0_hasWord a1 a2 σ = some (bI c, σ) ∧ (c ↔ ∃ t w, t < dm σ 324 2 ∧ w < dm σ 327 t ∧ a1 = nI t ∧ a2 = nI w) := by
  have hT := (gT h).1.1
  by_cases c : ∃ t w, t < dm σ 324 2 ∧ w < dm σ 327 t ∧ a1 = nI t ∧ a2 = nI w
  · refine ⟨True, inferInstance, ?_, ⟨fun _ => c, fun _ => trivial⟩⟩
    obtain ⟨t, w, h1, h2, rfl, rfl⟩ := c
    have hb := ((gT h).1.2.1 t h1).2.2.2.1
    unfold f_X0_hasWord f_X0_hasWord_29 f_X0_hasWord_30
    rw [e_hasTablet, bd_some, ite_bI, (gT h).2.1, if_pos ⟨nI_pos' (by omega), (nI_lt2 (by omega) (by omega)).mpr h1⟩, if_neg (nI_pos (by omega)), gd_pos (nI_inb (by omega) (by omega))]
    simp only [nI_ix (show t < 2147483648 by omega)]
    rw [((gT h).2.2.1 t h1).2.2.1, if_neg (fun z => by have := (nI_le2 (by omega) (by omega)).mp z; omega), bI_pos trivial, gd_T2]
  · refine ⟨False, inferInstance, ?_, ⟨fun z => z.elim, fun z => c z⟩⟩
    unfold f_X0_hasWord f_X0_hasWord_29 f_X0_hasWord_30
    rw [e_hasTablet, bd_some, ite_bI, (gT h).2.1, bI_neg (fun z => z)]
    by_cases c1 : 0 ≤ a1 ∧ a1 < nI (dm σ 324 2)
    · obtain ⟨t, h1, rfl⟩ := i_lt c1.1 c1.2 (by omega)
      have hb := ((gT h).1.2.1 t h1).2.2.2.1
      rw [if_pos c1]
      by_cases c2 : a2 < 0
      · rw [if_pos c2, gd_0]
      · rw [if_neg c2, gd_pos (nI_inb (by omega) (by omega))]
        simp only [nI_ix (show t < 2147483648 by omega)]
        rw [((gT h).2.2.1 t h1).2.2.1]
        obtain ⟨w, hw, rfl⟩ := i_of (i_nlt.mp c2)
        rw [if_pos ((nI_le2 (by omega) hw).mpr (by
          rcases Nat.lt_or_ge w (dm σ 327 t) with z | z
          · exact absurd ⟨t, w, h1, z, rfl, rfl⟩ c
          · exact z)), gd_T]
    · rw [if_neg c1, gd_0]
theorem pz_int {x : Nat} (h : x < 2147483648) : (pz x).toInt64 = (pz x).toInt64 := rfl
set_option maxHeartbeats 4000000 in
theorem op_told (h : Inv K σ) (hK : KX K) (a1 a2 a3 a4 a5 : Int32) : ∃ σ', lw_op 10 a1 a2 a3 a4 a5 σ σ' ∧ Inv K σ' := by
  have hT := (gT h).1.1
  have mT : rI σ 324 2 = nI (dm σ 324 2) := (md h.1 (by omega) (by omega)).1
  obtain ⟨c, ic, ec, hc⟩ := e_hasWord h a1 a2
  by_cases cc : ∃ t w i, t < dm σ 324 2 ∧ w < dm σ 327 t ∧ i < dm σ 328 (8 * t + w) ∧ a1 = nI t ∧ a2 = nI w ∧ a3 = nI i
  · obtain ⟨t, w, i, h1, h2, h3, rfl, rfl, rfl⟩ := cc
    have ct : c := hc.mpr ⟨t, w, h1, h2, rfl, rfl⟩
    obtain ⟨b1, b2, b3, b4, b5⟩ := (gT h).1.2.1 t h1
    obtain ⟨b6, b7⟩ := b5 w h2
    obtain ⟨x1, x2, x3, x4⟩ := (gT h).2.2.1 t h1
    obtain ⟨y1, y2⟩ := x4 w h2
    have m7 : rI σ 327 t = nI (dm σ 327 t) := (md h.1 (by omega) (by omega)).1
    have m8 : rI σ 328 (8 * t + w) = nI (dm σ 328 (8 * t + w)) := (md h.1 (by omega) (by omega)).1
    have m9 : rI σ 329 (6 * (8 * t + w) + i) = pz (dm σ 329 (6 * (8 * t + w) + i)) := (md9 h.1 (by omega)).1
    have e1 : (8 : Int32) * nI t + nI w = nI (8 * t + w) := by rw [show (8 : Int32) = nI 8 from rfl, pk_mul, nI_add]
    have e2 : (6 : Int32) * nI (8 * t + w) + nI i = nI (6 * (8 * t + w) + i) := by rw [show (6 : Int32) = nI 6 from rfl, pk_mul, nI_add]
    have c1 : f_X12_told (nI t) (nI w) (nI i) σ = some (some (pz (dm σ 329 (6 * (8 * t + w) + i))), σ) := by
      unfold f_X12_told
      rw [ec, bd_some, if_neg (fun z => bI_eq0.mp z ct), if_neg (nI_pos (by omega)), gd_pos (nI_inb (by omega) (by omega)), gd_pos (nI_inb (by omega) (by omega))]
      simp only [nI_ix (show t < 2147483648 by omega), nI_ix (show w < 2147483648 by omega)]
      rw [y1, if_pos ((nI_lt2 (by omega) (by omega)).mpr h3), e_signAt (by omega), bd_some, y2 i h3]
    have c2 : ∀ s : jM, rI s 324 2 = rI σ 324 2 → (∀ j, rI s 327 j = rI σ 327 j) → (∀ j, rI s 328 j = rI σ 328 j) → (∀ j, rI s 329 j = rI σ 329 j) → f_X13_told (nI t) (nI w) (nI i) s = some (pz (dm σ 329 (6 * (8 * t + w) + i)), wI s 324 0 0) := by
      intro s q1 q2 q3 q4
      unfold f_X13_told
      show bd (f_X13_within (nI t) 0 (rI s 324 2 - 1) (wI s 324 0 0)) _ = _
      rw [e_within, bd_some, ite_bI, q1, mT, if_pos ((nI_sub1 (by omega)).mpr ⟨nI_pos' (by omega), (nI_lt2 (by omega) (by omega)).mpr h1⟩), gd_pos (nI_inb (by omega) (by omega)), nI_ix (by omega)]
      show bd (f_X13_within (nI w) 0 (rI s 327 t - 1) (wI s 324 0 0)) _ = _
      rw [e_within, bd_some, ite_bI, q2, m7, if_pos ((nI_sub1 (by omega)).mpr ⟨nI_pos' (by omega), (nI_lt2 (by omega) (by omega)).mpr h2⟩), e1, gd_pos (nI_inb (by omega) (by omega)), nI_ix (by omega)]
      show bd (f_X13_within (nI i) 0 (rI s 328 (8 * t + w) - 1) (wI s 324 0 0)) _ = _
      rw [e_within, bd_some, ite_bI, q3, m8, if_pos ((nI_sub1 (by omega)).mpr ⟨nI_pos' (by omega), (nI_lt2 (by omega) (by omega)).mpr h3⟩), e2, gd_pos (nI_inb (by omega) (by omega)), nI_ix (by omega)]
      show some (rI s 329 (6 * (8 * t + w) + i), _) = _
      rw [q4, m9]
    have hk : Inv K (wL σ 375 0 (pz (dm σ 329 (6 * (8 * t + w) + i))).toInt64) := Inv_keep hK h (fun k j hp => rfl) (fun k j p q => ⟨rfl, rL_nk (by omega)⟩) (fun j => rfl) rfl rfl h.2.2.2.1 (Int32.le_refl _)
    refine ⟨_, ⟨_, _, _, c1, c2 _ rfl (fun j => rfl) (fun j => rfl) (fun j => rfl), rfl, ?_⟩, Inv_thr hK hk 0⟩
    intro _
    exact rL_same _ _ _ _
  · have c1 : f_X12_told a1 a2 a3 σ = some (none, σ) := by
      unfold f_X12_told
      rw [ec, bd_some]
      by_cases ct : c
      · obtain ⟨t, w, h1, h2, rfl, rfl⟩ := hc.mp ct
        obtain ⟨b1, b2, b3, b4, b5⟩ := (gT h).1.2.1 t h1
        obtain ⟨b6, b7⟩ := b5 w h2
        rw [if_neg (fun z => bI_eq0.mp z ct)]
        by_cases c3 : a3 < 0
        · rw [if_pos c3]
        · obtain ⟨i, hi, rfl⟩ := i_of (i_nlt.mp c3)
          rw [if_neg c3, gd_pos (nI_inb (by omega) (by omega)), gd_pos (nI_inb (by omega) (by omega))]
          simp only [nI_ix (show t < 2147483648 by omega), nI_ix (show w < 2147483648 by omega)]
          rw [(((gT h).2.2.1 t h1).2.2.2 w h2).1, if_neg (fun z => cc ⟨t, w, i, h1, h2, (nI_lt2 hi (by omega)).mp z, rfl, rfl, rfl⟩)]
      · rw [if_pos (bI_eq0.mpr ct)]
    have c2 : f_X13_told a1 a2 a3 σ = some (0, wI (wI σ 324 0 0) 324 0 1) := by
      unfold f_X13_told f_X13_told_56
      show bd (f_X13_within a1 0 (rI σ 324 2 - 1) (wI σ 324 0 0)) _ = _
      rw [e_within, bd_some, ite_bI, mT]
      by_cases d1 : 0 ≤ a1 ∧ a1 ≤ nI (dm σ 324 2) - 1
      · obtain ⟨t, h1, rfl⟩ := i_lt ((nI_sub1 (by omega)).mp d1).1 ((nI_sub1 (by omega)).mp d1).2 (by omega)
        obtain ⟨b1, b2, b3, b4, b5⟩ := (gT h).1.2.1 t h1
        have m7 : rI σ 327 t = nI (dm σ 327 t) := (md h.1 (by omega) (by omega)).1
        rw [if_pos d1, gd_pos (nI_inb (by omega) (by omega)), nI_ix (by omega)]
        show bd (f_X13_within a2 0 (rI σ 327 t - 1) (wI σ 324 0 0)) _ = _
        rw [e_within, bd_some, ite_bI, m7]
        by_cases d2 : 0 ≤ a2 ∧ a2 ≤ nI (dm σ 327 t) - 1
        · obtain ⟨w, h2, rfl⟩ := i_lt ((nI_sub1 (by omega)).mp d2).1 ((nI_sub1 (by omega)).mp d2).2 (by omega)
          obtain ⟨b6, b7⟩ := b5 w h2
          have m8 : rI σ 328 (8 * t + w) = nI (dm σ 328 (8 * t + w)) := (md h.1 (by omega) (by omega)).1
          have e1 : (8 : Int32) * nI t + nI w = nI (8 * t + w) := by rw [show (8 : Int32) = nI 8 from rfl, pk_mul, nI_add]
          rw [if_pos d2, e1, gd_pos (nI_inb (by omega) (by omega)), nI_ix (by omega)]
          show bd (f_X13_within a3 0 (rI σ 328 (8 * t + w) - 1) (wI σ 324 0 0)) _ = _
          rw [e_within, bd_some, ite_bI, m8, if_neg]
          intro z
          obtain ⟨i, h3, rfl⟩ := i_lt ((nI_sub1 (by omega)).mp z).1 ((nI_sub1 (by omega)).mp z).2 (by omega)
          exact cc ⟨t, w, i, h1, h2, h3, rfl, rfl, rfl⟩
        · rw [if_neg d2]
      · rw [if_neg d1]
    refine ⟨_, ⟨_, _, _, c1, c2, rfl, fun z => absurd z (show ¬ (1 : Int32) = 0 by decide)⟩, Inv_thr hK (Inv_thr hK h 0) 1⟩
end OPS4
