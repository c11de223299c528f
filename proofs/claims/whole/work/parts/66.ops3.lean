/-! holds, share -/
section OPS3
variable {K : dD → Nat → jM → Prop} {σ : jM}
theorem MI_w (h : MI σ) {k j : Nat} {v : Int32} (hv : k ≠ 329 → 0 ≤ v) (h9 : k = 329 → v = -1 ∨ inb v 40) : MI (wI σ k j v) := by
  intro k' j' hp
  by_cases e : k' = k ∧ j' = j
  · obtain ⟨rfl, rfl⟩ := e
    rw [rI_same]
    exact ⟨hv, h9⟩
  · rw [rI_ne (fun a b => e ⟨a, b⟩)]
    exact h k' j' hp
theorem MI_n (h : MI σ) {k j n : Nat} (hn : n < 2147483648) (hk : k ≠ 329) : MI (wI σ k j (nI n)) := MI_w h (fun _ => nI_pos' (by omega)) (fun z => absurd z hk)
theorem MI_o (h : MI σ) {k j : Nat} {v : Int32} (hk : ¬ pex k j) : MI (wI σ k j v) := by
  intro k' j' hp
  rw [rI_ne (fun a b => hk (by subst a; subst b; exact hp))]
  exact h k' j' hp
theorem i_min {a b : Nat} (ha : a < 2147483648) (hb : b < 2147483648) : (if nI b < nI a then nI b else nI a) = nI (min a b) := by
  by_cases h : b < a
  · rw [if_pos ((nI_lt2 hb ha).mpr h), Nat.min_eq_right (by omega)]
  · rw [if_neg (fun z => h ((nI_lt2 hb ha).mp z)), Nat.min_eq_left (by omega)]
set_option maxHeartbeats 4000000 in
theorem op_holds (h : Inv K σ) (hK : KX K) (a1 a2 a3 a4 a5 : Int32) : ∃ σ', lw_op 8 a1 a2 a3 a4 a5 σ σ' ∧ Inv K σ' := by
  have e3 : (0 ≤ a1 ∧ a1 ≤ 3) ↔ (0 ≤ a1 ∧ a1 < 4) := and_congr Iff.rfl (i_lts (n := 3) (by omega)).symm
  obtain ⟨d, hd, ed1, ed2⟩ := h.2.2.2.1.1
  obtain ⟨wH, cH⟩ := gH h
  have en : rI σ 8 1 = nI (dm σ 324 25) := cH.1
  have en2 : rI σ 324 25 = nI (dm σ 324 25) := (md h.1 (by omega) (by omega)).1
  have hnl : dm σ 324 25 ≤ 200 := wH.1
  by_cases c : (0 ≤ a1 ∧ a1 < 4) ∧ (0 ≤ a2 ∧ a2 < 40) ∧ (0 ≤ a3 ∧ a3 < 40) ∧ ¬ a2 = a3 ∧ (0 ≤ a4 ∧ a4 ≤ 2) ∧ dm σ 324 25 < 200
  · obtain ⟨c1, c2, c3, c4, c5, c6⟩ := c
    obtain ⟨x, hx, rfl⟩ := i_lt (n := 4) c1.1 c1.2 (by omega)
    obtain ⟨a, ha, rfl⟩ := i_lt (n := 40) c2.1 c2.2 (by omega)
    obtain ⟨b, hb, rfl⟩ := i_lt (n := 40) c3.1 c3.2 (by omega)
    obtain ⟨v, hv, rfl⟩ := i_le (n := 2) c5.1 c5.2 (by omega)
    have hab : a ≠ b := fun z => c4 (by rw [z])
    generalize hn : dm σ 324 25 = n at *
    have lt200 : nI n < 200 := (nI_lt2 (b := 200) (by omega) (by omega)).mpr c6
    have ib : inb (nI n) 200 := nI_inb c6 (by omega)
    obtain ⟨σ1, hσ1⟩ : ∃ s, s = wI (wI (wI (wI (wI (wI (wI σ 10 n (nI d)) 11 n (nI x)) 12 n (nI (min a b))) 13 n (nI (max a b))) 14 n (nI v)) 8 1 (nI (n + 1))) 3 10 (-1) := ⟨_, rfl⟩
    obtain ⟨τ, hτ⟩ : ∃ s, s = wI (wI (wI (wI (wI (wI (wI σ1 324 0 0) 338 n (nI x)) 339 n (nI (min a b))) 340 n (nI (max a b))) 341 n (nI v)) 342 n (nI d)) 324 25 (nI (n + 1)) := ⟨_, rfl⟩
    refine ⟨τ, ⟨1, σ1, ?_, ?_⟩, ?_⟩
    · unfold f_X12_holds
      rw [e_isHand, bd_some, ite_bI, if_pos c1, e_isSign, bd_some, ite_bI, if_pos c2, e_isSign, bd_some, ite_bI, if_pos c3, if_neg c4, if_neg (i_nlt.mpr c5.1), if_pos c5.2, en, if_pos lt200]
      have e : f_X5_hear (rI σ 3 0) (nI x) (nI a) (nI b) (nI v) σ = some ((), wI (wI (wI (wI (wI (wI σ 10 n (nI d)) 11 n (nI x)) 12 n (nI (min a b))) 13 n (nI (max a b))) 14 n (nI v)) 8 1 (nI (n + 1))) := by
        rw [q_X5_hear]
        simp only [en, gd_pos ib, ed2, i_min (show a < 2147483648 by omega) (show b < 2147483648 by omega), nI_max (show a < 2147483648 by omega) (show b < 2147483648 by omega), nI_ix (show n < 2147483648 by omega), nI_1]
      rw [e, bd_some, e_forget, bd_some, hσ1]
    · have f1 : rI (wI σ1 324 0 0) 324 25 = nI n := by rw [hσ1]; exact en2
      have f2 : rI (wI σ1 324 0 0) 324 1 = nI d := by rw [hσ1]; exact ed1
      unfold f_X13_holds
      rw [e_within, bd_some, ite_bI, if_pos (e3.mpr c1), e_isSignNumber, bd_some, ite_bI, if_pos c2, e_isSignNumber, bd_some, ite_bI, if_pos c3, if_neg c4, e_within, bd_some, ite_bI, if_pos c5, f1, if_neg (fun z => by have := (nI_eq2 (b := 200) (by omega) (by omega)).mp z; omega), gd_pos ib, nI_ix (by omega)]
      have g1 : rI (wI (wI σ1 324 0 0) 338 n (nI x)) 324 25 = nI n := f1
      rw [g1]
      have key : ∀ lo hi : Int32, lo = nI (min a b) → hi = nI (max a b) → f_X13_holds_102 (nI v) (rI (wI (wI (wI σ1 324 0 0) 338 n (nI x)) 339 n lo) 324 25) hi (wI (wI (wI σ1 324 0 0) 338 n (nI x)) 339 n lo) = some (1, τ) := by
        intro lo hi e1 e2
        subst e1; subst e2
        rw [q_X13_holds_102, show rI (wI (wI (wI σ1 324 0 0) 338 n (nI x)) 339 n (nI (min a b))) 324 25 = nI n from f1, show rI (wI (wI (wI σ1 324 0 0) 338 n (nI x)) 339 n (nI (min a b))) 324 1 = nI d from f2]
        simp only [gd_pos ib, nI_ix (show n < 2147483648 by omega), nI_1]
        rw [hτ]
      by_cases lt : b ≤ a
      · rw [if_pos ((nI_le2 (by omega) (by omega)).mpr lt)]
        unfold f_X13_holds_83
        rw [gd_pos ib, if_pos ((nI_le2 (by omega) (by omega)).mpr lt), nI_ix (by omega)]
        exact key _ _ (by rw [Nat.min_eq_right lt]) (by rw [Nat.max_eq_left lt])
      · have lt2 : ¬ nI b ≤ nI a := fun z => lt ((nI_le2 (by omega) (by omega)).mp z)
        rw [if_neg lt2]
        unfold f_X13_holds_83
        rw [gd_pos ib, if_neg lt2, nI_ix (by omega)]
        exact key _ _ (by rw [Nat.min_eq_left (by omega)]) (by rw [Nat.max_eq_right (by omega)])
    · have hF : Fr (fun k j => ((9 < k ∧ k < 15) ∧ j = n) ∨ (k = 8 ∧ j = 1) ∨ (k = 3 ∧ j = 10) ∨ (k = 324 ∧ (j = 0 ∨ j = 25)) ∨ ((337 < k ∧ k < 343) ∧ j = n)) σ τ := by
        rw [hτ, hσ1]
        exact Fr.w (Fr.w (Fr.w (Fr.w (Fr.w (Fr.w (Fr.w (Fr.w (Fr.w (Fr.w (Fr.w (Fr.w (Fr.w (Fr.w Fr.refl (by omega)) (by omega)) (by omega)) (by omega)) (by omega)) (by omega)) (by omega)) (by omega)) (by omega)) (by omega)) (by omega)) (by omega)) (by omega)) (by omega)
      have hMI : MI τ := by
        rw [hτ, hσ1]
        exact MI_n (MI_n (MI_n (MI_n (MI_n (MI_n (MI_o (MI_o (MI_o (MI_o (MI_o (MI_o (MI_o (MI_o h.1 (by omega)) (by omega)) (by omega)) (by omega)) (by omega)) (by omega)) (by omega)) (by omega)) (by omega) (by omega)) (by omega) (by omega)) (by omega) (by omega)) (by omega) (by omega)) (by omega) (by omega)) (by omega) (by omega)
      have dn : dm τ 324 25 = n + 1 := md_val (by omega) (by omega) (by omega) (by rw [hτ]; exact rI_same _ _ _ _)
      have d8 : dm τ 338 n = x := md_val (by omega) (by omega) (by omega) (by rw [hτ, rI_nk (by omega), rI_nk (by omega), rI_nk (by omega), rI_nk (by omega), rI_nk (by omega), rI_same])
      have d9 : dm τ 339 n = min a b := md_val (by omega) (by omega) (by omega) (by rw [hτ, rI_nk (by omega), rI_nk (by omega), rI_nk (by omega), rI_nk (by omega), rI_same])
      have d10 : dm τ 340 n = max a b := md_val (by omega) (by omega) (by omega) (by rw [hτ, rI_nk (by omega), rI_nk (by omega), rI_nk (by omega), rI_same])
      have d11 : dm τ 341 n = v := md_val (by omega) (by omega) (by omega) (by rw [hτ, rI_nk (by omega), rI_nk (by omega), rI_same])
      have d12 : dm τ 342 n = d := md_val (by omega) (by omega) (by omega) (by rw [hτ, rI_nk (by omega), rI_same])
      have dk : ∀ k j, j ≠ n → k ≠ 324 → dm τ k j = dm σ k j := fun k j hj hk => by
        by_cases h3 : 324 < k
        · exact dm_pt (hF.I k j (by omega))
        · unfold dm
          rw [if_neg (by omega), if_neg (by omega)]
      have c10 : rI τ 10 n = nI d := by rw [hτ, hσ1]; rw [rI_nk (by omega), rI_nk (by omega), rI_nk (by omega), rI_nk (by omega), rI_nk (by omega), rI_nk (by omega), rI_nk (by omega), rI_nk (by omega), rI_nk (by omega), rI_nk (by omega), rI_nk (by omega), rI_nk (by omega), rI_nk (by omega), rI_same]
      have c11 : rI τ 11 n = nI x := by rw [hτ, hσ1]; rw [rI_nk (by omega), rI_nk (by omega), rI_nk (by omega), rI_nk (by omega), rI_nk (by omega), rI_nk (by omega), rI_nk (by omega), rI_nk (by omega), rI_nk (by omega), rI_nk (by omega), rI_nk (by omega), rI_nk (by omega), rI_same]
      have c12 : rI τ 12 n = nI (min a b) := by rw [hτ, hσ1]; rw [rI_nk (by omega), rI_nk (by omega), rI_nk (by omega), rI_nk (by omega), rI_nk (by omega), rI_nk (by omega), rI_nk (by omega), rI_nk (by omega), rI_nk (by omega), rI_nk (by omega), rI_nk (by omega), rI_same]
      have c13 : rI τ 13 n = nI (max a b) := by rw [hτ, hσ1]; rw [rI_nk (by omega), rI_nk (by omega), rI_nk (by omega), rI_nk (by omega), rI_nk (by omega), rI_nk (by omega), rI_nk (by omega), rI_nk (by omega), rI_nk (by omega), rI_nk (by omega), rI_same]
      have c14 : rI τ 14 n = nI v := by rw [hτ, hσ1]; rw [rI_nk (by omega), rI_nk (by omega), rI_nk (by omega), rI_nk (by omega), rI_nk (by omega), rI_nk (by omega), rI_nk (by omega), rI_nk (by omega), rI_nk (by omega), rI_same]
      have c81 : rI τ 8 1 = nI (n + 1) := by rw [hτ, hσ1]; rfl
      have hv1 : rI τ 3 10 = -1 := by rw [hτ, hσ1]; rfl
      have hT : TD τ := by rw [hτ, hσ1]; exact ⟨h.2.2.2.1.1, h.2.2.2.1.2.1, h.2.2.2.1.2.2.1, h.2.2.2.1.2.2.2⟩
      refine Inv_mut hMI (keepT (fun k j hp => hF.I k j (by omega)) (gT h)) (keepR (fun k j hp => hF.I k j (by omega)) (gR h)) ⟨?_, ?_⟩ (keepS (fun k j hp => hF.I k j (by omega)) (gS h)) (keepN (fun k j hp => hF.I k j (by omega)) (Nat.le_of_eq (dm_pt (hF.I _ _ (by omega))).symm) (gN h)) hT hv1
      · unfold DWh at wH ⊢
        rw [hn] at wH
        rw [dn]
        refine ⟨by omega, fun y hy => ?_, fun k hk => ?_⟩
        · rw [dm_pt (hF.I 337 y (by omega))]; exact wH.2.1 y hy
        · by_cases e : k = n
          · subst e
            rw [d8, d9, d10, d11, d12]
            omega
          · rw [dk 338 k e (by omega), dk 339 k e (by omega), dk 340 k e (by omega), dk 341 k e (by omega), dk 342 k e (by omega)]
            exact wH.2.2 k (by omega)
      · unfold CDh at cH ⊢
        rw [hn] at cH
        rw [dn]
        refine ⟨c81, fun y hy => ?_, fun k hk => ?_⟩
        · rw [dm_pt (hF.I 337 y (by omega)), hF.I 9 y (by omega)]; exact cH.2.1 y hy
        · by_cases e : k = n
          · subst e
            rw [d8, d9, d10, d11, d12, c10, c11, c12, c13, c14]
            exact ⟨rfl, rfl, rfl, rfl, rfl⟩
          · rw [dk 338 k e (by omega), dk 339 k e (by omega), dk 340 k e (by omega), dk 341 k e (by omega), dk 342 k e (by omega), hF.I 10 k (by omega), hF.I 11 k (by omega), hF.I 12 k (by omega), hF.I 13 k (by omega), hF.I 14 k (by omega)]
            exact cH.2.2 k (by omega)
  · refine ⟨_, ⟨0, σ, ?_, ?_⟩, Inv_thr hK h 0⟩
    · unfold f_X12_holds f_X12_holds_37
      rw [e_isHand, bd_some, ite_bI]
      by_cases c1 : 0 ≤ a1 ∧ a1 < 4
      · rw [if_pos c1, e_isSign, bd_some, ite_bI]
        by_cases c2 : 0 ≤ a2 ∧ a2 < 40
        · rw [if_pos c2, e_isSign, bd_some, ite_bI]
          by_cases c3 : 0 ≤ a3 ∧ a3 < 40
          · rw [if_pos c3]
            by_cases c4 : a2 = a3
            · rw [if_pos c4]
            · rw [if_neg c4]
              by_cases c5 : a4 < 0
              · rw [if_pos c5]
              · rw [if_neg c5]
                by_cases c6 : a4 ≤ 2
                · have g : ¬ nI (dm σ 324 25) < 200 := fun z => c ⟨c1, c2, c3, c4, ⟨i_nlt.mp c5, c6⟩, (nI_lt2 (b := 200) (by omega) (by omega)).mp z⟩
                  rw [if_pos c6, en, if_neg g]
                · rw [if_neg c6]
          · rw [if_neg c3]
        · rw [if_neg c2]
      · rw [if_neg c1]
    · unfold f_X13_holds f_X13_holds_53
      rw [e_within, bd_some, ite_bI]
      by_cases c1 : 0 ≤ a1 ∧ a1 ≤ 3
      · rw [if_pos c1, e_isSignNumber, bd_some, ite_bI]
        by_cases c2 : 0 ≤ a2 ∧ a2 < 40
        · rw [if_pos c2, e_isSignNumber, bd_some, ite_bI]
          by_cases c3 : 0 ≤ a3 ∧ a3 < 40
          · rw [if_pos c3]
            by_cases c4 : a2 = a3
            · rw [if_pos c4]
            · rw [if_neg c4, e_within, bd_some, ite_bI]
              by_cases c5 : 0 ≤ a4 ∧ a4 ≤ 2
              · rw [if_pos c5]
                show (if rI σ 324 25 = 200 then _ else _) = _
                rw [en2, if_pos]
                have : ¬ dm σ 324 25 < 200 := fun z => c ⟨e3.mp c1, c2, c3, c4, c5, z⟩
                have e : dm σ 324 25 = 200 := by omega
                rw [e]
                rfl
              · rw [if_neg c5]
          · rw [if_neg c3]
        · rw [if_neg c2]
      · rw [if_neg c1]
set_option maxHeartbeats 4000000 in
theorem op_share (h : Inv K σ) (hK : KX K) (a1 a2 a3 a4 a5 : Int32) : ∃ σ', lw_op 11 a1 a2 a3 a4 a5 σ σ' ∧ Inv K σ' := by
  have e3 : (0 ≤ a1 ∧ a1 ≤ 1) ↔ (a1 = 0 ∨ a1 = 1) := by
    refine ⟨fun z => ?_, fun z => ?_⟩
    · obtain ⟨x, hx, rfl⟩ := i_le (n := 1) z.1 z.2 (by omega)
      rcases (by omega : x = 0 ∨ x = 1) with rfl | rfl
      · exact Or.inl rfl
      · exact Or.inr rfl
    · rcases z with rfl | rfl <;> exact ⟨by decide, by decide⟩
  obtain ⟨d, hd, ed1, ed2⟩ := h.2.2.2.1.1
  obtain ⟨wS, cS⟩ := gS h
  have en : rI σ 3 6 = nI (dm σ 324 32) := cS.1
  have en2 : rI σ 324 32 = nI (dm σ 324 32) := (md h.1 (by omega) (by omega)).1
  have hnl : dm σ 324 32 ≤ 60 := wS.1
  obtain ⟨w, hw, ew⟩ : ∃ w : Nat, w < 2 ∧ (if a4 = 0 then (0 : Int32) else 1) = nI w := by
    by_cases e : a4 = 0
    · exact ⟨0, by omega, if_pos e⟩
    · exact ⟨1, by omega, if_neg e⟩
  show ∃ σ', (∃ (r : Int32) (σ1 : jM), f_X12_share a1 a2 a3 (if a4 = 0 then 0 else 1) σ = some (r, σ1) ∧ f_X13_share a1 a2 a3 (if a4 = 0 then 0 else 1) σ1 = some (r, σ')) ∧ Inv K σ'
  rw [ew]
  have hw01 : nI w = 0 ∨ nI w = 1 := by
    rcases (by omega : w = 0 ∨ w = 1) with rfl | rfl
    · exact Or.inl rfl
    · exact Or.inr rfl
  by_cases c : (a1 = 0 ∨ a1 = 1) ∧ (0 ≤ a2 ∧ a2 < 40) ∧ (0 ≤ a3 ∧ a3 < 40) ∧ ¬ a2 = a3 ∧ dm σ 324 32 < 60
  · obtain ⟨c1, c2, c3, c4, c6⟩ := c
    obtain ⟨x, hx, rfl⟩ := i_le (n := 1) (e3.mpr c1).1 (e3.mpr c1).2 (by omega)
    obtain ⟨a, ha, rfl⟩ := i_lt (n := 40) c2.1 c2.2 (by omega)
    obtain ⟨b, hb, rfl⟩ := i_lt (n := 40) c3.1 c3.2 (by omega)
    have hab : a ≠ b := fun z => c4 (by rw [z])
    generalize hn : dm σ 324 32 = n at *
    have lt60 : nI n < 60 := (nI_lt2 (b := 60) (by omega) (by omega)).mpr c6
    have ib : inb (nI n) 60 := nI_inb c6 (by omega)
    have hsx : shaX n = 190 + n := rfl
    obtain ⟨σ1, hσ1⟩ : ∃ s, s = wI (wI (wI (wI (wI (wI (wI σ (shaX n) 2 (nI x)) (shaX n) 3 (nI a)) (shaX n) 4 (nI b)) (shaX n) 5 (nI w)) (shaX n) 0 (nI d)) 3 6 (nI (n + 1))) 3 10 (-1) := ⟨_, rfl⟩
    obtain ⟨τ, hτ⟩ : ∃ s, s = wI (wI (wI (wI (wI (wI (wI (wI σ1 324 0 0) 344 n (nI x)) 345 n (nI a)) 346 n (nI b)) 347 n (nI w)) 348 n (nI d)) 349 n 1000000) 324 32 (nI (n + 1)) := ⟨_, rfl⟩
    refine ⟨τ, ⟨nI n, σ1, ?_, ?_⟩, ?_⟩
    · unfold f_X12_share
      rw [e_isSort, bd_some, ite_bI, if_pos c1, e_isSign, bd_some, ite_bI, if_pos c2, e_isSign, bd_some, ite_bI, if_pos c3, if_neg c4, en, if_pos lt60, gd_pos ib]
      have e : f_X9_tell (Int32.toNatClampNeg (nI n)) (nI x) (nI a) (nI b) (nI w) σ = some ((), wI (wI (wI (wI σ (shaX n) 2 (nI x)) (shaX n) 3 (nI a)) (shaX n) 4 (nI b)) (shaX n) 5 (nI w)) := by
        unfold f_X9_tell
        rw [gd_pos hw01, nI_ix (by omega)]
      have r1 : ∀ s : jM, rI (wI (wI (wI (wI s (shaX n) 2 (nI x)) (shaX n) 3 (nI a)) (shaX n) 4 (nI b)) (shaX n) 5 (nI w)) 3 0 = rI s 3 0 := fun s => by rw [rI_nk (by omega), rI_nk (by omega), rI_nk (by omega), rI_nk (by omega)]
      have r2 : ∀ s : jM, ∀ y : Int32, rI (wI (wI (wI (wI (wI s (shaX n) 2 (nI x)) (shaX n) 3 (nI a)) (shaX n) 4 (nI b)) (shaX n) 5 (nI w)) (shaX n) 0 y) 3 6 = rI s 3 6 := fun s y => by rw [rI_nk (by omega), rI_nk (by omega), rI_nk (by omega), rI_nk (by omega), rI_nk (by omega)]
      rw [e, bd_some, gd_pos ib, e_forget, bd_some, nI_ix (by omega), r2, r1, ed2, en, nI_1, hσ1]
    · have f1 : rI (wI σ1 324 0 0) 324 32 = nI n := by rw [hσ1]; rw [rI_nj (by omega), rI_nk (by omega), rI_nk (by omega), rI_nk (by omega), rI_nk (by omega), rI_nk (by omega), rI_nk (by omega), rI_nk (by omega)]; exact en2
      have f2 : rI (wI σ1 324 0 0) 324 1 = nI d := by rw [hσ1]; rw [rI_nj (by omega), rI_nk (by omega), rI_nk (by omega), rI_nk (by omega), rI_nk (by omega), rI_nk (by omega), rI_nk (by omega), rI_nk (by omega)]; exact ed1
      have f3 : vp_nar .boolean (nI w) = nI w := by
        rcases (by omega : w = 0 ∨ w = 1) with rfl | rfl <;> rfl
      rw [q_X13_share]
      rw [e_within, bd_some, ite_bI, if_pos (e3.mpr c1), e_isSignNumber, bd_some, ite_bI, if_pos c2, e_isSignNumber, bd_some, ite_bI, if_pos c3, if_neg c4, f1, f2, if_neg (fun z => by have := (nI_eq2 (b := 60) (by omega) (by omega)).mp z; omega)]
      simp only [gd_pos ib, nI_ix (show n < 2147483648 by omega), nI_1, f3, nI_pred]
      rw [hτ]
    · have hF : Fr (fun k j => k = 190 + n ∨ (k = 3 ∧ (j = 6 ∨ j = 10)) ∨ (k = 324 ∧ (j = 0 ∨ j = 32)) ∨ ((343 < k ∧ k < 350) ∧ j = n)) σ τ := by
        rw [hτ, hσ1]
        exact Fr.w (Fr.w (Fr.w (Fr.w (Fr.w (Fr.w (Fr.w (Fr.w (Fr.w (Fr.w (Fr.w (Fr.w (Fr.w (Fr.w (Fr.w Fr.refl (by omega)) (by omega)) (by omega)) (by omega)) (by omega)) (by omega)) (by omega)) (by omega)) (by omega)) (by omega)) (by omega)) (by omega)) (by omega)) (by omega)) (by omega)
      have hMI : MI τ := by
        rw [hτ, hσ1]
        exact MI_n (MI_n (n := 1000000) (MI_n (MI_n (MI_n (MI_n (MI_n (MI_o (MI_o (MI_o (MI_o (MI_o (MI_o (MI_o (MI_o h.1 (by omega)) (by omega)) (by omega)) (by omega)) (by omega)) (by omega)) (by omega)) (by omega)) (by omega) (by omega)) (by omega) (by omega)) (by omega) (by omega)) (by omega) (by omega)) (by omega) (by omega)) (by omega) (by omega)) (by omega) (by omega)
      have dn : dm τ 324 32 = n + 1 := md_val (by omega) (by omega) (by omega) (by rw [hτ]; exact rI_same _ _ _ _)
      have d4 : dm τ 344 n = x := md_val (by omega) (by omega) (by omega) (by rw [hτ, rI_nk (by omega), rI_nk (by omega), rI_nk (by omega), rI_nk (by omega), rI_nk (by omega), rI_nk (by omega), rI_same])
      have d5 : dm τ 345 n = a := md_val (by omega) (by omega) (by omega) (by rw [hτ, rI_nk (by omega), rI_nk (by omega), rI_nk (by omega), rI_nk (by omega), rI_nk (by omega), rI_same])
      have d6 : dm τ 346 n = b := md_val (by omega) (by omega) (by omega) (by rw [hτ, rI_nk (by omega), rI_nk (by omega), rI_nk (by omega), rI_nk (by omega), rI_same])
      have d7 : dm τ 347 n = w := md_val (by omega) (by omega) (by omega) (by rw [hτ, rI_nk (by omega), rI_nk (by omega), rI_nk (by omega), rI_same])
      have d8 : dm τ 348 n = d := md_val (by omega) (by omega) (by omega) (by rw [hτ, rI_nk (by omega), rI_nk (by omega), rI_same])
      have d9 : dm τ 349 n = 1000000 := md_val (by omega) (by omega) (by omega) (by rw [hτ, rI_nk (by omega), rI_same]; rfl)
      have dk : ∀ k j, j ≠ n → k ≠ 324 → dm τ k j = dm σ k j := fun k j hj hk => by
        by_cases h3 : 324 < k
        · exact dm_pt (hF.I k j (by omega))
        · unfold dm
          rw [if_neg (by omega), if_neg (by omega)]
      have up : ∀ k j, k < 324 → rI τ k j = rI σ1 k j := fun k j hk => by rw [hτ, rI_nk (by omega), rI_nk (by omega), rI_nk (by omega), rI_nk (by omega), rI_nk (by omega), rI_nk (by omega), rI_nk (by omega), rI_nk (by omega)]
      have s0 : rI τ (shaX n) 0 = nI d := by rw [up _ _ (by omega), hσ1, rI_nk (by omega), rI_nk (by omega), rI_same]
      have s1 : rI τ (shaX n) 1 = -1 := by rw [up _ _ (by omega), hσ1, rI_nk (by omega), rI_nk (by omega), rI_nj (by omega), rI_nj (by omega), rI_nj (by omega), rI_nj (by omega), rI_nj (by omega)]; exact cS.2.2 n c6 (by omega)
      have s2 : rI τ (shaX n) 2 = nI x := by rw [up _ _ (by omega), hσ1, rI_nk (by omega), rI_nk (by omega), rI_nj (by omega), rI_nj (by omega), rI_nj (by omega), rI_nj (by omega), rI_same]
      have s3 : rI τ (shaX n) 3 = nI a := by rw [up _ _ (by omega), hσ1, rI_nk (by omega), rI_nk (by omega), rI_nj (by omega), rI_nj (by omega), rI_nj (by omega), rI_same]
      have s4 : rI τ (shaX n) 4 = nI b := by rw [up _ _ (by omega), hσ1, rI_nk (by omega), rI_nk (by omega), rI_nj (by omega), rI_nj (by omega), rI_same]
      have s5 : rI τ (shaX n) 5 = nI w := by rw [up _ _ (by omega), hσ1, rI_nk (by omega), rI_nk (by omega), rI_nj (by omega), rI_same]
      have s6 : rI τ 3 6 = nI (n + 1) := by rw [up _ _ (by omega), hσ1, rI_nj (by omega), rI_same]
      have hv1 : rI τ 3 10 = -1 := by rw [up _ _ (by omega), hσ1, rI_same]
      have hT : TD τ := by
        obtain ⟨t1, ⟨m, t2, t3, t4, t5⟩, t6, ⟨q, t7, t8, t9, t10⟩⟩ := h.2.2.2.1
        refine ⟨⟨d, hd, (hF.I _ _ (by omega)).trans ed1, (hF.I _ _ (by omega)).trans ed2⟩, ⟨m, t2, (hF.I _ _ (by omega)).trans t3, (hF.I _ _ (by omega)).trans t4, fun j hj => ?_⟩, ?_, ⟨q, t7, (hF.I _ _ (by omega)).trans t8, (hF.I _ _ (by omega)).trans t9, fun j hj => ?_⟩⟩
        · rw [hF.I 263 j (by omega), hF.I 336 j (by omega)]; exact t5 j hj
        · rw [hF.I 262 3 (by omega), hF.I 324 23 (by omega)]; exact t6
        · rw [hF.I 1 j (by omega), hF.I 374 j (by omega)]; exact t10 j hj
      refine Inv_mut hMI (keepT (fun k j hp => hF.I k j (by omega)) (gT h)) (keepR (fun k j hp => hF.I k j (by omega)) (gR h)) (keepH (fun k j hp => hF.I k j (by omega)) (gH h)) ⟨?_, ?_⟩ (keepN (fun k j hp => hF.I k j (by omega)) (Nat.le_of_eq (dm_pt (hF.I _ _ (by omega))).symm) (gN h)) hT hv1
      · unfold DWs at wS ⊢
        rw [hn] at wS
        rw [dn]
        refine ⟨by omega, fun k hk => ?_⟩
        by_cases e : k = n
        · subst e
          rw [d4, d5, d6, d7, d8, d9]
          omega
        · rw [dk 344 k e (by omega), dk 345 k e (by omega), dk 346 k e (by omega), dk 347 k e (by omega), dk 348 k e (by omega), dk 349 k e (by omega)]
          exact wS.2 k (by omega)
      · unfold CDs at cS ⊢
        rw [hn] at cS
        rw [dn]
        refine ⟨s6, fun k hk => ?_, fun k hk h2 => ?_⟩
        · by_cases e : k = n
          · subst e
            rw [d4, d5, d6, d7, d8, d9, s0, s1, s2, s3, s4, s5]
            exact ⟨rfl, rfl, rfl, rfl, rfl, Or.inl ⟨rfl, rfl⟩⟩
          · have q : ∀ j, rI τ (shaX k) j = rI σ (shaX k) j := fun j => hF.I _ _ (by unfold shaX; omega)
            rw [dk 344 k e (by omega), dk 345 k e (by omega), dk 346 k e (by omega), dk 347 k e (by omega), dk 348 k e (by omega), dk 349 k e (by omega), q, q, q, q, q, q]
            exact cS.2.1 k (by omega)
        · rw [hF.I (shaX k) 1 (by unfold shaX; omega)]
          exact cS.2.2 k hk (by omega)
  · refine ⟨_, ⟨-1, σ, ?_, ?_⟩, Inv_thr hK h 0⟩
    · unfold f_X12_share f_X12_share_42
      rw [e_isSort, bd_some, ite_bI]
      by_cases c1 : a1 = 0 ∨ a1 = 1
      · rw [if_pos c1, e_isSign, bd_some, ite_bI]
        by_cases c2 : 0 ≤ a2 ∧ a2 < 40
        · rw [if_pos c2, e_isSign, bd_some, ite_bI]
          by_cases c3 : 0 ≤ a3 ∧ a3 < 40
          · rw [if_pos c3]
            by_cases c4 : a2 = a3
            · rw [if_pos c4]
            · have g : ¬ nI (dm σ 324 32) < 60 := fun z => c ⟨c1, c2, c3, c4, (nI_lt2 (b := 60) (by omega) (by omega)).mp z⟩
              rw [if_neg c4, en, if_neg g]
          · rw [if_neg c3]
        · rw [if_neg c2]
      · rw [if_neg c1]
    · rw [q_X13_share]
      unfold f_X13_share_42
      rw [e_within, bd_some, ite_bI]
      by_cases c1 : 0 ≤ a1 ∧ a1 ≤ 1
      · rw [if_pos c1, e_isSignNumber, bd_some, ite_bI]
        by_cases c2 : 0 ≤ a2 ∧ a2 < 40
        · rw [if_pos c2, e_isSignNumber, bd_some, ite_bI]
          by_cases c3 : 0 ≤ a3 ∧ a3 < 40
          · rw [if_pos c3]
            by_cases c4 : a2 = a3
            · rw [if_pos c4]
            · rw [if_neg c4]
              have e : rI (wI σ 324 0 0) 324 32 = 60 := by
                show rI σ 324 32 = 60
                have : ¬ dm σ 324 32 < 60 := fun z => c ⟨e3.mp c1, c2, c3, c4, z⟩
                rw [en2, show dm σ 324 32 = 60 by omega]
                rfl
              rw [if_pos e]
          · rw [if_neg c3]
        · rw [if_neg c2]
      · rw [if_neg c1]
end OPS3
