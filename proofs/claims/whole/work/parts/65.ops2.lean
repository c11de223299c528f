/-! trust, holds, share, away, told, count -/
section OPS2
variable {K : dD → Nat → jM → Prop} {σ : jM}
theorem i_lts {x : Int32} {n : Nat} (h : n + 1 < 2147483648) : x < nI (n + 1) ↔ x ≤ nI n := by
  rw [Int32.lt_iff_toInt_lt, Int32.le_iff_toInt_le, nI_toInt (by omega), nI_toInt (by omega)]
  omega
theorem op_trust (h : Inv K σ) (hK : KX K) (a1 a2 a3 a4 a5 : Int32) : ∃ σ', lw_op 7 a1 a2 a3 a4 a5 σ σ' ∧ Inv K σ' := by
  have e3 : (0 ≤ a1 ∧ a1 ≤ 3) ↔ (0 ≤ a1 ∧ a1 < 4) := and_congr Iff.rfl (i_lts (n := 3) (by omega)).symm
  by_cases c : (0 ≤ a1 ∧ a1 < 4) ∧ 0 ≤ a2 ∧ a2 ≤ 99
  · obtain ⟨hd, hh, rfl⟩ := i_lt (n := 4) c.1.1 c.1.2 (by omega)
    obtain ⟨v, hv, rfl⟩ := i_le (n := 99) c.2.1 c.2.2 (by omega)
    refine ⟨wI (wI (wI (wI σ 9 hd (nI v)) 3 10 (-1)) 324 0 0) 337 hd (nI v), ⟨1, wI (wI σ 9 hd (nI v)) 3 10 (-1), ?_, ?_⟩, ?_⟩
    · unfold f_X12_trust
      rw [e_isHand, bd_some, ite_bI, if_pos c.1, if_neg (i_nlt.mpr c.2.1), if_pos c.2.2, gd_pos (nI_inb hh (by omega)), nI_ix (by omega)]
      rfl
    · unfold f_X13_trust
      rw [e_within, bd_some, ite_bI, if_pos (e3.mpr c.1), e_within, bd_some, ite_bI, if_pos c.2, gd_pos (nI_inb hh (by omega)), nI_ix (by omega)]
    · have hF : Fr (fun k j => (k = 9 ∧ j = hd) ∨ (k = 3 ∧ j = 10) ∨ (k = 324 ∧ j = 0) ∨ (k = 337 ∧ j = hd)) σ (wI (wI (wI (wI σ 9 hd (nI v)) 3 10 (-1)) 324 0 0) 337 hd (nI v)) := (((Fr.refl.w (by omega)).w (by omega)).w (by omega)).w (by omega)
      have d1 : dm (wI (wI (wI (wI σ 9 hd (nI v)) 3 10 (-1)) 324 0 0) 337 hd (nI v)) 337 hd = v := md_val (by omega) (by omega) (by omega) (rI_same _ _ _ _)
      have d2 : ∀ j, j ≠ hd → dm (wI (wI (wI (wI σ 9 hd (nI v)) 3 10 (-1)) 324 0 0) 337 hd (nI v)) 337 j = dm σ 337 j := fun j hj => dm_pt (hF.I _ _ (by omega))
      generalize hτ : wI (wI (wI (wI σ 9 hd (nI v)) 3 10 (-1)) 324 0 0) 337 hd (nI v) = τ at *
      have e9 : rI τ 9 hd = nI v := by rw [← hτ]; rw [rI_nk (by omega), rI_nk (by omega), rI_nk (by omega), rI_same]
      have e7 : rI τ 337 hd = nI v := by rw [← hτ]; rw [rI_same]
      have hv1 : rI τ 3 10 = -1 := by rw [← hτ]; rfl
      have hT : TD τ := by rw [← hτ]; exact ⟨h.2.2.2.1.1, ⟨h.2.2.2.1.2.1.choose, h.2.2.2.1.2.1.choose_spec⟩, h.2.2.2.1.2.2.1, h.2.2.2.1.2.2.2⟩
      refine Inv_mut ?_ (keepT (fun k j hp => hF.I k j (by omega)) (gT h)) (keepR (fun k j hp => hF.I k j (by omega)) (gR h)) ?_ (keepS (fun k j hp => hF.I k j (by omega)) (gS h)) (keepN (fun k j hp => hF.I k j (by omega)) (Nat.le_of_eq (dm_pt (hF.I _ _ (by omega))).symm) (gN h)) hT hv1
      · intro k j hp
        by_cases e : k = 337 ∧ j = hd
        · obtain ⟨rfl, rfl⟩ := e
          rw [e7]
          exact ⟨fun _ => nI_pos' (by omega), fun z => absurd z (by decide)⟩
        · rw [hF.I k j (by omega)]
          exact h.1 k j hp
      · obtain ⟨w, cc⟩ := gH h
        have g0 : dm τ 324 25 = dm σ 324 25 := dm_pt (hF.I _ _ (by omega))
        have gk : ∀ k, 338 ≤ k → k ≤ 342 → dm τ k = dm σ k := fun k h1 h2 => dm_cp (fun j _ => hF.I _ _ (by omega))
        refine ⟨?_, ?_⟩
        · unfold DWh at w ⊢
          rw [g0, gk 338 (by omega) (by omega), gk 339 (by omega) (by omega), gk 340 (by omega) (by omega), gk 341 (by omega) (by omega), gk 342 (by omega) (by omega)]
          refine ⟨w.1, fun x hx => ?_, w.2.2⟩
          by_cases e : x = hd
          · rw [e, d1]; exact hv
          · rw [d2 x e]; exact w.2.1 x hx
        · unfold CDh at cc ⊢
          rw [g0, gk 338 (by omega) (by omega), gk 339 (by omega) (by omega), gk 340 (by omega) (by omega), gk 341 (by omega) (by omega), gk 342 (by omega) (by omega), hF.I 8 1 (by omega)]
          refine ⟨cc.1, fun x hx => ?_, fun k hk => ?_⟩
          · by_cases e : x = hd
            · rw [e, d1, e9]
            · rw [d2 x e, hF.I 9 x (by omega)]; exact cc.2.1 x hx
          · rw [hF.I 10 k (by omega), hF.I 11 k (by omega), hF.I 12 k (by omega), hF.I 13 k (by omega), hF.I 14 k (by omega)]
            exact cc.2.2 k hk
  · refine ⟨_, ⟨0, σ, ?_, ?_⟩, Inv_thr hK h 0⟩
    · unfold f_X12_trust f_X12_trust_17
      rw [e_isHand, bd_some, ite_bI]
      by_cases c1 : 0 ≤ a1 ∧ a1 < 4
      · rw [if_pos c1]
        by_cases c2 : a2 < 0
        · rw [if_pos c2]
        · rw [if_neg c2, if_neg (fun z => c ⟨c1, i_nlt.mp c2, z⟩)]
      · rw [if_neg c1]
    · unfold f_X13_trust f_X13_trust_24
      rw [e_within, bd_some, ite_bI]
      by_cases c1 : 0 ≤ a1 ∧ a1 ≤ 3
      · rw [if_pos c1, e_within, bd_some, ite_bI, if_neg (fun z => c ⟨e3.mp c1, z⟩)]
      · rw [if_neg c1]
end OPS2
