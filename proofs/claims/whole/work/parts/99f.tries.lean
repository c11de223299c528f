/-! THE SEARCH: the reference agrees and tries -/
section TRY
variable {D : dD} {σ : jM} {v : Nat}
theorem m_agree (hL : ML D v σ) (hw : DW D) {s c t d : Nat} (hs : s < 40) (hc : c < 135) (ht : t < 40) (hd : d < 135) : f_X13_agree (nI s) (nI c) (nI t) (nI d) σ = some (bI (decP (agr D v s c t d) = true), σ) := by
  obtain ⟨-, -, -, p4, p5⟩ := hL
  have k0 := cls_lt hw (v := v) (o := 0) (by omega) hs
  have k1 := cls_lt hw (v := v) (o := 1) (by omega) hs
  have k2 := cls_lt hw (v := v) (o := 0) (by omega) ht
  have k3 := cls_lt hw (v := v) (o := 1) (by omega) ht
  have e0 : rI σ 354 s = nI (cls D v 0 s) := by have := p5 0 (by omega) s hs; rw [show 40 * 0 + s = s by omega] at this; exact this
  have e1 : rI σ 354 t = nI (cls D v 0 t) := by have := p5 0 (by omega) t ht; rw [show 40 * 0 + t = t by omega] at this; exact this
  have e2 : rI σ 354 (40 + s) = nI (cls D v 1 s) := p5 1 (by omega) s hs
  have e3 : rI σ 354 (40 + t) = nI (cls D v 1 t) := p5 1 (by omega) t ht
  have e4 : rI σ 353 (40 * s + t) = bJ (pt D v 0 s t) := by have := p4 0 (by omega) s hs t ht; rw [show 1600 * 0 + 40 * s + t = 40 * s + t by omega] at this; exact this
  have e5 : rI σ 353 (1600 + 40 * s + t) = bJ (pt D v 1 s t) := p4 1 (by omega) s hs t ht
  have d1 : nI c / nI 5 = nI (c / 5) := div_n (by omega) (by omega) (by omega)
  have d2 : nI d / nI 5 = nI (d / 5) := div_n (by omega) (by omega) (by omega)
  have d3 : nI c - nI (c / 5) * nI 5 = nI (c % 5) := rem_n (by omega) (by omega) (by omega)
  have d4 : nI d - nI (d / 5) * nI 5 = nI (d % 5) := rem_n (by omega) (by omega) (by omega)
  have q5 : nI (c / 5) = nI (d / 5) ↔ c / 5 = d / 5 := nI_eq2 (by omega) (by omega)
  have q6 : nI (c % 5) = nI (d % 5) ↔ c % 5 = d % 5 := nI_eq2 (by omega) (by omega)
  have i1 : (nI 1600 + nI 40 * nI s) + nI t = nI (1600 + 40 * s + t) := by rw [pk_mul, nI_add, nI_add]
  have i2 : nI 40 * nI s + nI t = nI (40 * s + t) := by rw [pk_mul, nI_add]
  have a94 : f_X13_agree_94 (nI s) (nI c) (nI t) (nI d) σ = some (bI (decP (pt D v 1 s t → c % 5 ≠ d % 5) = true), σ) := by
    refine ok_eq ?_
    unfold f_X13_agree_94 f_X13_agree_122 f_X13_agree_127
    rw [li5, li40, li1600, i1, d1, d2, d3, d4, gd_n (by omega) (by omega), gd_0, gd_1]
    simp (disch := omega) only [nI_ix]
    rw [e5, ite_iff q6]
    refine ok_ite (fun z => ok_ret ⟨(bI_pos (decP_t.mpr (fun y => absurd y (bJ_0.mp z)))).symm, rfl⟩) (fun z => ok_ite (fun y => ok_ret ⟨(bI_neg (fun w => (decP_t.mp w) (Classical.byContradiction (fun u => z (bJ_0.mpr u))) y)).symm, rfl⟩) (fun y => ok_ret ⟨(bI_pos (decP_t.mpr (fun _ => y))).symm, rfl⟩))
  have a68 : f_X13_agree_68 (nI s) (nI c) (nI t) (nI d) σ = some (bI (decP ((pt D v 0 s t → c / 5 ≠ d / 5) ∧ (pt D v 1 s t → c % 5 ≠ d % 5)) = true), σ) := by
    refine ok_eq ?_
    unfold f_X13_agree_68
    rw [a94, li5, li40, i2, d1, d2, gd_n (by omega) (by omega)]
    simp (disch := omega) only [nI_ix]
    rw [e4, ite_iff q5]
    refine ok_ite (fun z => ok_ret ⟨bI_congr (decP_t.trans (Iff.trans ⟨fun y => ⟨fun w => absurd w (bJ_0.mp z), y⟩, fun y => y.2⟩ decP_t.symm)), rfl⟩) (fun z => ok_ite (fun y => ok_ret ⟨(bI_neg (fun w => (decP_t.mp w).1 (Classical.byContradiction (fun u => z (bJ_0.mpr u))) y)).symm, rfl⟩) (fun y => ok_ret ⟨bI_congr (decP_t.trans (Iff.trans ⟨fun w => ⟨fun _ => y, w⟩, fun w => w.2⟩ decP_t.symm)), rfl⟩))
  have a35 : f_X13_agree_35 (nI s) (nI c) (nI t) (nI d) σ = some (bI (decP ((cls D v 1 s = cls D v 1 t → c % 5 = d % 5) ∧ (pt D v 0 s t → c / 5 ≠ d / 5) ∧ (pt D v 1 s t → c % 5 ≠ d % 5)) = true), σ) := by
    refine ok_eq ?_
    unfold f_X13_agree_35
    rw [a68, li5, li40, d1, d2, d3, d4, nI_add, nI_add, gd_n (by omega) (by omega), gd_n (by omega) (by omega)]
    simp (disch := omega) only [nI_ix]
    rw [e2, e3, ite_iff q6, ite_iff (nI_eq2 (by omega) (by omega))]
    refine ok_ite (fun z => ok_ite (fun y => ok_ret ⟨bI_congr (decP_t.trans (Iff.trans ⟨fun w => ⟨fun _ => y, w⟩, fun w => w.2⟩ decP_t.symm)), rfl⟩) (fun y => ok_ret ⟨(bI_neg (fun w => y ((decP_t.mp w).1 z))).symm, rfl⟩)) (fun z => ok_ret ⟨bI_congr (decP_t.trans (Iff.trans ⟨fun w => ⟨fun u => absurd u z, w⟩, fun w => w.2⟩ decP_t.symm)), rfl⟩)
  refine ok_eq ?_
  unfold f_X13_agree
  rw [a35, li5, d1, d2, gd_n (by omega) (by omega), gd_n (by omega) (by omega)]
  simp (disch := omega) only [nI_ix]
  rw [e0, e1, ite_iff q5, ite_iff (nI_eq2 (a := c) (b := d) (by omega) (by omega)), ite_iff (nI_eq2 (by omega) (by omega))]
  refine ok_ite (fun z => ok_ret ⟨(bI_neg (c := decP (agr D v s c t d) = true) (fun w => (decP_t.mp w).1 z)).symm, rfl⟩) (fun z => ok_ite (fun y => ok_ite (fun x => ok_ret ⟨bI_congr (decP_t.trans (Iff.trans ⟨fun w => ⟨z, fun _ => x, w⟩, fun w => w.2.2⟩ (decP_t (P := agr D v s c t d)).symm)), rfl⟩) (fun x => ok_ret ⟨(bI_neg (c := decP (agr D v s c t d) = true) (fun w => x ((decP_t.mp w).2.1 y))).symm, rfl⟩)) (fun y => ok_ret ⟨bI_congr (decP_t.trans (Iff.trans ⟨fun w => ⟨z, fun u => absurd u y, w⟩, fun w => w.2.2⟩ (decP_t (P := agr D v s c t d)).symm)), rfl⟩))
/-- a level of the reference holds what is given -/
def MG (l : Nat) (g : gF) (σ : jM) : Prop := ∀ s, s < 40 → rI σ 369 (40 * l + s) = gz (g s) ∧ g s ≤ 135
/-- what a name of the reference is spelled as -/
def MN (K t Z : Nat) (C : Nat → Nat) (σ : jM) : Prop := K < 7 ∧ rI σ 361 K = nI t ∧ rI σ 365 K = nI Z ∧ Z ≤ 8 ∧ ∀ j, j < Z → rI σ 364 (8 * K + j) = nI (C j) ∧ C j < 135
abbrev wlv (l k j : Nat) : Prop := k = 369 ∧ 40 * l ≤ j ∧ j < 40 * l + 40
theorem MG_fr {l : Nat} {g : gF} {τ : jM} (h : MG l g σ) (e : ∀ j, 40 * l ≤ j → j < 40 * l + 40 → rI τ 369 j = rI σ 369 j) : MG l g τ := fun s hs => ⟨(e _ (by omega) (by omega)).trans (h s hs).1, (h s hs).2⟩
theorem m_agrees (hw : DW D) {L t q K Z : Nat} {C : Nat → Nat} {g : gF} (hM : MD D σ) (hL : ML D v σ) (hl : L < 8) (ht : t < D 324 2) (hq : q < D 327 t) (hK : K < 7) (h365 : rI σ 365 K = nI Z) (hZ : Z ≤ 8) (hC : ∀ j, j < Z → rI σ 364 (8 * K + j) = nI (C j) ∧ C j < 135) (hg : MG L g σ) : ok (f_X13_agrees (nI L) (nI (8 * t + q)) (nI K) σ) (fun r τ => Fr (wlv L) σ τ ∧ ((r = 0 ∧ (D 328 (8 * t + q) ≠ Z ∨ ly D v C (8 * t + q) g Z = none)) ∨ (r = 1 ∧ D 328 (8 * t + q) = Z ∧ ∃ g', ly D v C (8 * t + q) g Z = some g' ∧ MG L g' τ))) := by
  have h24 := hw.1.1
  obtain ⟨b1, b2, b3, b4, b5⟩ := hw.1.2.1 t ht
  obtain ⟨z1, z2⟩ := b5 q hq
  have hfr : ∀ τ, Fr (wlv L) σ τ → MD D τ ∧ ML D v τ ∧ rI τ 365 K = nI Z ∧ ∀ j, j < Z → rI τ 364 (8 * K + j) = nI (C j) ∧ C j < 135 := fun τ hF => ⟨MD_fr hM hF (fun k j hp z => by have := pers_ge hp; omega), ML_fr hL (fun k j z => hF.I _ _ (by omega)), (hF.I _ _ (by omega)).trans h365, fun j hj => ⟨(hF.I _ _ (by omega)).trans (hC j hj).1, (hC j hj).2⟩⟩
  have e8 : rI σ 328 (8 * t + q) = nI (D 328 (8 * t + q)) := hM.r (by omega) (by omega)
  unfold f_X13_agrees f_X13_agrees_30
  rw [gd_n (by omega) (by omega), gd_n hK (by omega)]
  simp (disch := omega) only [nI_ix]
  rw [e8, h365, ite_iff (nI_eq2 (by omega) (by omega))]
  refine ok_ite (fun cz => ?_) (fun cz => ok_ret ⟨Fr.refl, Or.inl ⟨rfl, Or.inl cz⟩⟩)
  rw [gd_n hK (by omega), ite_iff (show nI Z = 0 ↔ Z = 0 from nI_eq2 (b := 0) (by omega) (by omega)), if_neg (by omega), li40, pk_mul]
  refine L_X13_agrees_35 Z (fun j l5 τ => l5 = nI j ∧ ∃ g1, ly D v C (8 * t + q) g j = some g1 ∧ MG L g1 τ ∧ Fr (wlv L) σ τ) (by omega) (fun j p l5 τ hk hI hp => ?_) (Nat.zero_le _) ⟨rfl, g, rfl, hg, Fr.refl⟩
  obtain ⟨rfl, g1, hly, hg1, hF⟩ := hI
  obtain ⟨hM1, hL1, h365', hC1⟩ := hfr τ hF
  unfold s_X13_agrees_35 f_X13_agrees_123 f_X13_agrees_208
  rw [gd_n (by omega) (by omega), li6, li8]
  simp (disch := omega) only [nI_ix, pk_mul, nI_add]
  have e8' : rI τ 328 (8 * t + q) = nI Z := (hM1.r (by omega) (by omega)).trans (by rw [cz])
  rw [e8', ite_iff (nI_le2 (by omega) (by omega))]
  by_cases cj : j < Z
  · obtain ⟨y1, y2⟩ := hM1.2 (6 * (8 * t + q) + j) (by omega)
    rw [if_neg (by omega), gd_n (by omega) (by omega), y1, ite_iff (pz_m1 (by omega))]
    by_cases c99 : D 329 (6 * (8 * t + q) + j) = 99
    · rw [if_pos c99]
      refine hp (j + 1) _ _ (by omega) (by omega) ⟨nI_1 j, g1, ?_, hg1, hF⟩
      rw [ly_s, hly]
      show sl D v g1 _ _ = _
      unfold sl
      rw [if_pos c99]
    · have hs0 : D 329 (6 * (8 * t + q) + j) < 40 := y2.resolve_left c99
      have hst := std_lt (D := D) v hs0
      obtain ⟨c1, c2⟩ := hC1 j cj
      have esl : ly D v C (8 * t + q) g (j + 1) = if agb D v g1 (std D v (D 329 (6 * (8 * t + q) + j))) (C j) = true then some (up g1 (std D v (D 329 (6 * (8 * t + q) + j))) (C j)) else none := by
        rw [ly_s, hly]
        show sl D v g1 _ _ = _
        unfold sl
        rw [if_neg c99]
      generalize hse : std D v (D 329 (6 * (8 * t + q) + j)) = s at *
      have no : ¬ AG D v g1 s (C j) → ok (some ((0 : Int32), τ)) (fun r τ => Fr (wlv L) σ τ ∧ ((r = 0 ∧ (D 328 (8 * t + q) ≠ Z ∨ ly D v C (8 * t + q) g Z = none)) ∨ (r = 1 ∧ D 328 (8 * t + q) = Z ∧ ∃ g', ly D v C (8 * t + q) g Z = some g' ∧ MG L g' τ))) := fun h => by
        rw [if_neg (fun z => h (agb_t.mp z))] at esl
        exact ok_ret ⟨hF, Or.inl ⟨rfl, Or.inr (ly_none esl (by omega))⟩⟩
      have same : g1 s = C j → ok (p (nI (8 * t + q)) (nI K) (nI (40 * L)) (nI j + 1) τ) (fun r τ => Fr (wlv L) σ τ ∧ ((r = 0 ∧ (D 328 (8 * t + q) ≠ Z ∨ ly D v C (8 * t + q) g Z = none)) ∨ (r = 1 ∧ D 328 (8 * t + q) = Z ∧ ∃ g', ly D v C (8 * t + q) g Z = some g' ∧ MG L g' τ))) := fun h => by
        rw [if_pos (agb_t.mpr (Or.inl h)), up_id h] at esl
        exact hp (j + 1) _ _ (by omega) (by omega) ⟨nI_1 j, g1, esl, hg1, hF⟩
      obtain ⟨w1, w2⟩ := hg1 s hst
      rw [if_neg c99, pz_n c99, gd_n hs0 (by omega), gd_n (by omega) (by omega)]
      simp (disch := omega) only [nI_ix]
      rw [hL1.1 _ hs0, hse, c1, nI_add, gd_n (by omega) (by omega)]
      simp (disch := omega) only [nI_ix]
      rw [w1, ite_iff (gz_m1 (by omega)), gd_n (by omega) (by omega)]
      by_cases cs : g1 s = 135
      · rw [if_pos cs, cs, gz_0, if_neg (fun z => (m1_nI (by omega)).mp z)]
        have hAG : AG D v g1 s (C j) ↔ ∀ t, t < 40 → g1 t ≠ 135 → agr D v s (C j) t (g1 t) := ⟨fun h => h.elim (fun y => by omega) (fun y => y.2), fun h => Or.inr ⟨cs, h⟩⟩
        refine L_X13_agrees_144 40 (fun t9 l9 τ' => l9 = nI t9 ∧ τ' = τ ∧ ∀ t', t' < t9 → g1 t' ≠ 135 → agr D v s (C j) t' (g1 t')) (by omega) (fun t9 p2 l9 τ' hk2 hI2 hp2 => ?_) (Nat.zero_le _) ⟨rfl, rfl, fun t' ht' => by omega⟩
        obtain ⟨rfl, rfl, hA⟩ := hI2
        unfold s_X13_agrees_144 f_X13_agrees_190 f_X13_agrees_208
        rw [li40]
        simp (disch := omega) only [nI_add]
        rw [ite_iff (nI_le2 (by omega) (by omega))]
        by_cases c9 : t9 < 40
        · obtain ⟨u1, u2⟩ := hg1 t9 c9
          have go : (g1 t9 ≠ 135 → agr D v s (C j) t9 (g1 t9)) → ok (p2 (nI (8 * t + q)) (nI K) (nI (40 * L)) (nI j) (nI s) (nI (C j)) (nI t9 + 1) τ') (fun r τ => Fr (wlv L) σ τ ∧ ((r = 0 ∧ (D 328 (8 * t + q) ≠ Z ∨ ly D v C (8 * t + q) g Z = none)) ∨ (r = 1 ∧ D 328 (8 * t + q) = Z ∧ ∃ g', ly D v C (8 * t + q) g Z = some g' ∧ MG L g' τ))) := fun h => hp2 (t9 + 1) _ _ (by omega) (by omega) ⟨nI_1 t9, rfl, fun t' ht' hn => by
            by_cases e : t' = t9
            · subst e; exact h hn
            · exact hA t' (by omega) hn⟩
          rw [if_neg (by omega), gd_n (by omega) (by omega)]
          simp (disch := omega) only [nI_ix]
          rw [u1, ite_iff (gz_m1 (by omega))]
          refine ok_ite (fun z => go (fun y => absurd z y)) (fun z => ?_)
          rw [gd_n (by omega) (by omega), gz_n z, m_agree hL1 hw hst c2 c9 (by omega), bd_some, ite_bI]
          exact ok_ite (fun y => go (fun _ => decP_t.mp y)) (fun y => no (fun h => y (decP_t.mpr (hAG.mp h t9 c9 z))))
        · have e : t9 = 40 := by omega
          subst e
          rw [if_pos (by omega), gd_n (by omega) (by omega), nI_ix (by omega)]
          rw [if_pos (agb_t.mpr (hAG.mpr hA))] at esl
          refine hp (j + 1) _ _ (by omega) (by omega) ⟨nI_1 j, _, esl, fun s' hs' => ?_, ?_⟩
          rotate_left
          · exact Fr.w hF ⟨rfl, by omega, by omega⟩
          by_cases e : s' = s
          · subst e
            rw [rI_same, up_same]
            exact ⟨(gz_n (by omega)).symm, by omega⟩
          · rw [rI_nj (by omega), up_ne _ _ e]
            exact hg1 s' hs'
      · rw [if_neg cs, gz_n cs]
        simp (disch := omega) only [gd_n]
        rw [ite_iff (nI_eq2 (by omega) (by omega))]
        refine ok_ite (fun z => ?_) (fun z => no (fun h => h.elim z (fun y => cs y.1)))
        first | (rw [if_pos (show nI (g1 s) = nI (C j) by rw [z])]; exact same z) | exact same z
  · have e : j = Z := by omega
    subst e
    rw [if_pos (by omega)]
    exact ok_ret ⟨hF, Or.inr ⟨rfl, cz, g1, hly, hg1⟩⟩
end TRY
