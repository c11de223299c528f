/-! a row of a tablet: the reference reads it -/
section RWM
variable {σ : jM} {n p s : Nat} {T : Nat → Nat}
theorem e_isWell (σ : jM) : f_X13_isWell σ = some (bI (rI σ 324 21 = 0), σ) := by
  unfold f_X13_isWell f_X13_isWell_12
  by_cases c : rI σ 324 21 = 0
  · rw [if_pos c, bI_pos c, gd_1]
  · rw [if_neg c, bI_neg c, gd_0]
theorem m_fails (h : rI σ 324 21 = 0) (a : Int32) : f_X13_fails a σ = some ((), wI (wI σ 324 21 a) 324 22 (rI σ 324 18)) := by
  rw [q_X13_fails, if_pos h]
theorem sgn_hi : ∀ x : Nat, x < 256 → 128 ≤ x → sgn x < 0 := by decide +kernel
theorem sgn_eq {x b : Nat} (hx : x < 256) (hb : b < 128) : sgn x = nI b ↔ x = b := by
  by_cases c : x < 128
  · rw [sgn_lo c, nI_eq2 (by omega) (by omega)]
  · refine ⟨fun z => ?_, fun z => by omega⟩
    have := sgn_hi x hx (by omega)
    rw [z] at this
    exact ((nI_lt0 (by omega)).mp this).elim
theorem mkd_le (k : Nat) (h : k ≤ 4) : mkd k ≤ 4 := by
  unfold mkd
  split
  · omega
  · split
    · omega
    · split <;> omega
theorem m_isSgn (hT : TPm n T σ) (h : TKm n T p σ) {b : Nat} (hb : b < 128) : f_X13_isSign (nI b) σ = some (bI (isB n T p b), σ) := by
  obtain ⟨h8, h7, h9, h2, h3⟩ := h
  have hkl := kds_le n T (stt n T p)
  have hml := mkd_le _ hkl
  refine ok_eq ?_
  unfold f_X13_isSign f_X13_isSign_20 f_X13_isSign_21
  show ok _ (fun a τ => a = bI (kds n T (stt n T p) = 3 ∧ T (stt n T p) = b) ∧ τ = σ)
  have i4 : nI (mkd (kds n T (stt n T p))) = nI 4 ↔ kds n T (stt n T p) = 3 := by
    rw [nI_eq2 (by omega) (by omega)]
    unfold mkd
    split
    · omega
    · split
      · omega
      · split <;> omega
  rw [h9, li4, ite_iff i4]
  simp only [gd_0, gd_1]
  refine ok_ite (fun z => ?_) (fun z => ok_ret ⟨by rw [bI_neg (fun w => z w.1)], rfl⟩)
  have := (hT.2.2 _ (TKs_lt (n := n) (T := T) (s := stt n T p) (by omega))).1
  rw [h3 (Or.inr z), ite_iff (sgn_eq this hb)]
  exact ok_ite (fun y => ok_ret ⟨by rw [bI_pos ⟨z, y⟩], rfl⟩) (fun y => ok_ret ⟨by rw [bI_neg (fun w => y w.2)], rfl⟩)
theorem m_isNum (h : TKm n T p σ) : rI σ 324 19 = 2 ↔ kdt n T p = 2 := by
  have hkl := kds_le n T (stt n T p)
  have hml := mkd_le _ hkl
  rw [h.2.2.1, li2, nI_eq2 (by omega) (by omega)]
  unfold mkd kdt
  split
  · omega
  · split
    · omega
    · split <;> omega
theorem m_isOver (h : TKm n T p σ) : rI σ 324 19 = 0 ↔ kdt n T p = 0 := by
  have hkl := kds_le n T (stt n T p)
  have hml := mkd_le _ hkl
  rw [h.2.2.1, show (0 : Int32) = nI 0 from rfl, nI_eq2 (by omega) (by omega)]
  unfold mkd kdt
  split
  · omega
  · split
    · omega
    · split <;> omega
abbrev wmN (k j : Nat) : Prop := k = 324 ∧ 17 ≤ j ∧ j ≤ 22
theorem m_number (hT : TPm n T σ) (h : TKm n T p σ) (hp : p ≤ n) (hw : rI σ 324 21 = 0) {lo hi : Nat} (hlo : lo < 1000) (hhi : hi < 1000) : ok (f_X13_number (nI lo) (nI hi) σ) (fun r τ => Fr wmN σ τ ∧ ((kdt n T p = 2 ∧ lo ≤ vvs n T (stt n T p) ∧ vvs n T (stt n T p) ≤ hi ∧ r = nI (vvs n T (stt n T p)) ∧ rI τ 324 21 = 0 ∧ TKm n T (en n T p) τ) ∨ (¬ (kdt n T p = 2 ∧ lo ≤ vvs n T (stt n T p) ∧ vvs n T (stt n T p) ≤ hi) ∧ r = 0 ∧ rI τ 324 21 = nI (if kdt n T p = 2 then 2 else 1) ∧ rI τ 324 22 = nI (stt n T p)))) := by
  have bad : ∀ c : Nat, c < 5 → c ≠ 0 → bI (rI (wI (wI σ 324 21 (nI c)) 324 22 (rI σ 324 18)) 324 21 = 0) = 0 := fun c hc h0 => bI_neg (fun z => by
    rw [rI_nj (by omega), rI_same] at z
    have := (nI_eq2 (b := 0) (by omega) (by omega)).mp z
    omega)
  unfold f_X13_number
  rw [e_isWell, bd_some, bI_pos hw, if_neg (by decide), ite_iff (m_isNum h)]
  refine ok_ite (fun z => ?_) (fun z => ?_)
  · have hv := vvs_le (n := n) (T := T) (s := stt n T p) z
    have e20 := h.2.2.2.1 z
    unfold f_X13_number_20
    rw [e_isWell, bd_some, bI_pos hw, if_neg (by decide), e20, e_within, bd_some, ite_bI, ite_iff (and_congr (nI_le2 (by omega) (by omega)) (nI_le2 (by omega) (by omega)))]
    unfold f_X13_number_44
    refine ok_ite (fun y => ?_) (fun y => ?_)
    · rw [e_isWell, bd_some, bI_pos hw, if_neg (by decide), e20]
      refine ok_bd (m_next hT (p := en n T p) (en_le hp).2 h.2.1) (fun _ τ u => ?_)
      exact ok_ret ⟨u.2.mono (fun k j z => by omega), Or.inl ⟨z, y.1, y.2, rfl, (u.2.I _ _ (by omega)).trans hw, u.1⟩⟩
    · have e2 : f_X13_fails 2 σ = some ((), wI (wI σ 324 21 (nI 2)) 324 22 (rI σ 324 18)) := m_fails hw 2
      rw [e2, bd_some, e_isWell, bd_some, bad 2 (by omega) (by omega), if_pos rfl]
      exact ok_ret ⟨Fr.w (Fr.w Fr.refl (by omega)) (by omega), Or.inr ⟨fun w => y w.2, rfl, by rw [rI_nj (by omega), rI_same, if_pos z], by rw [rI_same]; exact h.1⟩⟩
  · have e1 : f_X13_fails 1 σ = some ((), wI (wI σ 324 21 (nI 1)) 324 22 (rI σ 324 18)) := m_fails hw 1
    rw [e1, bd_some]
    unfold f_X13_number_20 f_X13_number_44
    rw [e_isWell, bd_some, bad 1 (by omega) (by omega), if_pos rfl, e_isWell, bd_some, bad 1 (by omega) (by omega), if_pos rfl]
    exact ok_ret ⟨Fr.w (Fr.w Fr.refl (by omega)) (by omega), Or.inr ⟨fun w => z w.1, rfl, by rw [rI_nj (by omega), rI_same, if_neg z], by rw [rI_same]; exact h.1⟩⟩
/-- the cells of what is being read are such -/
def SG (σ : jM) : Prop := ∀ k j, scx k j → (k ≠ 329 → 0 ≤ rI σ k j) ∧ (k = 329 → rI σ k j = -1 ∨ inb (rI σ k j) 40)
theorem SG_of (h : MI σ) : SG σ := fun k j z => h k j (Or.inr z)
theorem SG_w (h : SG σ) {k j : Nat} {v : Int32} (hv : k ≠ 329 → 0 ≤ v) (h9 : k = 329 → v = -1 ∨ inb v 40) : SG (wI σ k j v) := by
  intro k' j' hp
  by_cases e : k' = k ∧ j' = j
  · obtain ⟨rfl, rfl⟩ := e
    rw [rI_same]
    exact ⟨hv, h9⟩
  · rw [rI_ne (fun a b => e ⟨a, b⟩)]
    exact h k' j' hp
theorem SG_fr {τ : jM} {W : Nat → Nat → Prop} (h : SG σ) (hF : Fr W σ τ) (hW : ∀ k j, scx k j → ¬ W k j) : SG τ := fun k j z => by rw [hF.I k j (hW k j z)]; exact h k j z
abbrev wrm (w k j : Nat) : Prop := (k = 324 ∧ 17 ≤ j ∧ j ≤ 22) ∨ (k = 328 ∧ j = 192 + w) ∨ (k = 329 ∧ 1152 + 6 * w ≤ j ∧ j < 1152 + 6 * w + 6)
/-- what the reference says of a row -/
def RRm (n : Nat) (T : Nat → Nat) (p w : Nat) (R : Nat × Nat × Nat) (τ : jM) : Prop := SG τ ∧ ((R.1 = 0 ∧ rI τ 324 21 = 0 ∧ rI τ 328 (192 + w) = nI R.2.1 ∧ (∀ j, j < R.2.1 → rI τ 329 (6 * (192 + w) + j) = pz (plv n T (cu n T p j))) ∧ TKm n T R.2.2 τ) ∨ (R.1 ≠ 0 ∧ rI τ 324 21 = nI R.1 ∧ rI τ 324 22 = nI R.2.1))
theorem m_readRow80 (hT : TPm n T σ) (h : TKm n T p σ) (hp : p ≤ n) (hwl : rI σ 324 21 = 0) (hS : SG σ) {w : Nat} (hw : w < 8) (h0 : rI σ 328 (192 + w) = 0) (hb : BPl n T p) : ok (f_X13_readRow_80 Fu (nI (192 + w)) σ) (fun _ τ => RRm n T p w (rowR n T 7 p 0) τ ∧ Fr (wrm w) σ τ) := by
  have hcd := rowR_cd (n := n) (T := T) 7 p 0
  generalize hR : rowR n T 7 p 0 = R at *
  refine L_X13_readRow_80 7 (fun k τ => SG τ ∧ Fr (wrm w) σ τ ∧ ((k ≤ 6 ∧ rI τ 324 21 = 0 ∧ rI τ 328 (192 + w) = nI k ∧ (∀ j, j < k → rI τ 329 (6 * (192 + w) + j) = pz (plv n T (cu n T p j))) ∧ TKm n T (cu n T p k) τ ∧ R = rowR n T (7 - k) (cu n T p k) k) ∨ (R.1 ≠ 0 ∧ rI τ 324 21 = nI R.1 ∧ rI τ 324 22 = nI R.2.1))) (by omega) (fun k q τ hk hI hq => ?_) (Nat.zero_le _) ⟨hS, Fr.refl, Or.inl ⟨by omega, hwl, h0, fun j hj => by omega, h, hR.symm⟩⟩
  obtain ⟨hS1, hF, hI⟩ := hI
  unfold s_X13_readRow_80 f_X13_readRow_181 f_X13_wantSign f_X13_wantSign_28
  rcases hI with ⟨hk6, i21, i328, hP, hK, hR1⟩ | ⟨hn0, i21, i22⟩
  · have hT1 : TPm n T τ := TPm_fr hT hF (by omega) (fun j => by omega)
    have hcl := cu_le (T := T) hp k
    obtain ⟨m, hm⟩ : ∃ m, 7 - k = m + 1 := ⟨6 - k, by omega⟩
    have hm2 : 7 - (k + 1) = m := by omega
    rw [hm, rowR_s] at hR1
    rw [e_isWell, bd_some, bI_pos i21, if_neg (by decide), ite_iff (m_isNum hK)]
    have hnx : ∀ {τ' : jM}, Fr (wrm w) σ τ' → rI τ' 324 17 = nI (cu n T p (k + 1)) → SG τ' → rI τ' 324 21 = 0 → ok (f_X13_next τ') (fun _ τ => TKm n T (cu n T p (k + 1)) τ ∧ Fr (wrm w) σ τ ∧ Fr wmT τ' τ ∧ SG τ ∧ rI τ 324 21 = 0) := fun {τ'} x1 x2 x3 x4 => by
      refine ok_imp (m_next (TPm_fr hT x1 (by omega) (fun j => by omega)) (cu_le hp (k + 1)) x2) (fun _ τ u => ⟨u.1, x1.trans (u.2.mono (fun k j z => by omega)), u.2, SG_fr x3 u.2 (fun k j z => by omega), (u.2.I _ _ (by omega)).trans x4⟩)
    have flt : ∀ f : Nat, f < 3 → R = (f + 1, stt n T (cu n T p k), 0) → f_X13_fails (nI (f + 1)) τ = some ((), wI (wI τ 324 21 (nI (f + 1))) 324 22 (rI τ 324 18)) ∧ RRm n T p w R (wI (wI τ 324 21 (nI (f + 1))) 324 22 (rI τ 324 18)) ∧ Fr (wrm w) σ (wI (wI τ 324 21 (nI (f + 1))) 324 22 (rI τ 324 18)) := fun f hf x3 => by
      have hFF : Fr (wrm w) σ (wI (wI τ 324 21 (nI (f + 1))) 324 22 (rI τ 324 18)) := Fr.w (Fr.w hF (by omega)) (by omega)
      refine ⟨m_fails i21 _, ⟨SG_fr hS1 (W := wmN) (Fr.w (Fr.w Fr.refl (by omega)) (by omega)) (fun k j z => by omega), Or.inr ⟨by rw [x3]; exact Nat.succ_ne_zero f, by rw [rI_nj (by omega), rI_same, x3], by rw [rI_same, x3]; exact hK.1⟩⟩, hFF⟩
    have plc' : BPl n T (cu n T p k) → ok (f_X13_readRow_104 q (nI (192 + w)) τ) (fun _ τ => RRm n T p w R τ ∧ Fr (wrm w) σ τ) := fun z => by
      rw [if_pos z] at hR1
      rw [q_X13_readRow_104]
      unfold f_X13_readRow_178
      rw [gd_n (by omega) (by omega)]
      simp (disch := omega) only [nI_ix, gd_n]
      rw [i328, li6, ite_iff (nI_eq2 (by omega) (by omega)), pk_mul, nI_add]
      refine ok_ite (fun z2 => ?_) (fun z2 => ?_)
      · rw [if_pos z2] at hR1
        obtain ⟨f1, f2, f3⟩ := flt 2 (by omega) hR1
        have f1 : f_X13_fails 3 τ = _ := f1
        rw [f1, bd_some]
        exact ok_ret ⟨f2, f3⟩
      · rw [if_neg z2] at hR1
        rw [ite_iff (m_isNum hK), nI_1]
        simp (disch := omega) only [gd_n, nI_ix]
        have hF1 : Fr (wrm w) σ (wI τ 328 (192 + w) (nI (k + 1))) := Fr.w hF (by omega)
        have hS2 : SG (wI τ 328 (192 + w) (nI (k + 1))) := SG_w hS1 (fun _ => nI_pos' (by omega)) (fun y => by omega)
        have hK1 : TKm n T (cu n T p k) (wI τ 328 (192 + w) (nI (k + 1))) := ⟨by rw [rI_nk (by omega)]; exact hK.1, by rw [rI_nk (by omega)]; exact hK.2.1, by rw [rI_nk (by omega)]; exact hK.2.2.1, by rw [rI_nk (by omega)]; exact hK.2.2.2.1, by rw [rI_nk (by omega)]; exact hK.2.2.2.2⟩
        have w1 : rI (wI τ 328 (192 + w) (nI (k + 1))) 324 21 = 0 := by rw [rI_nk (by omega)]; exact i21
        refine ok_ite (fun c2 => ?_) (fun c2 => ?_)
        · have hv := vvs_le (n := n) (T := T) (s := stt n T (cu n T p k)) c2
          have hnum := m_number (lo := 0) (hi := 39) (TPm_fr hT hF1 (by omega) (fun j => by omega)) hK1 hcl w1 (by omega) (by omega)
          refine ok_bd hnum (fun r τ1 u => ?_)
          obtain ⟨u1, u2⟩ := u
          have hF2 : Fr (wrm w) σ τ1 := hF1.trans (u1.mono (fun k j z => by omega))
          have hS3 : SG τ1 := SG_fr hS2 u1 (fun k j z => by omega)
          rcases u2 with ⟨u2, u3, u4, rfl, u6, u7⟩ | ⟨u2, rfl, u4, u5⟩
          · rw [if_neg (fun y => by omega)] at hR1
            refine hq (k + 1) _ (by omega) (by omega) ⟨SG_w hS3 (fun y => absurd rfl y) (fun _ => Or.inr (nI_inb (by omega) (by omega))), Fr.w hF2 (by omega), Or.inl ⟨by omega, by rw [rI_nk (by omega)]; exact u6, by rw [rI_nk (by omega), u1.I _ _ (by omega), rI_same], fun j hj => ?_, ⟨by rw [rI_nk (by omega)]; exact u7.1, by rw [rI_nk (by omega)]; exact u7.2.1, by rw [rI_nk (by omega)]; exact u7.2.2.1, by rw [rI_nk (by omega)]; exact u7.2.2.2.1, by rw [rI_nk (by omega)]; exact u7.2.2.2.2⟩, by rw [hm2]; exact hR1⟩⟩
            by_cases e : j = k
            · subst e
              rw [rI_same]
              unfold plv
              rw [if_pos c2, pz_n (by omega)]
            · rw [rI_nj (by omega), u1.I _ _ (by omega), rI_nk (by omega)]; exact hP j (by omega)
          · rw [if_pos ⟨c2, by
              rcases Nat.lt_or_ge (vvs n T (stt n T (cu n T p k))) 40 with y | y
              · exact absurd ⟨c2, by omega, by omega⟩ u2
              · exact y⟩] at hR1
            refine hq (k + 1) _ (by omega) (by omega) ⟨SG_w hS3 (fun y => absurd rfl y) (fun _ => Or.inr (nI_inb (a := 0) (by omega) (by omega))), Fr.w hF2 (by omega), Or.inr ⟨by rw [hR1]; exact Nat.succ_ne_zero 1, ?_, ?_⟩⟩
            · rw [rI_nk (by omega), u4, if_pos c2, hR1]
            · rw [rI_nk (by omega), u5, hR1]
        · rw [if_neg (fun y => c2 y.1)] at hR1
          have hF2 : Fr (wrm w) σ (wI (wI τ 328 (192 + w) (nI (k + 1))) 329 (6 * (192 + w) + k) (-1)) := Fr.w hF1 (by omega)
          refine ok_bd (hnx hF2 (by rw [rI_nk (by omega)]; exact hK1.2.1) (SG_w hS2 (fun y => absurd rfl y) (fun _ => Or.inl rfl)) (by rw [rI_nk (by omega)]; exact w1)) (fun _ τ1 u => ?_)
          obtain ⟨u1, u2, u3, u4, u5⟩ := u
          refine hq (k + 1) _ (by omega) (by omega) ⟨u4, u2, Or.inl ⟨by omega, u5, by rw [u3.I _ _ (by omega), rI_nk (by omega), rI_same], fun j hj => ?_, u1, by rw [hm2]; exact hR1⟩⟩
          rw [u3.I _ _ (by omega)]
          by_cases e : j = k
          · subst e
            rw [rI_same]
            unfold plv
            rw [if_neg c2]; rfl
          · rw [rI_nj (by omega), rI_nk (by omega)]; exact hP j (by omega)
    refine ok_ite (fun z => plc' (Or.inl z)) (fun z => ?_)
    have e := m_isSgn hT1 hK (b := 63) (by omega)
    have e : f_X13_isSign 63 τ = _ := e
    rw [e, bd_some, ite_bI]
    refine ok_ite (fun y => plc' (Or.inr y)) (fun y => ?_)
    rw [if_neg (fun w => w.elim z y)] at hR1
    have e := m_isSgn hT1 hK (b := 46) (by omega)
    have e : f_X13_isSign 46 τ = _ := e
    rw [e_isWell, bd_some, bI_pos i21, if_neg (by decide), e, bd_some, ite_bI]
    have k0 : 0 < k := by
      rcases Nat.eq_zero_or_pos k with e0 | e0
      · subst e0; exact absurd hb (fun w => w.elim z y)
      · exact e0
    by_cases x : isB n T (cu n T p k) 46
    · rw [if_pos x]
      rw [if_pos ⟨k0, x⟩] at hR1
      obtain ⟨a, τ1, e1, u1, u2, u3, u4, u5⟩ := hnx hF hK.2.1 hS1 i21
      rw [e1, bd_some, bd_some]
      refine ok_ret ⟨⟨u4, Or.inl ⟨by rw [hR1], u5, by rw [u3.I _ _ (by omega), i328, hR1], fun j hj => ?_, by rw [hR1]; exact u1⟩⟩, u2⟩
      rw [hR1] at hj
      rw [u3.I _ _ (by omega)]
      exact hP j hj
    · rw [if_neg x]
      rw [if_neg (fun w => x w.2)] at hR1
      obtain ⟨f1, f2, f3⟩ := flt 0 (by omega) hR1
      have f1 : f_X13_fails 1 τ = _ := f1
      rw [f1, bd_some, bd_some]
      exact ok_ret ⟨f2, f3⟩
  · have i0 : ¬ rI τ 324 21 = 0 := fun z => by
      rw [i21] at z
      have := (nI_eq2 (b := 0) (by omega) (by omega)).mp z
      exact hn0 this
    rw [e_isWell, bd_some, bI_neg i0, if_pos rfl, e_isWell, bd_some, bI_neg i0, if_pos rfl, bd_some]
    exact ok_ret ⟨⟨hS1, Or.inr ⟨hn0, i21, i22⟩⟩, hF⟩
end RWM
