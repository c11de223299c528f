/-! the rules: the class -/
section RLC
variable {σ : jM} {n p q s : Nat} {T : Nat → Nat}
theorem cR_cd (p : Nat) : (cR n T p).1 ≤ 3 := by
  have o : ∀ w lo hi df q, (opR n T w lo hi df q).1 ≤ 2 := fun w lo hi df q => by
    unfold opR
    split
    · split
      · exact Nat.zero_le _
      · exact numc_le _ _ _
    · exact Nat.zero_le _
  unfold cR clR
  split
  · unfold wrR
    split
    · split
      · split
        · split
          · exact Nat.zero_le _
          · exact (by decide : 2 ≤ 3)
        · exact (by decide : 1 ≤ 3)
      · exact (by decide : 1 ≤ 3)
    · exact (by decide : 1 ≤ 3)
  · split
    · unfold drR
      split
      · split
        · exact (by decide : 2 ≤ 3)
        · exact Nat.zero_le _
      · exact (by decide : 1 ≤ 3)
    · unfold shR
      split
      · split
        · split
          · exact Nat.zero_le _
          · exact Nat.le_trans (o _ _ _ _ _) (by decide)
        · exact Nat.le_trans (o _ _ _ _ _) (by decide)
      · show (whR n T (en n T p)).1 ≤ 3
        unfold whR
        split
        · exact Nat.zero_le _
        · split
          · exact Nat.zero_le _
          · split
            · exact Nat.zero_le _
            · exact Nat.le_trans (numc_le _ _ _) (by decide)
theorem rulR_cd (k p c : Nat) : (rulR n T k p c).1 ≤ 3 := by
  induction k generalizing p c with
  | zero => exact (by decide : 1 ≤ 3)
  | succ k ih =>
    rw [rulR_s]
    split
    · exact (by decide : 0 ≤ 3)
    · split
      · exact (by decide : 1 ≤ 3)
      · split
        · exact Nat.le_refl _
        · split
          · split
            · exact ih _ _
            · exact (by decide : 1 ≤ 3)
          · exact cR_cd _
theorem rulR_le {k i : Nat} {R : Nat × Nat} (hR : rulR n T k (cbg n T i) i = R) (h : R.1 = 0) (hi : i ≤ 12) : R.2 ≤ 12 := by
  induction k generalizing i with
  | zero =>
    subst hR
    exact absurd h (show ¬ (1 : Nat) = 0 by omega)
  | succ k ih =>
    rw [rulR_s] at hR
    by_cases c0 : kdt n T (cbg n T i) = 0
    · rw [if_pos c0] at hR
      subst hR
      exact hi
    rw [if_neg c0] at hR
    by_cases c1 : knd n T (cbg n T i) = 9
    · rw [if_pos c1] at hR; subst hR; exact absurd h (show ¬ (1 : Nat) = 0 by omega)
    rw [if_neg c1] at hR
    by_cases c2 : i = 12
    · rw [if_pos c2] at hR; subst hR; exact absurd h (show ¬ (3 : Nat) = 0 by omega)
    rw [if_neg c2] at hR
    by_cases c3 : (cR n T (cbg n T i)).1 = 0
    · rw [if_pos c3] at hR
      by_cases c4 : isB n T (cR n T (cbg n T i)).2.1 59
      · rw [if_pos c4] at hR
        exact ih (i := i + 1) hR (by omega)
      · rw [if_neg c4] at hR; subst hR; exact absurd h (show ¬ (1 : Nat) = 0 by omega)
    · rw [if_neg c3] at hR; subst hR; exact absurd h c3
/-- clause c is right -/
def cgd (n : Nat) (T : Nat → Nat) (c : Nat) : Prop := (cR n T (cbg n T c)).1 = 0 ∧ knd n T (cbg n T c) ≤ 3 ∧ cbg n T c ≤ n
theorem cgd_ok {c : Nat} (h : cgd n T c) : (cR n T (cbg n T c)).2.1 ≤ n ∧ (knd n T (cbg n T c) < 2 → (cR n T (cbg n T c)).2.2.1 ≤ 7 ∧ 2 ≤ (cR n T (cbg n T c)).2.2.2.1 ∧ (cR n T (cbg n T c)).2.2.2.1 ≤ 6 ∧ 1 ≤ (cR n T (cbg n T c)).2.2.2.2 ∧ (cR n T (cbg n T c)).2.2.2.2 ≤ 99) ∧ (knd n T (cbg n T c) = 2 ∨ knd n T (cbg n T c) = 3 → 97 ≤ (cR n T (cbg n T c)).2.2.1 ∧ (cR n T (cbg n T c)).2.2.1 ≤ 122) ∧ (knd n T (cbg n T c) = 2 → 97 ≤ (cR n T (cbg n T c)).2.2.2.1 ∧ (cR n T (cbg n T c)).2.2.2.1 ≤ 122) := clR_ok (en_le h.2.2).2 h.1
/-- the class has clause c -/
def cdat (n : Nat) (T : Nat → Nat) (rk c : Nat) (τ : jM) : Prop := cgd n T c ∧ rI τ (rulX rk + 1) c = nI (knd n T (cbg n T c)) ∧ CDc rk c (knd n T (cbg n T c)) (cR n T (cbg n T c)).2.2 τ
theorem cdat_fr {rk c : Nat} {τ : jM} (h : cdat n T rk c σ) (e : ∀ k, rulX rk + 1 ≤ k → k ≤ rulX rk + 6 → rI τ k c = rI σ k c) : cdat n T rk c τ := by
  obtain ⟨h1, h2, h3, h4, h5⟩ := h
  refine ⟨h1, (e _ (by omega) (by omega)).trans h2, fun z => ?_, fun z => (e _ (by omega) (by omega)).trans (h4 z), fun z => (e _ (by omega) (by omega)).trans (h5 z)⟩
  obtain ⟨a1, a2, a3⟩ := h3 z
  exact ⟨(e _ (by omega) (by omega)).trans a1, (e _ (by omega) (by omega)).trans a2, (e _ (by omega) (by omega)).trans a3⟩
abbrev wru (rk k j : Nat) : Prop := (k = 262 ∧ 2 ≤ j ∧ j ≤ 7) ∨ (k = rulX rk ∧ j = 1) ∨ (rulX rk + 1 ≤ k ∧ k ≤ rulX rk + 6)
theorem c_readRules (hT : TPc n T σ) {rk : Nat} (hr : rk < 10) : ok (f_X11_readRules rk σ) (fun r τ => Fr (wru rk) σ τ ∧ (((rulR n T 13 0 0).1 = 0 ∧ r = 1 ∧ rI τ (rulX rk) 1 = nI (rulR n T 13 0 0).2 ∧ (∀ c, c < (rulR n T 13 0 0).2 → cdat n T rk c τ) ∧ rI τ 262 3 = -1) ∨ ((rulR n T 13 0 0).1 ≠ 0 ∧ r = 0 ∧ rI τ 262 2 = nI (rulR n T 13 0 0).1 ∧ rI τ 262 3 = nI (rulR n T 13 0 0).2))) := by
  have hx : rulX rk = 100 + 9 * rk := rulX_lt hr
  generalize hR : rulR n T 13 0 0 = R
  unfold f_X11_readRules
  refine ok_bd (c_begin hT) (fun _ τ0 u => ?_)
  obtain ⟨u1, u2, u3⟩ := u
  refine L_X11_readRules_6 12 (fun k l2 τ => l2 = nI k ∧ TKc n T (cbg n T k) τ ∧ cbg n T k ≤ n ∧ R = rulR n T (13 - k) (cbg n T k) k ∧ (∀ c, c < k → cdat n T rk c τ) ∧ rI τ 262 3 = -1 ∧ Fr (wru rk) σ τ) (by omega) (fun k qq l2 τ hk hI hq => ?_) (Nat.zero_le _) ⟨rfl, u1, Nat.zero_le _, hR.symm, fun w hw => by omega, u2, u3.mono (fun k j z => Or.inl z)⟩
  obtain ⟨rfl, hK, hn, hR1, hP, e3, hF⟩ := hI
  have hT1 := TPc_fr hT hF (by omega) (fun j => by omega)
  obtain ⟨m, hm⟩ : ∃ m, 13 - k = m + 1 := ⟨12 - k, by omega⟩
  have hm2 : 13 - (k + 1) = m := by omega
  rw [hm, rulR_s] at hR1
  unfold s_X11_readRules_6
  rw [li12, ite_iff (nI_lt2 (by omega) (by omega)), if_neg (by omega), ite_iff (c_isEnd hK)]
  have flt : ∀ {τ' : jM} {q' : Nat} (f : Nat), TKc n T q' τ' → Fr (wru rk) σ τ' → R = (f + 1, stt n T q') → ok (bd (f_X11_fault (nI (f + 1)) τ') (fun r σ25 => gd (r = 0 ∨ r = 1) (some (r, σ25)))) (fun r τ => Fr (wru rk) σ τ ∧ ((R.1 = 0 ∧ r = 1 ∧ rI τ (rulX rk) 1 = nI R.2 ∧ (∀ c, c < R.2 → cdat n T rk c τ) ∧ rI τ 262 3 = -1) ∨ (R.1 ≠ 0 ∧ r = 0 ∧ rI τ 262 2 = nI R.1 ∧ rI τ 262 3 = nI R.2))) := fun {τ' q'} f x1 x2 x3 => by
    rw [c_flt x1]
    refine ok_ret ⟨Fr.w (Fr.w x2 (by omega)) (by omega), Or.inr ⟨by rw [x3]; exact Nat.succ_ne_zero f, rfl, by rw [rI_nj (by omega), rI_same, x3], by rw [rI_same, x3]⟩⟩
  refine ok_ite (fun z => ?_) (fun z => ?_)
  · rw [if_pos z] at hR1
    refine ok_ret ⟨Fr.w hF (by omega), Or.inl ⟨by rw [hR1], rfl, by rw [rI_same, hR1], fun c hc => ?_, by rw [rI_nk (by omega)]; exact e3⟩⟩
    rw [hR1] at hc
    exact cdat_fr (hP c hc) (fun k' a b => rI_nk (by omega))
  · rw [if_neg z] at hR1
    rw [c_clauseKind hT1 hK hn, bd_some]
    by_cases c1 : knd n T (cbg n T k) = 9
    · rw [if_pos c1] at hR1
      rw [if_pos c1, if_pos rfl]
      exact flt 0 hK hF hR1
    · rw [if_neg c1] at hR1
      have hkn := (knd_le (n := n) (T := T) (cbg n T k)).resolve_left c1
      rw [if_neg c1, if_neg (fun y => (nI_m1 (by omega)).mp y), ite_iff (nI_eq2 (by omega) (by omega))]
      refine ok_ite (fun c2 => ?_) (fun c2 => ?_)
      · rw [if_pos c2] at hR1
        exact flt 2 hK hF hR1
      · rw [if_neg c2] at hR1
        rw [gd_n (by omega) (by omega), nI_ix (by omega)]
        have l1 := (en_le (T := T) hn).2
        have hF1 : Fr (wru rk) σ (wI τ (rulX rk + 1) k (nI (knd n T (cbg n T k)))) := Fr.w hF (by omega)
        refine ok_bd (c_adv (TPc_fr hT hF1 (by omega) (fun j => by omega)) (TKc_fr hK (fun j _ _ => rI_nk (by omega))) hn) (fun _ τ1 y => ?_)
        have hF2 : Fr (wru rk) σ τ1 := hF1.trans (y.2.mono (fun k j z => by omega))
        have hT2 := TPc_fr hT hF2 (by omega) (fun j => by omega)
        have e1 : rI τ1 (rulX rk + 1) k = nI (knd n T (cbg n T k)) := by rw [y.2.I _ _ (by omega), rI_same]
        refine ok_bd (c_readClause hT2 y.1 l1 hr (c := k) (by omega) hkn e1) (fun r τ2 w => ?_)
        have hcR : cR n T (cbg n T k) = clR n T (knd n T (cbg n T k)) (en n T (cbg n T k)) := rfl
        rw [← hcR] at w
        rcases w with ⟨w1, rfl, w3, w4, w5⟩ | ⟨w1, rfl, w3, w4, w5⟩
        · rw [if_pos w1] at hR1
          rw [if_neg (by decide)]
          have hF3 : Fr (wru rk) σ τ2 := hF2.trans (w5.mono (fun k j z => by omega))
          have hT3 := TPc_fr hT hF3 (by omega) (fun j => by omega)
          have hg : cgd n T k := ⟨w1, hkn, hn⟩
          have hle := (cgd_ok hg).1
          have e := c_isByte hT3 w3 (b := 59) (by omega)
          have e : f_X11_isByte 59 τ2 = _ := e
          rw [e, bd_some, ite_bI]
          refine ok_ite (fun y2 => ?_) (fun y2 => ?_)
          · rw [if_pos y2] at hR1
            refine ok_bd (c_adv hT3 w3 hle) (fun _ τ3 v => ?_)
            refine hq (k + 1) _ _ (by omega) (by omega) ⟨nI_1 k, v.1, (en_le hle).2, by rw [hm2]; exact hR1, fun c hc => ?_, ?_, hF3.trans (v.2.mono (fun k j z => by omega))⟩
            · by_cases e : c = k
              · subst e
                have hc2 : cdat n T rk c τ2 := ⟨hg, by rw [w5.I _ _ (by omega)]; exact e1, w4⟩
                exact cdat_fr hc2 (fun k' a b => v.2.I _ _ (by omega))
              · refine cdat_fr (hP c (by omega)) (fun k' a b => ?_)
                rw [v.2.I _ _ (by omega), w5.I _ _ (by omega), y.2.I _ _ (by omega), rI_nj e]
            · rw [v.2.I _ _ (by omega), w5.I _ _ (by omega), y.2.I _ _ (by omega), rI_nk (by omega)]; exact e3
          · rw [if_neg y2] at hR1
            exact flt 0 w3 hF3 hR1
        · rw [if_neg w1] at hR1
          rw [if_pos rfl]
          exact ok_ret ⟨hF2.trans (w5.mono (fun k j z => by omega)), Or.inr ⟨by rw [hR1]; exact w1, rfl, by rw [hR1]; exact w3, by rw [hR1]; exact w4⟩⟩
end RLC
