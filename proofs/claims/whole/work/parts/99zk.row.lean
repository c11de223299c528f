/-! a row of a tablet, as a text; the class reads it -/
section ROW
variable {σ : jM} {n p s : Nat} {T : Nat → Nat}
theorem vvs_le (hk : kds n T s = 2) : vvs n T s ≤ 99 := by
  unfold kds at hk
  by_cases c0 : n ≤ s
  · rw [if_pos c0] at hk; omega
  rw [if_neg c0] at hk
  by_cases c1 : 97 ≤ T s ∧ T s ≤ 122
  · rw [if_pos c1] at hk; omega
  rw [if_neg c1] at hk
  by_cases c2 : 48 ≤ T s ∧ T s ≤ 57
  · rw [if_pos c2] at hk
    by_cases c3 : dend n T s - s ≤ 2
    · unfold vvs
      by_cases c4 : dend n T s - s ≤ 1
      · rw [if_pos c4]; omega
      · rw [if_neg c4]
        have e : dend n T s = run (fun i => decide (48 ≤ T i ∧ T i ≤ 57)) (n - (s + 1)) (s + 1) := by
          unfold dend
          rw [run_on _ (by omega) (decide_eq_true c2)]
        by_cases c5 : s + 1 < n
        · by_cases c6 : 48 ≤ T (s + 1) ∧ T (s + 1) ≤ 57
          · omega
          · rw [run_off _ c5 (fun z => c6 (of_decide_eq_true z))] at e; omega
        · rw [run_end _ (by omega)] at e; omega
    · rw [if_neg c3] at hk; omega
  · rw [if_neg c2] at hk; omega
/-- the token is this byte; a place begins -/
abbrev isB (n : Nat) (T : Nat → Nat) (p b : Nat) : Prop := kdt n T p = 3 ∧ T (stt n T p) = b
abbrev BPl (n : Nat) (T : Nat → Nat) (p : Nat) : Prop := kdt n T p = 2 ∨ isB n T p 63
def plv (n : Nat) (T : Nat → Nat) (p : Nat) : Nat := if kdt n T p = 2 then vvs n T (stt n T p) else 99
/-- the row that begins at p, from its place i on: what is wrong (0: nothing), where, or its size, and what is behind it -/
def rowR (n : Nat) (T : Nat → Nat) : Nat → Nat → Nat → Nat × Nat × Nat := Nat.rec (fun _ _ => (1, 0, 0)) (fun _ F p i => if BPl n T p then (if i = 6 then (3, stt n T p, 0) else if kdt n T p = 2 ∧ 40 ≤ vvs n T (stt n T p) then (2, stt n T p, 0) else F (en n T p) (i + 1)) else if 0 < i ∧ isB n T p 46 then (0, i, en n T p) else (1, stt n T p, 0))
theorem rowR_s (k p i : Nat) : rowR n T (k + 1) p i = if BPl n T p then (if i = 6 then (3, stt n T p, 0) else if kdt n T p = 2 ∧ 40 ≤ vvs n T (stt n T p) then (2, stt n T p, 0) else rowR n T k (en n T p) (i + 1)) else if 0 < i ∧ isB n T p 46 then (0, i, en n T p) else (1, stt n T p, 0) := rfl
def cu (n : Nat) (T : Nat → Nat) (p : Nat) : Nat → Nat := Nat.rec p (fun _ q => en n T q)
theorem cu_s (p j : Nat) : cu n T p (j + 1) = en n T (cu n T p j) := rfl
theorem cu_le (hp : p ≤ n) (j : Nat) : cu n T p j ≤ n := by
  induction j with
  | zero => exact hp
  | succ j ih => rw [cu_s]; exact (en_le ih).2
/-- a row that is right -/
theorem rowR_ok {k i : Nat} {R : Nat × Nat × Nat} (hR : rowR n T k (cu n T p i) i = R) (h : R.1 = 0) : 1 ≤ R.2.1 ∧ R.2.1 + 1 ≤ i + k ∧ i ≤ R.2.1 ∧ R.2.2 = cu n T p (R.2.1 + 1) ∧ ∀ j, i ≤ j → j < R.2.1 → plv n T (cu n T p j) = 99 ∨ plv n T (cu n T p j) < 40 := by
  induction k generalizing i with
  | zero =>
    subst hR
    exact absurd h (show ¬ (1 : Nat) = 0 by omega)
  | succ k ih =>
    rw [rowR_s] at hR
    by_cases c1 : BPl n T (cu n T p i)
    · rw [if_pos c1] at hR
      by_cases c2 : i = 6
      · rw [if_pos c2] at hR; subst hR; exact absurd h (show ¬ (3 : Nat) = 0 by omega)
      · rw [if_neg c2] at hR
        by_cases c3 : kdt n T (cu n T p i) = 2 ∧ 40 ≤ vvs n T (stt n T (cu n T p i))
        · rw [if_pos c3] at hR; subst hR; exact absurd h (show ¬ (2 : Nat) = 0 by omega)
        · rw [if_neg c3] at hR
          obtain ⟨a1, a2, a3, a4, a5⟩ := ih (i := i + 1) hR
          refine ⟨a1, by omega, by omega, a4, fun j hj hj2 => ?_⟩
          by_cases e : j = i
          · subst e
            unfold plv
            by_cases c4 : kdt n T (cu n T p j) = 2
            · rw [if_pos c4]; exact Or.inr (by omega)
            · rw [if_neg c4]; exact Or.inl rfl
          · exact a5 j (by omega) hj2
    · rw [if_neg c1] at hR
      by_cases c2 : 0 < i ∧ isB n T (cu n T p i) 46
      · rw [if_pos c2] at hR
        subst hR
        exact ⟨c2.1, by show i + 1 ≤ _; omega, Nat.le_refl _, rfl, fun j hj hj2 => by have hj2 : j < i := hj2; omega⟩
      · rw [if_neg c2] at hR; subst hR; exact absurd h (show ¬ (1 : Nat) = 0 by omega)
theorem rowR_cd (k p i : Nat) : (rowR n T k p i).1 ≤ 3 := by
  induction k generalizing p i with
  | zero => exact (by decide : 1 ≤ 3)
  | succ k ih =>
    rw [rowR_s]
    split
    · split
      · exact Nat.le_refl _
      · split
        · exact (by decide : 2 ≤ 3)
        · exact ih _ _
    · split
      · exact (by decide : 0 ≤ 3)
      · exact (by decide : 1 ≤ 3)
/-! the class -/
theorem TKs_lt (hk : kds n T s ≠ 0) : s < n := by
  unfold kds at hk
  rcases Nat.lt_or_ge s n with w | w
  · exact w
  · rw [if_pos w] at hk; exact absurd rfl hk
theorem c_isByte (hT : TPc n T σ) (h : TKc n T p σ) {b : Nat} (hb : b < 256) : f_X11_isByte (nI b) σ = some (bI (isB n T p b), σ) := by
  obtain ⟨h5, h6, h4, h2, h3, h9⟩ := h
  have hkl := kds_le n T (stt n T p)
  refine ok_eq ?_
  unfold f_X11_isByte f_X11_isByte_20 f_X11_isByte_21
  show ok _ (fun a τ => a = bI (kds n T (stt n T p) = 3 ∧ T (stt n T p) = b) ∧ τ = σ)
  have hc : ckd (kds n T (stt n T p)) ≤ 3 := by unfold ckd; split <;> omega
  rw [h4, li3, ite_iff (nI_eq2 (by omega) (by omega)), gd_0, gd_1]
  refine ok_ite (fun z => ?_) (fun z => ?_)
  · by_cases c : kds n T (stt n T p) = 3
    · have := (hT.2.2 _ (TKs_lt (n := n) (T := T) (s := stt n T p) (by omega))).1
      rw [h3 c, ite_iff (nI_eq2 (by omega) (by omega))]
      refine ok_ite (fun y => ok_ret ⟨by rw [bI_pos ⟨c, y⟩], rfl⟩) (fun y => ok_ret ⟨by rw [bI_neg (fun w => y w.2)], rfl⟩)
    · have c4 : kds n T (stt n T p) = 4 := by
        unfold ckd at z
        split at z <;> omega
      rw [h9 c4, if_neg (fun y => (m1_nI (by omega)).mp y)]
      exact ok_ret ⟨by rw [bI_neg (fun w => c w.1)], rfl⟩
  · exact ok_ret ⟨by rw [bI_neg (fun w => z (by unfold ckd; rw [if_neg (by omega)]; exact w.1))], rfl⟩
theorem c_isNum (h : TKc n T p σ) : rI σ 262 4 = 2 ↔ kdt n T p = 2 := by
  have hkl := kds_le n T (stt n T p)
  have hc : ckd (kds n T (stt n T p)) ≤ 3 := by unfold ckd; split <;> omega
  rw [h.2.2.1, li2, nI_eq2 (by omega) (by omega)]
  unfold ckd kdt
  split <;> omega
theorem c_beginsPlace (hT : TPc n T σ) (h : TKc n T p σ) : f_X11_beginsPlace σ = some (bI (BPl n T p), σ) := by
  refine ok_eq ?_
  unfold f_X11_beginsPlace f_X11_beginsPlace_17 f_X11_beginsPlace_22
  rw [ite_iff (c_isNum h)]
  simp only [gd_0, gd_1]
  refine ok_ite (fun z => ok_ret ⟨by rw [bI_pos (Or.inl z)], rfl⟩) (fun z => ?_)
  have e := c_isByte hT h (b := 63) (by omega)
  have e : f_X11_isByte 63 σ = _ := e
  rw [e, bd_some, ite_bI]
  refine ok_ite (fun y => ok_ret ⟨by rw [bI_pos (Or.inr y)], rfl⟩) (fun y => ok_ret ⟨by rw [bI_neg (fun w => w.elim z y)], rfl⟩)
abbrev wrss (t row : Nat) (k j : Nat) : Prop := (k = 262 ∧ 4 ≤ j ∧ j ≤ 7) ∨ (k = tabX t + 1 ∧ j = row) ∨ (k = tabX t + 2 ∧ 6 * row ≤ j ∧ j < 6 * row + 6)
abbrev wrr (t row : Nat) (k j : Nat) : Prop := (k = 262 ∧ 2 ≤ j ∧ j ≤ 7) ∨ (k = tabX t + 1 ∧ j = row) ∨ (k = tabX t + 2 ∧ 6 * row ≤ j ∧ j < 6 * row + 6)
theorem shf_tab2 : ∀ t : Nat, t < 24 → (shf (tabX t + 2)).2 = 48 := by decide +kernel
/-- what the class says of a row -/
def RRc (n : Nat) (T : Nat → Nat) (p t row : Nat) (R : Nat × Nat × Nat) (r : Int32) (τ : jM) : Prop := (R.1 = 0 ∧ r = 1 ∧ rI τ (tabX t + 1) row = nI R.2.1 ∧ (∀ j, j < R.2.1 → rI τ (tabX t + 2) (6 * row + j) = pz (plv n T (cu n T p j))) ∧ TKc n T R.2.2 τ) ∨ (R.1 ≠ 0 ∧ r = 0 ∧ rI τ 262 2 = nI R.1 ∧ rI τ 262 3 = nI R.2.1)
theorem c_readRow (hT : TPc n T σ) (h : TKc n T p σ) (hp : p ≤ n) {t row : Nat} (ht : t < 24) (hr : row < 8) : ok (f_X11_readRow t (nI row) σ) (fun r τ => RRc n T p t row (rowR n T 7 p 0) r τ ∧ Fr (wrr t row) σ τ ∧ ((rowR n T 7 p 0).1 = 0 → Fr (wrss t row) σ τ)) := by
  have hx : 28 ≤ tabX t ∧ tabX t + 2 ≤ 99 := by unfold tabX; omega
  generalize hR : rowR n T 7 p 0 = R
  unfold f_X11_readRow
  refine L_X11_readRow_2 6 (fun k l3 τ => l3 = nI k ∧ TKc n T (cu n T p k) τ ∧ R = rowR n T (7 - k) (cu n T p k) k ∧ (∀ j, j < k → rI τ (tabX t + 2) (6 * row + j) = pz (plv n T (cu n T p j))) ∧ Fr (wrss t row) σ τ) (by omega) (fun k q l3 τ hk hI hq => ?_) (Nat.zero_le _) ⟨rfl, h, hR.symm, fun j hj => by omega, Fr.refl⟩
  obtain ⟨rfl, hK, hR1, hP, hF⟩ := hI
  have hT1 := TPc_fr hT hF (by omega) (fun j => by omega)
  have hcl := cu_le (T := T) hp k
  obtain ⟨m, hm⟩ : ∃ m, 7 - k = m + 1 := ⟨6 - k, by omega⟩
  have hm2 : 7 - (k + 1) = m := by omega
  rw [hm, rowR_s] at hR1
  unfold s_X11_readRow_2
  rw [li6, ite_iff (nI_lt2 (by omega) (by omega)), if_neg (by omega), ite_iff (le0_n (by omega))]
  have flt : ∀ {τ' : jM} (f : Nat), TKc n T (cu n T p k) τ' → Fr (wrss t row) σ τ' → R = (f + 1, stt n T (cu n T p k), 0) → ok (bd (f_X11_fault (nI (f + 1)) τ') (fun r σ25 => gd (r = 0 ∨ r = 1) (some (r, σ25)))) (fun r τ => RRc n T p t row R r τ ∧ Fr (wrr t row) σ τ ∧ (R.1 = 0 → Fr (wrss t row) σ τ)) := fun {τ'} f x1 x2 x3 => by
    rw [q_X11_fault, bd_some, gd_0, x1.1]
    refine ok_ret ⟨Or.inr ⟨by rw [x3]; exact Nat.succ_ne_zero f, rfl, by rw [rI_nj (by omega), rI_same, x3], by rw [rI_same, x3]⟩, Fr.w (Fr.w (x2.mono (fun k j z => by omega)) (by omega)) (by omega), fun y => by rw [x3] at y; exact absurd y (Nat.succ_ne_zero f)⟩
  have plc' : ¬ (0 < k ∧ isB n T (cu n T p k) 46) → ok (f_X11_readRow_34 q t (nI row) (nI k) τ) (fun r τ => RRc n T p t row R r τ ∧ Fr (wrr t row) σ τ ∧ (R.1 = 0 → Fr (wrss t row) σ τ)) := fun hd => by
    unfold f_X11_readRow_34
    rw [c_beginsPlace hT1 hK, bd_some, ite_bI]
    refine ok_ite (fun z => ?_) (fun z => ?_)
    · rw [if_pos z] at hR1
      rw [li6, ite_iff (nI_eq2 (by omega) (by omega))]
      refine ok_ite (fun z2 => ?_) (fun z2 => ?_)
      · rw [if_pos z2] at hR1
        exact flt 2 hK hF hR1
      · rw [if_neg z2] at hR1
        have put : ∀ x : Int32, x = pz (plv n T (cu n T p k)) → ¬ (kdt n T (cu n T p k) = 2 ∧ 40 ≤ vvs n T (stt n T (cu n T p k))) → ok (f_X11_readRow_109 q t (nI row) (nI k) (tabX t + 2) (nI row * nI 6 + nI k) x τ) (fun r τ => RRc n T p t row R r τ ∧ Fr (wrr t row) σ τ ∧ (R.1 = 0 → Fr (wrss t row) σ τ)) := fun x hx' hv => by
          rw [if_neg hv] at hR1
          unfold f_X11_readRow_109
          rw [pk_mul, nI_add, shf_tab2 t ht, gd_n (by omega) (by omega), nI_ix (by omega)]
          have hF1 : Fr (wrss t row) σ (wI τ (tabX t + 2) (row * 6 + k) x) := Fr.w hF (by omega)
          have e6 : rI (wI τ (tabX t + 2) (row * 6 + k) x) 262 6 = nI (cu n T p (k + 1)) := by rw [rI_nk (by omega)]; exact hK.2.1
          refine ok_bd (c_advance (TPc_fr hT hF1 (by omega) (fun j => by omega)) (cu_le hp (k + 1)) e6) (fun _ τ1 u => ?_)
          refine hq (k + 1) _ _ (by omega) (by omega) ⟨nI_1 k, u.1, by rw [hm2]; exact hR1, fun j hj => ?_, hF1.trans (u.2.mono (fun k j z => by omega))⟩
          rw [u.2.I _ _ (by omega)]
          by_cases e : j = k
          · subst e
            rw [show 6 * row + j = row * 6 + j by omega, rI_same]; exact hx'
          · rw [rI_nj (by omega)]; exact hP j (by omega)
        rw [ite_iff (c_isNum hK)]
        unfold f_X11_readRow_83
        rw [ite_iff (c_isNum hK), li6]
        by_cases c2 : kdt n T (cu n T p k) = 2
        · have hv := vvs_le (n := n) (T := T) (s := stt n T (cu n T p k)) c2
          have e7 := hK.2.2.2.1 c2
          rw [if_pos c2, e_isSign, bd_some, ite_bI, e7, ite_iff (show (0 ≤ nI (vvs n T (stt n T (cu n T p k))) ∧ nI (vvs n T (stt n T (cu n T p k))) < 40) ↔ vvs n T (stt n T (cu n T p k)) < 40 from ⟨fun w => (nI_lt2 (b := 40) (by omega) (by omega)).mp w.2, fun w => ⟨nI_pos' (by omega), (nI_lt2 (b := 40) (by omega) (by omega)).mpr w⟩⟩)]
          refine ok_ite (fun y => ?_) (fun y => ?_)
          · rw [if_pos ((c_isNum hK).mpr c2)]
            refine put _ ?_ (fun w => by omega)
            unfold plv
            rw [if_pos c2, pz_n (by omega)]
          · rw [if_pos ⟨c2, by omega⟩] at hR1
            exact flt 1 hK hF hR1
        · rw [if_neg c2, if_neg c2]
          refine put _ ?_ (fun w => c2 w.1)
          unfold plv
          rw [if_neg c2]; rfl
    · rw [if_neg z, if_neg hd] at hR1
      exact flt 0 hK hF hR1
  refine ok_ite (fun z => plc' (fun y => by omega)) (fun z => ?_)
  have e := c_isByte hT1 hK (b := 46) (by omega)
  have e : f_X11_isByte 46 τ = _ := e
  rw [e, bd_some, ite_bI]
  refine ok_ite (fun y => ?_) (fun y => plc' (fun w => y w.2))
  have nb : ¬ BPl n T (cu n T p k) := fun w => by
    rcases w with w | w
    · have := y.1; omega
    · have := y.2; have := w.2; omega
  rw [if_neg nb, if_pos ⟨by omega, y⟩] at hR1
  rw [gd_n (by omega) (by omega), nI_ix (by omega)]
  have hF1 : Fr (wrss t row) σ (wI τ (tabX t + 1) row (nI k)) := Fr.w hF (by omega)
  have e6 : rI (wI τ (tabX t + 1) row (nI k)) 262 6 = nI (cu n T p (k + 1)) := by rw [rI_nk (by omega)]; exact hK.2.1
  refine ok_bd (c_advance (TPc_fr hT hF1 (by omega) (fun j => by omega)) (cu_le hp (k + 1)) e6) (fun _ τ1 u => ?_)
  refine ok_ret ⟨Or.inl ⟨by rw [hR1], rfl, ?_, fun j hj => ?_, by rw [hR1]; exact u.1⟩, (hF1.trans (u.2.mono (fun k j z => by omega))).mono (fun k j z => by omega), fun _ => hF1.trans (u.2.mono (fun k j z => by omega))⟩
  · rw [u.2.I _ _ (by omega), rI_same, hR1]
  · rw [hR1] at hj
    rw [u.2.I _ _ (by omega), rI_nk (by omega)]
    exact hP j hj
end ROW
