/-! a tablet as a text; the class reads it -/
section TBC
variable {σ : jM} {n p s : Nat} {T : Nat → Nat}
/-- what is wrong (0: nothing), and where, or how many rows -/
def tabR (n : Nat) (T : Nat → Nat) : Nat → Nat → Nat → Nat × Nat := Nat.rec (fun _ _ => (1, 0)) (fun _ F p row => if 0 < row ∧ kdt n T p = 0 then (0, row) else if BPl n T p then (if row = 8 then (3, stt n T p) else if (rowR n T 7 p 0).1 = 0 then F (rowR n T 7 p 0).2.2 (row + 1) else ((rowR n T 7 p 0).1, (rowR n T 7 p 0).2.1)) else (1, stt n T p))
theorem tabR_s (k p row : Nat) : tabR n T (k + 1) p row = if 0 < row ∧ kdt n T p = 0 then (0, row) else if BPl n T p then (if row = 8 then (3, stt n T p) else if (rowR n T 7 p 0).1 = 0 then tabR n T k (rowR n T 7 p 0).2.2 (row + 1) else ((rowR n T 7 p 0).1, (rowR n T 7 p 0).2.1)) else (1, stt n T p) := rfl
/-- where row w begins -/
def rst (n : Nat) (T : Nat → Nat) : Nat → Nat := Nat.rec 0 (fun _ p => (rowR n T 7 p 0).2.2)
theorem rst_s (w : Nat) : rst n T (w + 1) = (rowR n T 7 (rst n T w) 0).2.2 := rfl
theorem row_ok (h : (rowR n T 7 p 0).1 = 0) : 1 ≤ (rowR n T 7 p 0).2.1 ∧ (rowR n T 7 p 0).2.1 ≤ 6 ∧ (p ≤ n → (rowR n T 7 p 0).2.2 ≤ n) ∧ ∀ j, j < (rowR n T 7 p 0).2.1 → plv n T (cu n T p j) = 99 ∨ plv n T (cu n T p j) < 40 := by
  obtain ⟨a1, a2, a3, a4, a5⟩ := rowR_ok (n := n) (T := T) (p := p) (k := 7) (i := 0) (R := rowR n T 7 p 0) rfl h
  exact ⟨a1, by omega, fun hp => by rw [a4]; exact cu_le hp _, fun j hj => a5 j (Nat.zero_le _) hj⟩
theorem tabR_cd (k p row : Nat) : (tabR n T k p row).1 ≤ 3 := by
  induction k generalizing p row with
  | zero => exact (by decide : 1 ≤ 3)
  | succ k ih =>
    rw [tabR_s]
    split
    · exact (by decide : 0 ≤ 3)
    · split
      · split
        · exact Nat.le_refl _
        · split
          · exact ih _ _
          · exact rowR_cd _ _ _
      · exact (by decide : 1 ≤ 3)
theorem tabR_ok {k i : Nat} {R : Nat × Nat} (hR : tabR n T k (rst n T i) i = R) (h : R.1 = 0) (hi : i ≤ 8) : i ≤ R.2 ∧ 1 ≤ R.2 ∧ R.2 ≤ 8 ∧ ∀ w, i ≤ w → w < R.2 → (rowR n T 7 (rst n T w) 0).1 = 0 := by
  induction k generalizing i with
  | zero =>
    subst hR
    exact absurd h (show ¬ (1 : Nat) = 0 by omega)
  | succ k ih =>
    rw [tabR_s] at hR
    by_cases c0 : 0 < i ∧ kdt n T (rst n T i) = 0
    · rw [if_pos c0] at hR
      subst hR
      exact ⟨Nat.le_refl _, c0.1, hi, fun w h1 h2 => by have h2 : w < i := h2; omega⟩
    rw [if_neg c0] at hR
    by_cases c1 : BPl n T (rst n T i)
    · rw [if_pos c1] at hR
      by_cases c2 : i = 8
      · rw [if_pos c2] at hR; subst hR; exact absurd h (show ¬ (3 : Nat) = 0 by omega)
      · rw [if_neg c2] at hR
        by_cases c3 : (rowR n T 7 (rst n T i) 0).1 = 0
        · rw [if_pos c3] at hR
          obtain ⟨a1, a2, a3, a4⟩ := ih (i := i + 1) hR (by omega)
          refine ⟨by omega, a2, a3, fun w h1 h2 => ?_⟩
          by_cases e : w = i
          · subst e; exact c3
          · exact a4 w (by omega) h2
        · rw [if_neg c3] at hR
          subst hR
          exact absurd h c3
    · rw [if_neg c1] at hR; subst hR; exact absurd h (show ¬ (1 : Nat) = 0 by omega)
/-- the class has row w -/
def rwd (n : Nat) (T : Nat → Nat) (t w : Nat) (τ : jM) : Prop := (rowR n T 7 (rst n T w) 0).1 = 0 ∧ rI τ (tabX t + 1) w = nI (rowR n T 7 (rst n T w) 0).2.1 ∧ ∀ j, j < (rowR n T 7 (rst n T w) 0).2.1 → rI τ (tabX t + 2) (6 * w + j) = pz (plv n T (cu n T (rst n T w) j))
abbrev wtb (t : Nat) (k j : Nat) : Prop := (k = 262 ∧ 2 ≤ j ∧ j ≤ 7) ∨ (k = tabX t ∧ j = 2) ∨ k = tabX t + 1 ∨ k = tabX t + 2
theorem c_begin (hT : TPc n T σ) : ok (f_X11_begin σ) (fun _ τ => TKc n T 0 τ ∧ rI τ 262 3 = -1 ∧ Fr (fun k j => k = 262 ∧ 2 ≤ j ∧ j ≤ 7) σ τ) := by
  unfold f_X11_begin
  have hF0 : Fr (fun k j => k = 262 ∧ 2 ≤ j ∧ j ≤ 7) σ (wI (wI (wI σ 262 2 0) 262 3 (-1)) 262 6 0) := Fr.w (Fr.w (Fr.w Fr.refl (by omega)) (by omega)) (by omega)
  refine ok_bd (c_advance (p := 0) (TPc_fr hT hF0 (by omega) (fun j => by omega)) (Nat.zero_le _) (rI_same _ _ _ _)) (fun _ τ u => ?_)
  exact ok_ret ⟨u.1, by rw [u.2.I _ _ (by omega), rI_nj (by omega), rI_same], hF0.trans (u.2.mono (fun k j z => by omega))⟩
theorem c_isEnd (h : TKc n T p σ) : rI σ 262 4 = 0 ↔ kdt n T p = 0 := by
  have hkl := kds_le n T (stt n T p)
  have hc : ckd (kds n T (stt n T p)) ≤ 3 := by unfold ckd; split <;> omega
  rw [h.2.2.1, show (0 : Int32) = nI 0 from rfl, nI_eq2 (by omega) (by omega)]
  unfold ckd kdt
  split <;> omega
theorem c_readTablet (hT : TPc n T σ) {t : Nat} (ht : t < 24) : ok (f_X11_readTablet t σ) (fun r τ => Fr (wtb t) σ τ ∧ (((tabR n T 9 0 0).1 = 0 ∧ r = 1 ∧ rI τ (tabX t) 2 = nI (tabR n T 9 0 0).2 ∧ (∀ w, w < (tabR n T 9 0 0).2 → rwd n T t w τ) ∧ rI τ 262 3 = -1) ∨ ((tabR n T 9 0 0).1 ≠ 0 ∧ r = 0 ∧ rI τ 262 2 = nI (tabR n T 9 0 0).1 ∧ rI τ 262 3 = nI (tabR n T 9 0 0).2))) := by
  have hx : 28 ≤ tabX t ∧ tabX t + 2 ≤ 99 := by unfold tabX; omega
  generalize hR : tabR n T 9 0 0 = R
  unfold f_X11_readTablet
  refine ok_bd (c_begin hT) (fun _ τ0 u => ?_)
  obtain ⟨u1, u2, u3⟩ := u
  refine L_X11_readTablet_6 8 (fun k l2 τ => l2 = nI k ∧ TKc n T (rst n T k) τ ∧ rst n T k ≤ n ∧ R = tabR n T (9 - k) (rst n T k) k ∧ (∀ w, w < k → rwd n T t w τ) ∧ rI τ 262 3 = -1 ∧ Fr (wtb t) σ τ) (by omega) (fun k q l2 τ hk hI hq => ?_) (Nat.zero_le _) ⟨rfl, u1, Nat.zero_le _, hR.symm, fun w hw => by omega, u2, u3.mono (fun k j z => Or.inl z)⟩
  obtain ⟨rfl, hK, hn, hR1, hP, e3, hF⟩ := hI
  have hT1 := TPc_fr hT hF (by omega) (fun j => by omega)
  obtain ⟨m, hm⟩ : ∃ m, 9 - k = m + 1 := ⟨8 - k, by omega⟩
  have hm2 : 9 - (k + 1) = m := by omega
  rw [hm, tabR_s] at hR1
  unfold s_X11_readTablet_6
  rw [li8, ite_iff (nI_lt2 (by omega) (by omega)), if_neg (by omega), ite_iff (le0_n (by omega)), ite_iff (c_isEnd hK)]
  have flt : ∀ f : Nat, R = (f + 1, stt n T (rst n T k)) → ok (bd (f_X11_fault (nI (f + 1)) τ) (fun r σ25 => gd (r = 0 ∨ r = 1) (some (r, σ25)))) (fun r τ => Fr (wtb t) σ τ ∧ ((R.1 = 0 ∧ r = 1 ∧ rI τ (tabX t) 2 = nI R.2 ∧ (∀ w, w < R.2 → rwd n T t w τ) ∧ rI τ 262 3 = -1) ∨ (R.1 ≠ 0 ∧ r = 0 ∧ rI τ 262 2 = nI R.1 ∧ rI τ 262 3 = nI R.2))) := fun f x3 => by
    rw [q_X11_fault, bd_some, gd_0, hK.1]
    refine ok_ret ⟨Fr.w (Fr.w hF (by omega)) (by omega), Or.inr ⟨by rw [x3]; exact Nat.succ_ne_zero f, rfl, by rw [rI_nj (by omega), rI_same, x3], by rw [rI_same, x3]⟩⟩
  have go : ¬ (0 < k ∧ kdt n T (rst n T k) = 0) → ok (f_X11_readTablet_30 q t (nI k) τ) (fun r τ => Fr (wtb t) σ τ ∧ ((R.1 = 0 ∧ r = 1 ∧ rI τ (tabX t) 2 = nI R.2 ∧ (∀ w, w < R.2 → rwd n T t w τ) ∧ rI τ 262 3 = -1) ∨ (R.1 ≠ 0 ∧ r = 0 ∧ rI τ 262 2 = nI R.1 ∧ rI τ 262 3 = nI R.2))) := fun hd => by
    rw [if_neg hd] at hR1
    unfold f_X11_readTablet_30
    rw [c_beginsPlace hT1 hK, bd_some, ite_bI]
    refine ok_ite (fun z => ?_) (fun z => ?_)
    · rw [if_pos z] at hR1
      rw [li8, ite_iff (nI_eq2 (by omega) (by omega))]
      refine ok_ite (fun z2 => ?_) (fun z2 => ?_)
      · rw [if_pos z2] at hR1
        exact flt 2 hR1
      · rw [if_neg z2] at hR1
        refine ok_bd (c_readRow hT1 hK hn ht (row := k) (by omega)) (fun r τ1 u => ?_)
        obtain ⟨w1, w2, w3⟩ := u
        rcases w1 with ⟨y1, rfl, y3, y4, y5⟩ | ⟨y1, rfl, y3, y4⟩
        · rw [if_pos y1] at hR1
          rw [if_neg (by decide)]
          have w3 := w3 y1
          refine hq (k + 1) _ _ (by omega) (by omega) ⟨nI_1 k, y5, (row_ok y1).2.2.1 hn, by rw [hm2]; exact hR1, fun w hw => ?_, (w3.I _ _ (by omega)).trans e3, hF.trans (w2.mono (fun k j z => by omega))⟩
          by_cases e : w = k
          · subst e; exact ⟨y1, y3, y4⟩
          · obtain ⟨p0, p1, p2⟩ := hP w (by omega)
            have h6 := (row_ok p0).2.1
            refine ⟨p0, (w3.I _ _ (by omega)).trans p1, fun j hj => ?_⟩
            exact (w3.I _ _ (by omega)).trans (p2 j hj)
        · rw [if_neg y1] at hR1
          rw [if_pos rfl]
          refine ok_ret ⟨hF.trans (w2.mono (fun k j z => by omega)), Or.inr ⟨by rw [hR1]; exact y1, rfl, by rw [hR1]; exact y3, by rw [hR1]; exact y4⟩⟩
    · rw [if_neg z] at hR1
      exact flt 0 hR1
  refine ok_ite (fun z => go (fun y => by omega)) (fun z => ok_ite (fun y => ?_) (fun y => go (fun w => y w.2)))
  rw [if_pos ⟨by omega, y⟩] at hR1
  refine ok_ret ⟨Fr.w hF (by omega), Or.inl ⟨by rw [hR1], rfl, by rw [rI_same, hR1], fun w hw => ?_, by rw [rI_nk (by omega)]; exact e3⟩⟩
  rw [hR1] at hw
  obtain ⟨p0, p1, p2⟩ := hP w hw
  exact ⟨p0, (rI_nk (by omega)).trans p1, fun j hj => (rI_nk (by omega)).trans (p2 j hj)⟩
end TBC
