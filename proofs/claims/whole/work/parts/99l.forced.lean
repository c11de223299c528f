/-! forced -/
section FRC
variable {D : dD} {σ : jM} {v : Nat} {C B P : dD → Nat → jM → Prop}
theorem lct_two {s c c' : Nat} (h : c ≠ c') (L : List (gF × gF)) : lct s c L + lct s c' L ≤ L.length := by
  induction L with
  | nil => exact Nat.le_refl _
  | cons x L ih =>
    unfold lct at *
    rw [List.countP_cons, List.countP_cons, List.length_cons]
    by_cases h1 : x.1 s = c
    · rw [if_pos (decide_eq_true h1), if_neg (fun z => h (by rw [← h1]; exact of_decide_eq_true z))]
      omega
    · rw [if_neg (fun z => h1 (of_decide_eq_true z))]
      split <;> omega
theorem lct_le (s c : Nat) (L : List (gF × gF)) : lct s c L ≤ L.length := List.countP_le_length
theorem lct_ex {s c : Nat} {L : List (gF × gF)} (h : 0 < lct s c L) : ∃ x, x ∈ L ∧ x.1 s = c := by
  obtain ⟨x, h1, h2⟩ := List.countP_pos_iff.mp h
  exact ⟨x, h1, of_decide_eq_true h2⟩
def psb (p : Nat → Bool) : Nat → Nat → Nat → Nat := Nat.rec (fun _ _ => 999) (fun _ F c k => if p c = true then (if k = 0 then c else F (c + 1) (k - 1)) else F (c + 1) k)
theorem psb_s (p : Nat → Bool) (m c k : Nat) : psb p (m + 1) c k = if p c = true then (if k = 0 then c else psb p m (c + 1) (k - 1)) else psb p m (c + 1) k := rfl
theorem psb_none {p : Nat → Bool} {m c k : Nat} (h : ∀ i, c ≤ i → i < c + m → p i = false) : psb p m c k = 999 := by
  induction m generalizing c k with
  | zero => rfl
  | succ m ih =>
    rw [psb_s, if_neg (by rw [h c (Nat.le_refl _) (by omega)]; decide)]
    exact ih (fun i h1 h2 => h i (by omega) (by omega))
theorem psb_0 (p : Nat → Bool) (m c : Nat) : (psb p m c 0 = 999 ∧ ∀ i, c ≤ i → i < c + m → p i = false) ∨ (c ≤ psb p m c 0 ∧ psb p m c 0 < c + m ∧ p (psb p m c 0) = true) := by
  induction m generalizing c with
  | zero => exact Or.inl ⟨rfl, fun i h1 h2 => by omega⟩
  | succ m ih =>
    rw [psb_s]
    by_cases h : p c = true
    · rw [if_pos h, if_pos rfl]
      exact Or.inr ⟨Nat.le_refl _, by omega, h⟩
    · rw [if_neg h]
      rcases ih (c + 1) with ⟨h1, h2⟩ | ⟨h1, h2, h3⟩
      · refine Or.inl ⟨h1, fun i g1 g2 => ?_⟩
        by_cases e : i = c
        · subst e; exact Bool.eq_false_iff.mpr h
        · exact h2 i (by omega) (by omega)
      · exact Or.inr ⟨by omega, by omega, h3⟩
theorem psb_lt (p : Nat → Bool) (m c k : Nat) (hm : c + m ≤ 135) : psb p m c k = 999 ∨ psb p m c k < 135 := by
  induction m generalizing c k with
  | zero => exact Or.inl rfl
  | succ m ih =>
    rw [psb_s]
    split
    · split
      · exact Or.inr (by omega)
      · exact ih (c + 1) (k - 1) (by omega)
    · exact ih (c + 1) k (by omega)
noncomputable def ppc (W : List (gF × gF)) (s c : Nat) : Bool := decide (0 < lct s c W)
theorem e_waysWith {s c : Nat} (hs : s < 40) (hc : c < 135) : f_X1_waysWith (nI s) (nI c) σ = some (rI σ 297 (135 * s + c), σ) := by
  unfold f_X1_waysWith
  rw [li135, pk_mul, nI_add, gd_n (by omega) (by omega), nI_ix (by omega), Nat.mul_comm s 135]
theorem c_possibleCell (hw : DW D) (hW : WK D v σ) {s k : Nat} (hs : s < 40) (hk : k < 2147483648) : f_X1_possibleCell (nI s) (nI k) σ = some (on (psb (ppc (WW D v 0) s) 135 0 k), σ) := by
  have hlen := WW_len hw (v := v) 0
  refine ok_eq ?_
  unfold f_X1_possibleCell
  generalize hR : psb (ppc (WW D v 0) s) 135 0 k = R
  refine L_X1_possibleCell_5 135 (fun c l3 l4 τ => ∃ k', k' < 2147483648 ∧ l3 = nI k' ∧ l4 = nI c ∧ τ = σ ∧ R = psb (ppc (WW D v 0) s) (135 - c) c k') (by omega) (fun c p l3 l4 τ hkc hI hp => ?_) (Nat.zero_le _) ⟨k, hk, rfl, rfl, rfl, hR.symm⟩
  obtain ⟨k', hk', rfl, rfl, rfl, hq⟩ := hI
  unfold s_X1_possibleCell_5 f_X1_possibleCell_53 f_X1_possibleCell_47
  rw [li135, ite_iff (nI_le2 (by omega) (by omega))]
  by_cases cc : c < 135
  · obtain ⟨m, hm⟩ : ∃ m, 135 - c = m + 1 := ⟨134 - c, by omega⟩
    have hm2 : 135 - (c + 1) = m := by omega
    rw [if_neg (by omega), e_has (by omega), bd_some, ite_bI]
    refine ok_ite (fun z => ?_) (fun z => ?_)
    · have hle := lct_le s c (WW D v 0)
      rw [hm, psb_s] at hq
      rw [e_waysWith hs cc, bd_some, hW.2.1 s hs c cc, ite_iff (show nI (lct s c (WW D v 0)) ≤ 0 ↔ lct s c (WW D v 0) ≤ 0 from nI_le2 (b := 0) (by omega) (by omega))]
      refine ok_ite (fun y => ?_) (fun y => ?_)
      · rw [if_neg (fun w => by have := of_decide_eq_true w; omega)] at hq
        exact hp (c + 1) _ _ _ (by omega) (by omega) ⟨k', hk', rfl, nI_1 c, rfl, by rw [hm2]; exact hq⟩
      · have hy : ppc (WW D v 0) s c = true := decide_eq_true (by omega)
        rw [if_pos hy] at hq
        rw [ite_iff (show nI k' = 0 ↔ k' = 0 from nI_eq2 (b := 0) (by omega) (by omega))]
        refine ok_ite (fun x => ?_) (fun x => ?_)
        · rw [if_pos x] at hq
          exact ok_ret ⟨by rw [hq, on_n (by omega)], rfl⟩
        · rw [if_neg x] at hq
          have ek : nI k' + -1 = nI (k' - 1) := by rw [show (-1 : Int32) = zi (-1) from rfl, nI_zi, zi_add, nI_zi]; congr 1; omega
          exact hp (c + 1) _ _ _ (by omega) (by omega) ⟨k' - 1, by omega, ek, nI_1 c, rfl, by rw [hm2]; exact hq⟩
    · refine ok_ret ⟨?_, rfl⟩
      have e9 : psb (ppc (WW D v 0) s) (135 - c) c k' = 999 := psb_none (fun i h1 h2 => decide_eq_false (fun w => by
        obtain ⟨x, x1, x2⟩ := lct_ex w
        exact z ((hW.2.2.1 s (by omega)).mpr ⟨hs, x, x1, by omega⟩)))
      rw [hq, e9]; rfl
  · rw [if_pos (by omega)]
    rw [show 135 - c = 0 by omega] at hq
    exact ok_ret ⟨by rw [hq]; rfl, rfl⟩
/-- the forced cell -/
def FO (W : List (gF × gF)) (s : Nat) (r : Int32) : Prop := (∃ c, c < 135 ∧ lct s c W = W.length ∧ 0 < W.length ∧ r = nI c) ∨ (r = -1 ∧ ∀ c, c < 135 → ¬ (lct s c W = W.length ∧ 0 < W.length))
theorem FO_uniq {W : List (gF × gF)} {s : Nat} {r r' : Int32} (h : FO W s r) (h' : FO W s r') : r = r' := by
  rcases h with ⟨c, h1, h2, h3, rfl⟩ | ⟨rfl, h⟩
  · rcases h' with ⟨c', g1, g2, g3, rfl⟩ | ⟨rfl, h'⟩
    · by_cases e : c = c'
      · rw [e]
      · have := lct_two e W (s := s); omega
    · exact absurd ⟨h2, h3⟩ (h' c h1)
  · rcases h' with ⟨c', g1, g2, g3, rfl⟩ | ⟨rfl, h'⟩
    · exact absurd ⟨g2, g3⟩ (h c' g1)
    · rfl
theorem c_forcedCell (hw : DW D) (hW : WK D v σ) {s : Nat} (hs : s < 40) : ok (f_X1_forcedCell (nI s) σ) (fun r τ => FO (WW D v 0) s r ∧ τ = σ) := by
  have hlen := WW_len hw (v := v) 0
  unfold f_X1_forcedCell f_X1_forcedCell_29 f_X1_forcedCell_30
  have hp := c_possibleCell hw hW hs (k := 0) (by omega)
  have hp : f_X1_possibleCell (nI s) 0 σ = _ := hp
  rw [hp, bd_some]
  rcases psb_0 (ppc (WW D v 0) s) 135 0 with ⟨h1, h2⟩ | ⟨h1, h2, h3⟩
  · rw [h1, if_pos (show on 999 = -1 from rfl)]
    refine ok_ret ⟨Or.inr ⟨rfl, fun c hc z => ?_⟩, rfl⟩
    have := of_decide_eq_false (h2 c (by omega) (by omega))
    omega
  · generalize psb (ppc (WW D v 0) s) 135 0 0 = c at *
    have hle := lct_le s c (WW D v 0)
    have h3 : 0 < lct s c (WW D v 0) := of_decide_eq_true h3
    rw [on_n (by omega), if_neg (fun z => (nI_m1 (by omega)).mp z), e_waysWith hs (by omega), bd_some, hW.2.1 s hs c (by omega), hW.1, ite_iff (nI_eq2 (by omega) (by omega))]
    refine ok_ite (fun z => ok_ret ⟨Or.inl ⟨c, by omega, z, by omega, rfl⟩, rfl⟩) (fun z => ok_ret ⟨Or.inr ⟨rfl, fun c' hc' w => ?_⟩, rfl⟩)
    by_cases e : c = c'
    · subst e; exact z w.1
    · have := lct_two e (WW D v 0) (s := s); omega
theorem m_forcedOf {W : List (gF × gF)} (hlen : W.length ≤ 2097152) (hJ : J0 W σ) {s : Nat} (hs : s < 40) : ok (f_X13_forcedOf (nI s) σ) (fun r τ => FO W s r ∧ τ = σ) := by
  unfold f_X13_forcedOf
  refine L_X13_forcedOf_4 135 (fun c l2 l3 τ => l3 = nI c ∧ τ = σ ∧ ((∃ c', c' < c ∧ lct s c' W = W.length ∧ 0 < W.length ∧ l2 = nI c') ∨ (l2 = -1 ∧ ∀ c', c' < c → ¬ (lct s c' W = W.length ∧ 0 < W.length)))) (by omega) (fun c p l2 l3 τ hk hI hp => ?_) (Nat.zero_le _) ⟨rfl, rfl, Or.inr ⟨rfl, fun c' hc' => by omega⟩⟩
  obtain ⟨rfl, rfl, hh⟩ := hI
  unfold s_X13_forcedOf_4 f_X13_forcedOf_45 f_X13_forcedOf_39
  rw [li135, li136, ite_iff (nI_le2 (by omega) (by omega)), hJ.1, ite_iff (show nI W.length ≤ 0 ↔ W.length ≤ 0 from nI_le2 (b := 0) (by omega) (by omega)), pk_mul, nI_add]
  by_cases cc : c < 135
  · rw [if_neg (by omega)]
    refine ok_ite (fun z => ok_ret ⟨?_, rfl⟩) (fun z => ?_)
    · rcases hh with ⟨c', _, _, h, _⟩ | ⟨rfl, _⟩
      · omega
      · exact Or.inr ⟨rfl, fun c' _ w => by omega⟩
    · have hle := lct_le s c W
      rw [gd_n (by omega) (by omega)]
      simp (disch := omega) only [nI_ix]
      rw [hJ.2 s hs c (by omega), ite_iff (nI_eq2 (by omega) (by omega))]
      refine ok_ite (fun y => hp (c + 1) _ _ _ (by omega) (by omega) ⟨nI_1 c, rfl, Or.inl ⟨c, by omega, y, by omega, rfl⟩⟩) (fun y => hp (c + 1) _ _ _ (by omega) (by omega) ⟨nI_1 c, rfl, hh.imp (fun w => ?_) (fun w => ⟨w.1, fun c' hc' u => ?_⟩)⟩)
      · obtain ⟨c', w1, w2⟩ := w
        exact ⟨c', by omega, w2⟩
      · by_cases e : c' = c
        · subst e; exact y u.1
        · exact w.2 c' (by omega) u
  · have e : c = 135 := by omega
    subst e
    rw [if_pos (by omega)]
    exact ok_ret ⟨hh, rfl⟩
theorem op_forced (h : Inv (KK GK C WK B P) σ) (hS : SK GK C WK B P) (a1 a2 a3 a4 a5 : Int32) : ∃ σ', lw_op 23 a1 a2 a3 a4 a5 σ σ' ∧ Inv (KK GK C WK B P) σ' := by
  have hK := KK_KX hS
  show ∃ σ', (∃ (r : Int32) (σ1 : jM), f_X12_forced a1 a2 σ = some (r, σ1) ∧ f_X13_forced a1 a2 σ1 = some (r, σ')) ∧ Inv (KK GK C WK B P) σ'
  refine op_q (σ := σ) hK (R := fun r => (∃ v s, v ≤ 100000 ∧ s < 40 ∧ a1 = nI v ∧ a2 = nI s ∧ kn σ a1 ∧ FO (WW (dm σ) v 0) (std (dm σ) v s) r) ∨ (r = -1 ∧ ¬ (kn σ a1 ∧ (0 ≤ a2 ∧ a2 < 40)))) ?_ ?_
  · unfold f_X12_forced f_X12_forced_15
    rw [e_isSign, bd_some, ite_bI]
    refine ok_ite (fun c1 => ?_) (fun c1 => ok_ret ⟨h, rfl, rfl, Or.inr ⟨rfl, fun z => c1 z.2⟩⟩)
    refine ok_bd (c_seeGrid hS h a1) (fun r τ hh => ?_)
    obtain ⟨rfl, h1, h2, h3, h4⟩ := hh
    have e30 : rI τ 3 0 = rI σ 3 0 := h3.I _ _ (fun z => by have := ccr_ge z; omega)
    rw [ite_bI]
    refine ok_ite (fun c3 => ?_) (fun c3 => ok_ret ⟨h1, h2, e30, Or.inr ⟨rfl, fun z => c3 z.1⟩⟩)
    obtain ⟨v, rfl, hV, hG⟩ := h4 c3
    refine ok_bd (c_countWays hS hV hG) (fun _ τ1 t => ?_)
    obtain ⟨t1, t2, t3, t4⟩ := t
    rw [h2] at t4
    obtain ⟨s, hs, rfl⟩ := i_lt (n := 40) c1.1 c1.2 (by omega)
    have e18 : rI τ1 18 s = nI (std (dm σ) v s) := by rw [← h2, ← t2]; exact t1.2.2.2.1.2 s hs
    rw [gd_n hs (by omega)]
    simp (disch := omega) only [nI_ix]
    rw [e18]
    refine ok_bd (c_forcedCell h.2.1 t4 (std_lt v hs)) (fun r τ2 u => ?_)
    obtain ⟨u1, rfl⟩ := u
    exact ok_ret ⟨t1.1, t2.trans h2, t3.trans e30, Or.inl ⟨v, s, hV.2.1, hs, rfl, rfl, c3, u1⟩⟩
  · intro r τ hI hD e30 hR
    unfold f_X13_forced f_X13_forced_20
    have hM := MD_thr hI
    rw [hD] at hM
    have hw := hI.2.1
    rw [hD] at hw
    rw [m_known hI, bd_some, ite_bI, e30]
    rcases hR with ⟨v, s, hv, hs, rfl, rfl, c3, hfo⟩ | ⟨rfl, hno⟩
    · rw [if_pos c3, e_isSignNumber, bd_some, ite_bI, if_pos ⟨nI_pos' (by omega), (nI_lt2 (b := 40) (by omega) (by omega)).mpr hs⟩]
      refine ok_bd (m_findAll hw hM hv) (fun _ τ1 t => ?_)
      obtain ⟨t1, -, t3, t4⟩ := t
      rw [gd_n hs (by omega)]
      simp (disch := omega) only [nI_ix]
      rw [t3 s hs]
      refine ok_bd (m_forcedOf (WW_len hw 0) t1 (std_lt v hs)) (fun r' τ2 u => ?_)
      obtain ⟨u1, rfl⟩ := u
      exact ok_ret ⟨FO_uniq u1 hfo, thr_scr t4 (fun k j => wfa_scr)⟩
    · refine ok_ite (fun c3 => ?_) (fun c3 => ok_ret ⟨rfl, Fr_thr τ 0⟩)
      rw [e_isSignNumber, bd_some, ite_bI, if_neg (fun z => hno ⟨c3, z⟩)]
      exact ok_ret ⟨rfl, Fr_thr τ 0⟩
end FRC
