/-! what is kept of a day, by sorts; often, rank -/
section KEPT
variable {σ : jM} {D : dD}
def KK (G C W B P : dD → Nat → jM → Prop) : dD → Nat → jM → Prop := fun D v σ => (rI σ 264 0 = 0 ∨ G D v σ) ∧ (rI σ 289 0 = 0 ∨ C D v σ) ∧ (rI σ 322 5 = 0 ∨ W D v σ) ∧ (rI σ 322 6 = 0 ∨ B D v σ) ∧ (rI σ 322 7 = 0 ∨ P D v σ)
/-- it stays true where these cells stay -/
def St (R : Nat → Nat → Prop) (G : dD → Nat → jM → Prop) : Prop := ∀ (D : dD) (v : Nat) (σ τ : jM), (∀ k j, R k j → rI τ k j = rI σ k j ∧ rL τ k j = rL σ k j) → G D v σ → G D v τ
abbrev RG (k _j : Nat) : Prop := 265 ≤ k ∧ k ≤ 286
abbrev RC (k j : Nat) : Prop := (k = 289 ∧ j ≠ 0) ∨ (290 ≤ k ∧ k ≤ 292)
abbrev RW (k j : Nat) : Prop := k = 297 ∨ (k = 296 ∧ (j = 1 ∨ j = 18)) ∨ (k = 322 ∧ j = 0)
abbrev RB (k j : Nat) : Prop := k = 322 ∧ j = 1
abbrev RP (k _j : Nat) : Prop := k = 323
def SK (G C W B P : dD → Nat → jM → Prop) : Prop := St RG G ∧ St RC C ∧ St RW W ∧ St RB B ∧ St RP P
theorem KK_KX {G C W B P : dD → Nat → jM → Prop} (h : SK G C W B P) : KX (KK G C W B P) := by
  intro D v σ τ he hk
  obtain ⟨h1, h2, h3, h4, h5⟩ := h
  obtain ⟨k1, k2, k3, k4, k5⟩ := hk
  exact ⟨k1.imp (fun z => (he 264 0 (by omega) (by omega)).1.trans z) (h1 D v σ τ (fun k j hr => he k j (by omega) (by omega))), k2.imp (fun z => (he 289 0 (by omega) (by omega)).1.trans z) (h2 D v σ τ (fun k j hr => he k j (by omega) (by omega))), k3.imp (fun z => (he 322 5 (by omega) (by omega)).1.trans z) (h3 D v σ τ (fun k j hr => he k j (by omega) (by omega))), k4.imp (fun z => (he 322 6 (by omega) (by omega)).1.trans z) (h4 D v σ τ (fun k j hr => he k j (by omega) (by omega))), k5.imp (fun z => (he 322 7 (by omega) (by omega)).1.trans z) (h5 D v σ τ (fun k j hr => he k j (by omega) (by omega)))⟩
theorem KK_KC {G C W B P : dD → Nat → jM → Prop} : KC (KK G C W B P) := fun _ _ _ h1 h2 h3 h4 h5 => ⟨Or.inl h1, Or.inl h2, Or.inl h3, Or.inl h4, Or.inl h5⟩
/-- the view goes on over what is kept -/
theorem Vw_upd {K : dD → Nat → jM → Prop} {v : Nat} (h : Vw K v σ) {τ : jM} {W : Nat → Nat → Prop} (hF : Fr W σ τ) (hW : ∀ k j, W k j → ccr k j ∧ k ≠ 18 ∧ k ≠ 3) (hk : K (dm σ) v τ) : Vw K v τ ∧ dm τ = dm σ ∧ rI τ 3 0 = rI σ 3 0 := by
  obtain ⟨h1, h2, h3, h4, h5, d, h6, h7, h8⟩ := h
  have n3 : ∀ j, ¬ W 3 j := fun j z => (hW _ _ z).2.2 rfl
  have e10 : rI τ 3 10 = nI v := (hF.I _ _ (n3 _)).trans h3
  have e0 : rI τ 3 0 = nI d := (hF.I _ _ (n3 _)).trans h8
  have hV : VV K (dm σ) τ := Or.inr ⟨v, d, h6, h7, e0, e10, ⟨(hF.2.2 (n3 _)).trans h4.1, fun s hs => (hF.I _ _ (fun z => (hW _ _ z).2.1 rfl)).trans (h4.2 s hs)⟩, hk⟩
  obtain ⟨i1, i2⟩ := Inv_ccr h1 (hF.mono (fun k j z => (hW k j z).1)) hV
  exact ⟨Vw_of i1 e10 h2, i2, hF.I _ _ (n3 _)⟩
theorem ccr_hi {k j : Nat} (h : 264 ≤ k ∧ k ≤ 323) : ccr k j := Or.inr (Or.inr (Or.inr (Or.inr (Or.inr (Or.inr h)))))
def PK (D : dD) (v : Nat) (σ : jM) : Prop := ∀ s, s < 40 → ∀ x, x < 5 → rI σ 323 (s * 5 + x) = nI (oft D v s x)
theorem PK_St : St RP PK := fun D v σ τ he h s hs x hx => (he 323 _ rfl).1.trans (h s hs x hx)
end KEPT
section RANK
variable {σ : jM} {D : dD} {G C W B : dD → Nat → jM → Prop}
theorem c_places {v : Nat} (hS : SK G C W B PK) (h : Vw (KK G C W B PK) v σ) : ok (f_X1_countPlaces σ) (fun _ τ => Vw (KK G C W B PK) v τ ∧ dm τ = dm σ ∧ rI τ 3 0 = rI σ 3 0 ∧ PK (dm σ) v τ) := by
  obtain ⟨k1, k2, k3, k4, k5⟩ := h.2.2.2.2.1
  by_cases c : rI σ 322 7 = 0
  · refine ok_imp (c_countPlaces (gT h.1).1 (gT h.1).2 h.2.1 h.2.2.1 h.2.2.2.1.2 c) (fun _ τ hh => ?_)
    obtain ⟨h1, h2, h3⟩ := hh
    have hk : KK G C W B PK (dm σ) v τ := ⟨k1.imp (fun z => (h3.I _ _ (by omega)).trans z) (hS.1 _ _ _ _ (fun k j hr => ⟨h3.I _ _ (by omega), h3.L _ _ (by omega)⟩)), k2.imp (fun z => (h3.I _ _ (by omega)).trans z) (hS.2.1 _ _ _ _ (fun k j hr => ⟨h3.I _ _ (by omega), h3.L _ _ (by omega)⟩)), k3.imp (fun z => (h3.I _ _ (by omega)).trans z) (hS.2.2.1 _ _ _ _ (fun k j hr => ⟨h3.I _ _ (by omega), h3.L _ _ (by omega)⟩)), k4.imp (fun z => (h3.I _ _ (by omega)).trans z) (hS.2.2.2.1 _ _ _ _ (fun k j hr => ⟨h3.I _ _ (by omega), h3.L _ _ (by omega)⟩)), Or.inr h1⟩
    obtain ⟨i1, i2, i3⟩ := Vw_upd h h3 (fun k j z => ⟨ccr_hi (by omega), by omega, by omega⟩) hk
    exact ⟨i1, i2, i3, h1⟩
  · unfold f_X1_countPlaces
    rw [if_neg c]
    exact ok_ret ⟨h, rfl, rfl, k5.resolve_left c⟩
/-- the first of some -/
def fi (p : Nat → Bool) : Nat → Nat → Nat := Nat.rec (fun _ => 999) (fun _ r k => if p k = true then k else r (k + 1))
theorem fi_s (p : Nat → Bool) (m k : Nat) : fi p (m + 1) k = if p k = true then k else fi p m (k + 1) := rfl
theorem fi_0 (p : Nat → Bool) (k : Nat) : fi p 0 k = 999 := rfl
theorem fi_spec (p : Nat → Bool) (m k : Nat) : (fi p m k = 999 ∧ ∀ i, k ≤ i → i < k + m → p i = false) ∨ (k ≤ fi p m k ∧ fi p m k < k + m ∧ p (fi p m k) = true ∧ ∀ i, k ≤ i → i < fi p m k → p i = false) := by
  induction m generalizing k with
  | zero => exact Or.inl ⟨rfl, fun i h1 h2 => by omega⟩
  | succ m ih =>
    rw [fi_s]
    by_cases c : p k = true
    · rw [if_pos c]
      exact Or.inr ⟨Nat.le_refl _, by omega, c, fun i h1 h2 => by omega⟩
    · rw [if_neg c]
      have c' : p k = false := Bool.eq_false_iff.mpr c
      rcases ih (k + 1) with ⟨h1, h2⟩ | ⟨h1, h2, h3, h4⟩
      · refine Or.inl ⟨h1, fun i g1 g2 => ?_⟩
        by_cases e : i = k
        · subst e; exact c'
        · exact h2 i (by omega) (by omega)
      · refine Or.inr ⟨by omega, by omega, h3, fun i g1 g2 => ?_⟩
        by_cases e : i = k
        · subst e; exact c'
        · exact h4 i (by omega) g2
noncomputable def ah (D : dD) (v s o : Nat) : Bool := decide (o ≠ s ∧ 0 < oft D v o 4 ∧ (oft D v s 0 * oft D v o 4 < oft D v o 0 * oft D v s 4 ∨ (oft D v s 0 * oft D v o 4 = oft D v o 0 * oft D v s 4 ∧ o < s)))
noncomputable def rkp (D : dD) (v : Nat) (a : Int32) (s : Nat) : Bool := decide (0 < oft D v s 4 ∧ nI (cnt (ah D v s) 40) = a)
theorem mul_le_1152 {a b : Nat} (ha : a ≤ 1152) (hb : b ≤ 1152) : a * b ≤ 1327104 := Nat.le_trans (Nat.mul_le_mul ha hb) (by decide)
theorem c_isAnywhere {v s : Nat} (hw : DWt D) (hP : PK D v σ) (hs : s < 40) : f_X1_isAnywhere (nI s) σ = some (bI (0 < oft D v s 4), σ) := by
  have hb := oft_le hw v s 4
  unfold f_X1_isAnywhere f_X1_isAnywhere_18
  rw [li5, li4, pk_mul, nI_add, gd_n (by omega) (by omega), nI_ix (by omega), hP s hs 4 (by omega), ite_iff (le0_n (by omega))]
  by_cases c : oft D v s 4 = 0
  · rw [if_pos c, bI_neg (by omega), gd_0]
  · rw [if_neg c, bI_pos (by omega), gd_1]
theorem c_isAhead {v s o : Nat} (hw : DWt D) (hP : PK D v σ) (hs : s < 40) (ho : o < 40) : f_X1_isAhead (nI o) (nI s) σ = some (bI (oft D v s 0 * oft D v o 4 < oft D v o 0 * oft D v s 4 ∨ (oft D v s 0 * oft D v o 4 = oft D v o 0 * oft D v s 4 ∧ o < s)), σ) := by
  have b1 := mul_le_1152 (oft_le hw v s 0) (oft_le hw v o 4)
  have b2 := mul_le_1152 (oft_le hw v o 0) (oft_le hw v s 4)
  unfold f_X1_isAhead f_X1_isAhead_75
  rw [li5, li4]
  simp (disch := omega) only [Int32.add_zero, pk_mul, nI_add, gd_n, nI_ix]
  rw [show rI σ 323 (o * 5) = _ from hP o ho 0 (by omega), hP s hs 4 (by omega), show rI σ 323 (s * 5) = _ from hP s hs 0 (by omega), hP o ho 4 (by omega), pk_mul, pk_mul]
  simp (disch := omega) only [nI_eq2, nI_le2]
  generalize oft D v o 0 * oft D v s 4 = x at *
  generalize oft D v s 0 * oft D v o 4 = y at *
  by_cases c : x = y
  · rw [if_pos c]
    by_cases c2 : s ≤ o
    · rw [if_pos c2, bI_neg (by omega), gd_T]
    · rw [if_neg c2, bI_pos (by omega), gd_T2]
  · rw [if_neg c]
    by_cases c2 : x ≤ y
    · rw [if_pos c2, bI_neg (by omega), gd_T]
    · rw [if_neg c2, bI_pos (by omega), gd_T2]
theorem c_countAhead {v s : Nat} (hw : DWt D) (hP : PK D v σ) (hs : s < 40) : f_X1_countAhead (nI s) σ = some (nI (cnt (ah D v s) 40), σ) := by
  refine ok_eq ?_
  unfold f_X1_countAhead
  refine L_X1_countAhead_4 40 (fun o l2 l3 τ => l2 = nI (cnt (ah D v s) o) ∧ l3 = nI o ∧ τ = σ) (by omega) (fun o q l2 l3 τ hk hI hq => ?_) (Nat.zero_le _) ⟨rfl, rfl, rfl⟩
  obtain ⟨rfl, rfl, rfl⟩ := hI
  unfold s_X1_countAhead_4 f_X1_countAhead_35
  rw [li40]
  simp (disch := omega) only [nI_le2, nI_eq2]
  by_cases c : o < 40
  · rw [if_neg (by omega)]
    have no : ¬ ah D v s o = true → ok (q (nI s) (nI (cnt (ah D v s) o)) (nI o + 1) τ) (fun a t => a = nI (cnt (ah D v s) 40) ∧ t = τ) := fun z => hq (o + 1) _ _ _ (by omega) (by omega) ⟨by rw [cnt_s, if_neg z, Nat.add_zero], nI_1 o, rfl⟩
    refine ok_ite (fun z => no (fun y => (of_decide_eq_true y).1 z)) (fun z => ?_)
    rw [c_isAnywhere hw hP c, bd_some, ite_bI]
    refine ok_ite (fun z2 => ?_) (fun z2 => no (fun y => z2 (of_decide_eq_true y).2.1))
    rw [c_isAhead hw hP hs c, bd_some, ite_bI]
    refine ok_ite (fun z3 => hq (o + 1) _ _ _ (by omega) (by omega) ⟨?_, nI_1 o, rfl⟩) (fun z3 => no (fun y => z3 (of_decide_eq_true y).2.2))
    rw [cnt_s, if_pos (show ah D v s o = true from decide_eq_true ⟨z, z2, z3⟩), nI_1]
  · rw [if_pos (by omega)]
    have e : o = 40 := by omega
    subst e
    exact ok_ret ⟨rfl, rfl⟩
theorem c_signRanked {v : Nat} (hw : DWt D) (hP : PK D v σ) (a : Int32) : f_X1_signRanked a σ = some (on (fi (rkp D v a) 40 0), σ) := by
  refine ok_eq ?_
  unfold f_X1_signRanked
  refine L_X1_signRanked_2 40 (fun s l2 τ => l2 = nI s ∧ fi (rkp D v a) 40 0 = fi (rkp D v a) (40 - s) s ∧ τ = σ) (by omega) (fun s q l2 τ hk hI hq => ?_) (Nat.zero_le _) ⟨rfl, rfl, rfl⟩
  obtain ⟨rfl, h1, rfl⟩ := hI
  unfold s_X1_signRanked_2 f_X1_signRanked_27
  rw [li40]
  simp (disch := omega) only [nI_le2]
  by_cases c : s < 40
  · rw [show 40 - s = 40 - (s + 1) + 1 by omega, fi_s (rkp D v a) (40 - (s + 1)) s] at h1
    have no : ¬ rkp D v a s = true → ok (q a (nI s + 1) τ) (fun r t => r = on (fi (rkp D v a) 40 0) ∧ t = τ) := fun z => by
      rw [if_neg z] at h1
      exact hq (s + 1) _ _ (by omega) (by omega) ⟨nI_1 s, h1, rfl⟩
    rw [if_neg (by omega), c_isAnywhere hw hP c, bd_some, ite_bI]
    refine ok_ite (fun z2 => ?_) (fun z2 => no (fun y => z2 (of_decide_eq_true y).1))
    rw [c_countAhead hw hP c, bd_some]
    refine ok_ite (fun z3 => ?_) (fun z3 => no (fun y => z3 (of_decide_eq_true y).2))
    rw [if_pos (show rkp D v a s = true from decide_eq_true ⟨z2, z3⟩)] at h1
    exact ok_ret ⟨by rw [h1, on_n (by omega)], rfl⟩
  · rw [if_pos (by omega)]
    refine ok_ret ⟨?_, rfl⟩
    rw [h1, show 40 - s = 0 by omega]
    rfl
theorem m_rank26 {v : Nat} (hw : DWt D) (hM : MD D σ) (hv : v ≤ 100000) (h343 : ∀ s, s < 40 → rI σ 343 s = nI (std D v s)) (a : Int32) : f_X13_rank_26 Fu (nI v) a 0 σ = some (on (fi (rkp D v a) 40 0), σ) := by
  refine ok_eq ?_
  refine L_X13_rank_26 40 (fun s l3 τ => l3 = nI s ∧ fi (rkp D v a) 40 0 = fi (rkp D v a) (40 - s) s ∧ τ = σ) (by omega) (fun s q l3 τ hk hI hq => ?_) (Nat.zero_le _) ⟨rfl, rfl, rfl⟩
  obtain ⟨rfl, h1, rfl⟩ := hI
  unfold s_X13_rank_26 f_X13_rank_146
  rw [li40]
  simp (disch := omega) only [nI_le2]
  by_cases c : s < 40
  · rw [show 40 - s = 40 - (s + 1) + 1 by omega, fi_s (rkp D v a) (40 - (s + 1)) s] at h1
    have no : ¬ rkp D v a s = true → ok (q (nI v) a (nI s + 1) τ) (fun r t => r = on (fi (rkp D v a) 40 0) ∧ t = τ) := fun z => by
      rw [if_neg z] at h1
      exact hq (s + 1) _ _ (by omega) (by omega) ⟨nI_1 s, h1, rfl⟩
    have b4 := oft_le hw v s 4
    have o4 : ∀ o, o < 40 → f_X13_oftenOf (nI o) (nI v) 4 τ = some (nI (oft D v o 4), τ) := fun o ho => m_oftenOf hw hM hv h343 ho (x := 4) (by omega)
    have o0 : ∀ o, o < 40 → f_X13_oftenOf (nI o) (nI v) 0 τ = some (nI (oft D v o 0), τ) := fun o ho => m_oftenOf hw hM hv h343 ho (x := 0) (by omega)
    rw [if_neg (by omega), o4 s c, bd_some, ite_iff (eq0_n (by omega))]
    refine ok_ite (fun z => no (fun y => by have := (of_decide_eq_true y).1; omega)) (fun z => ?_)
    rw [o0 s c, bd_some]
    refine L_X13_rank_64 40 (fun o l6 l7 τ' => l6 = nI (cnt (ah D v s) o) ∧ l7 = nI o ∧ τ' = τ) (by omega) (fun o q2 l6 l7 τ' hk2 hI2 hq2 => ?_) (Nat.zero_le _) ⟨rfl, rfl, rfl⟩
    obtain ⟨rfl, rfl, rfl⟩ := hI2
    unfold s_X13_rank_64 f_X13_rank_129 f_X13_rank_132 f_X13_rank_146
    rw [li40]
    simp (disch := omega) only [nI_le2, nI_eq2]
    by_cases c2 : o < 40
    · have b1 := mul_le_1152 (oft_le hw v s 0) (oft_le hw v o 4)
      have b2 := mul_le_1152 (oft_le hw v o 0) (oft_le hw v s 4)
      have bo := oft_le hw v o 4
      rw [if_neg (by omega), o4 o c2, bd_some, o0 o c2, bd_some, o4 o c2]
      simp only [bd_some, pk_mul]
      have n2 : ¬ ah D v s o = true → ok (q2 (nI v) a (nI s) (nI (oft D v s 4)) (nI (oft D v s 0)) (nI (cnt (ah D v s) o)) (nI o + 1) τ') (fun r t => r = on (fi (rkp D v a) 40 0) ∧ t = τ') := fun w => hq2 (o + 1) _ _ _ (by omega) (by omega) ⟨by rw [cnt_s, if_neg w, Nat.add_zero], nI_1 o, rfl⟩
      have y2 : ah D v s o = true → ok (q2 (nI v) a (nI s) (nI (oft D v s 4)) (nI (oft D v s 0)) (nI (cnt (ah D v s) o) + 1) (nI o + 1) τ') (fun r t => r = on (fi (rkp D v a) 40 0) ∧ t = τ') := fun w => hq2 (o + 1) _ _ _ (by omega) (by omega) ⟨by rw [cnt_s, if_pos w, nI_1], nI_1 o, rfl⟩
      have e1 : nI (oft D v s 0 * oft D v o 4) - nI (oft D v o 0 * oft D v s 4) = zi ((oft D v s 0 * oft D v o 4 : Nat) - (oft D v o 0 * oft D v s 4 : Nat)) := by rw [nI_zi, nI_zi, zi_sub]
      have i1 : (zi ((oft D v s 0 * oft D v o 4 : Nat) - (oft D v o 0 * oft D v s 4 : Nat)) < 0) ↔ oft D v s 0 * oft D v o 4 < oft D v o 0 * oft D v s 4 := (zi_lt (b := 0) (by omega) (by omega) (by omega) (by omega)).trans (by omega)
      have i2 : (zi ((oft D v s 0 * oft D v o 4 : Nat) - (oft D v o 0 * oft D v s 4 : Nat)) = 0) ↔ oft D v s 0 * oft D v o 4 = oft D v o 0 * oft D v s 4 := (zi_eq (b := 0) (by omega) (by omega) (by omega) (by omega)).trans (by omega)
      rw [e1, ite_iff (le0_n (a := oft D v o 4) (by omega)), ite_iff i1, ite_iff i2]
      refine ok_ite (fun z1 => n2 (fun y => (of_decide_eq_true y).1 z1)) (fun z1 => ok_ite (fun z2 => n2 (fun y => by have := (of_decide_eq_true y).2.1; omega)) (fun z2 => ok_ite (fun z3 => y2 (decide_eq_true ⟨z1, by omega, Or.inl z3⟩)) (fun z3 => ok_ite (fun z4 => ok_ite (fun z5 => n2 (fun y => ?_)) (fun z5 => y2 (decide_eq_true ⟨z1, by omega, Or.inr ⟨z4, by omega⟩⟩))) (fun z4 => n2 (fun y => ?_)))))
      · rcases (of_decide_eq_true y).2.2 with w | w
        · exact z3 w
        · omega
      · rcases (of_decide_eq_true y).2.2 with w | w
        · exact z3 w
        · exact z4 w.1
    · have e : o = 40 := by omega
      subst e
      rw [if_pos (by omega)]
      refine ok_ite (fun z3 => ?_) (fun z3 => no (fun y => z3 (of_decide_eq_true y).2))
      rw [if_pos (show rkp D v a s = true from decide_eq_true ⟨by omega, z3⟩)] at h1
      exact ok_ret ⟨by rw [h1, on_n (by omega)], rfl⟩
  · rw [if_pos (by omega)]
    refine ok_ret ⟨?_, rfl⟩
    rw [h1, show 40 - s = 0 by omega]
    rfl
end RANK
