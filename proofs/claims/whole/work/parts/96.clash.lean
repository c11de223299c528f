/-! THE CLASH -/
section CLASH
variable {D : dD} {σ : jM}
abbrev cT : Type := Nat × Nat × Nat × Nat × Nat
noncomputable def ds (D : dD) (v o a b : Nat) : Nat := dst (lk D v o) a b
noncomputable def ptb (D : dD) (v o a b : Nat) : Bool := @decide (pt D v o a b) (Classical.propDecidable _)
theorem ptb_t {v o a b : Nat} : ptb D v o a b = true ↔ pt D v o a b := by
  unfold ptb
  exact @decide_eq_true_iff _ (Classical.propDecidable _)
/-- an offer is taken if it is shorter -/
def ofr (c : Bool) (a b k z s : Nat) (x : cT) : cT := if c = true ∧ z < x.2.2.2.1 then (a, b, k, z, s) else x
noncomputable def stp (D : dD) (v a b : Nat) (x : cT) : cT :=
  ofr (ptb D v 1 a b && decide (ds D v 1 a b < 1000000)) a b 2 (ds D v 1 a b) 1
    (ofr (ptb D v 0 a b && decide (ds D v 0 a b < 1000000)) a b 2 (ds D v 0 a b) 0
      (ofr (decide (ds D v 0 a b < 1000000) && decide (ds D v 1 a b < 1000000)) a b 1 (ds D v 0 a b + ds D v 1 a b) 0 x))
noncomputable def cst (D : dD) (v : Nat) : Nat → cT := Nat.rec (0, 0, 0, 1000000, 0) (fun p x => if p / 40 < p % 40 then stp D v (p / 40) (p % 40) x else x)
theorem cst_s (v p : Nat) : cst D v (p + 1) = if p / 40 < p % 40 then stp D v (p / 40) (p % 40) (cst D v p) else cst D v p := rfl
theorem cst_skip {v p q : Nat} (h : p ≤ q) (hz : ∀ r, p ≤ r → r < q → ¬ r / 40 < r % 40) : cst D v q = cst D v p := by
  induction q with
  | zero => have : p = 0 := by omega
            subst this; rfl
  | succ q ih =>
    rcases Nat.lt_or_ge p (q + 1) with w | w
    · rw [cst_s, if_neg (hz q (by omega) (by omega)), ih (by omega) (fun r h1 h2 => hz r h1 (by omega))]
    · have : p = q + 1 := by omega
      subst this; rfl
theorem lk_b (hw : DW D) {v o : Nat} (ho : o < 2) : ∀ s t, lk D v o s t → s < 40 ∧ t < 40 := fun s t z => ⟨(lk_lt hw ho z).1, (lk_lt hw ho z).2.1⟩
theorem ds_cases (hw : DW D) {v o a : Nat} (ho : o < 2) (ha : a < 40) (b : Nat) : (Rc (lk D v o) a b ∧ ds D v o a b < 40) ∨ (¬ Rc (lk D v o) a b ∧ ds D v o a b = 1000000) := dst_cases (lk_b hw ho) ha b
/-- a clash so far is such: -/
def cok (x : cT) : Prop := (x.2.2.2.1 = 1000000) ∨ (x.1 < x.2.1 ∧ x.2.1 < 40 ∧ x.2.2.2.1 < 80 ∧ ((x.2.2.1 = 1 ∧ x.2.2.2.2 = 0) ∨ (x.2.2.1 = 2 ∧ x.2.2.2.2 < 2)))
theorem ofr_ok {c : Bool} {a b k z s : Nat} {x : cT} (hx : cok x) (hc : c = true → a < b ∧ b < 40 ∧ z < 80 ∧ ((k = 1 ∧ s = 0) ∨ (k = 2 ∧ s < 2))) : cok (ofr c a b k z s x) := by
  unfold ofr
  by_cases h : c = true ∧ z < x.2.2.2.1
  · rw [if_pos h]; exact Or.inr (hc h.1)
  · rw [if_neg h]; exact hx
theorem stp_ok (hw : DW D) {v a b : Nat} {x : cT} (hx : cok x) (hab : a < b) (hb : b < 40) : cok (stp D v a b x) := by
  have h0 := ds_cases hw (v := v) (o := 0) (a := a) (by omega) (by omega) b
  have h1 := ds_cases hw (v := v) (o := 1) (a := a) (by omega) (by omega) b
  unfold stp
  refine ofr_ok (ofr_ok (ofr_ok hx (fun c => ?_)) (fun c => ?_)) (fun c => ?_)
  · have c1 := of_decide_eq_true (Bool.and_eq_true_iff.mp c).1
    have c2 := of_decide_eq_true (Bool.and_eq_true_iff.mp c).2
    exact ⟨hab, hb, by omega, Or.inl ⟨rfl, rfl⟩⟩
  · have c2 := of_decide_eq_true (Bool.and_eq_true_iff.mp c).2
    exact ⟨hab, hb, by omega, Or.inr ⟨rfl, by omega⟩⟩
  · have c2 := of_decide_eq_true (Bool.and_eq_true_iff.mp c).2
    exact ⟨hab, hb, by omega, Or.inr ⟨rfl, by omega⟩⟩
theorem cst_ok (hw : DW D) (v p : Nat) : cok (cst D v p) := by
  induction p with
  | zero => exact Or.inl rfl
  | succ p ih =>
    rw [cst_s]
    split
    · rename_i h
      exact stp_ok hw ih h (by omega)
    · exact ih
/-! the reference -/
/-- its cells hold a clash -/
def MC (x : cT) (σ : jM) : Prop := rI σ 324 50 = nI x.2.2.2.1 ∧ (x.2.2.2.1 < 1000000 → rI σ 324 47 = nI x.1 ∧ rI σ 324 48 = nI x.2.1 ∧ rI σ 324 49 = nI x.2.2.1 ∧ rI σ 324 51 = nI x.2.2.2.2)
abbrev wcl (k j : Nat) : Prop := k = 324 ∧ 47 ≤ j ∧ j ≤ 51
theorem m_clashes {x : cT} (h : MC x σ) (hx : x.2.2.2.1 ≤ 1000000) {a b k z s : Nat} (hz : z < 1000000) : ok (f_X13_clashes (nI a) (nI b) (nI k) (nI z) (nI s) σ) (fun _ τ => MC (ofr true a b k z s x) τ ∧ Fr wcl σ τ) := by
  unfold f_X13_clashes ofr
  rw [h.1, ite_iff (nI_lt2 (by omega) (by omega))]
  by_cases c : z < x.2.2.2.1
  · rw [if_pos c, if_pos ⟨rfl, c⟩]
    refine ok_ret ⟨⟨?_, fun _ => ⟨?_, ?_, ?_, ?_⟩⟩, Fr.w (Fr.w (Fr.w (Fr.w (Fr.w Fr.refl (by omega)) (by omega)) (by omega)) (by omega)) (by omega)⟩
    · rw [rI_nj (by omega), rI_same]
    · rw [rI_nj (by omega), rI_nj (by omega), rI_nj (by omega), rI_nj (by omega), rI_same]
    · rw [rI_nj (by omega), rI_nj (by omega), rI_nj (by omega), rI_same]
    · rw [rI_nj (by omega), rI_nj (by omega), rI_same]
    · rw [rI_same]
  · rw [if_neg c, if_neg (fun z => c z.2)]
    exact ok_ret ⟨h, Fr.refl⟩
theorem ofr_f (a b k z s : Nat) (x : cT) : ofr false a b k z s x = x := by unfold ofr; rw [if_neg (fun h => by cases h.1)]
theorem ofr_le (c : Bool) (a b k z s : Nat) {x : cT} (hx : x.2.2.2.1 ≤ 1000000) : (ofr c a b k z s x).2.2.2.1 ≤ 1000000 := by
  unfold ofr
  by_cases h : c = true ∧ z < x.2.2.2.1
  · rw [if_pos h]; show z ≤ 1000000; have := h.2; omega
  · rw [if_neg h]; exact hx
theorem cok_le {x : cT} (h : cok x) : x.2.2.2.1 ≤ 1000000 := by
  rcases h with h | h <;> omega
abbrev wfc (k j : Nat) : Prop := wlks k j ∨ k = 356 ∨ k = 357 ∨ (k = 324 ∧ 47 ≤ j ∧ j ≤ 51)
theorem ML_fr {v : Nat} {τ : jM} (h : ML D v σ) (e : ∀ k j, k = 343 ∨ (k = 324 ∧ j = 39) ∨ (350 ≤ k ∧ k ≤ 354) → rI τ k j = rI σ k j) : ML D v τ :=
  ⟨fun s hs => (e _ _ (by omega)).trans (h.1 s hs), ⟨(e _ _ (by omega)).trans h.2.1.1, fun k hk => ⟨(e _ _ (by omega)).trans (h.2.1.2 k hk).1, fun i hi => (e _ _ (by omega)).trans ((h.2.1.2 k hk).2 i hi)⟩⟩, AM_fr h.2.2.1 (fun j => e _ _ (by omega)), AM_fr h.2.2.2.1 (fun j => e _ _ (by omega)), fun o ho s hs => (e _ _ (by omega)).trans (h.2.2.2.2 o ho s hs)⟩
theorem m_findClash (hw : DW D) (hM : MD D σ) {v : Nat} (hv : v ≤ 100000) : ok (f_X13_findClash (nI v) σ) (fun r τ => r = bI ((cst D v 1600).2.2.2.1 < 1000000) ∧ MC (cst D v 1600) τ ∧ ML D v τ ∧ Fr wfc σ τ) := by
  have np : ∀ k j, pers k j → ¬ wfc k j := fun k j hp z => by
    have := pers_ge hp
    rcases z with z | z | z | z
    · exact scr_pers hp (wlks_scr z)
    · rcases hp with hp | hp | hp | hp | hp | hp | hp | hp | hp | hp | hp <;> omega
    · rcases hp with hp | hp | hp | hp | hp | hp | hp | hp | hp | hp | hp <;> omega
    · omega
  unfold f_X13_findClash
  refine ok_bd (m_findLinks hw hM hv) (fun _ τ0 g0 => ?_)
  obtain ⟨hL0, hF0⟩ := g0
  have A87 : ∀ τ, Fr wfc σ τ → ML D v τ → (∀ o, o < 2 → ∀ a, a < 40 → ∀ b, b < 40 → rI τ 357 (1600 * o + 40 * a + b) = nI (ds D v o a b)) → rI τ 324 50 = 1000000 → ok (f_X13_findClash_87 Fu 0 τ) (fun r τ => r = bI ((cst D v 1600).2.2.2.1 < 1000000) ∧ MC (cst D v 1600) τ ∧ ML D v τ ∧ Fr wfc σ τ) := by
    intro τ hF hL hA h50
    refine L_X13_findClash_87 40 (fun a l2 τ => l2 = nI a ∧ Fr wfc σ τ ∧ ML D v τ ∧ (∀ o, o < 2 → ∀ a, a < 40 → ∀ b, b < 40 → rI τ 357 (1600 * o + 40 * a + b) = nI (ds D v o a b)) ∧ MC (cst D v (40 * a)) τ) (by omega) (fun a q l2 τ hk hI hq => ?_) (Nat.zero_le _) ⟨rfl, hF, hL, hA, ⟨h50, fun z => absurd (show (1000000 : Nat) < 1000000 from z) (by decide)⟩⟩
    obtain ⟨rfl, hF, hL, hA, hC⟩ := hI
    unfold s_X13_findClash_87 f_X13_findClash_244
    rw [li40, li6n]
    simp (disch := omega) only [nI_le2]
    by_cases ca : a < 40
    · rw [if_neg (by omega)]
      have hC1 : MC (cst D v (40 * a + (a + 1))) τ := by rw [cst_skip (p := 40 * a) (q := 40 * a + (a + 1)) (by omega) (fun r h1 h2 => by omega)]; exact hC
      refine L_X13_findClash_97 40 (fun b l3 τ => a + 1 ≤ b ∧ l3 = nI b ∧ Fr wfc σ τ ∧ ML D v τ ∧ (∀ o, o < 2 → ∀ a, a < 40 → ∀ b, b < 40 → rI τ 357 (1600 * o + 40 * a + b) = nI (ds D v o a b)) ∧ MC (cst D v (40 * a + b)) τ) (by omega) (fun b q2 l3 τ hk2 hI2 hq2 => ?_) (k := a + 1) (by omega) ⟨Nat.le_refl _, nI_1 a, hF, hL, hA, hC1⟩
      obtain ⟨hab, rfl, hF, hL, hA, hC⟩ := hI2
      unfold s_X13_findClash_97
      rw [li40, li1600, li6n]
      simp (disch := omega) only [pk_mul, nI_add, nI_le2, nI_ix]
      by_cases cb : b < 40
      · have d0 := ds_cases hw (v := v) (o := 0) (a := a) (by omega) ca b
        have d1 := ds_cases hw (v := v) (o := 1) (a := a) (by omega) ca b
        have e0 : rI τ 357 (40 * a + b) = nI (ds D v 0 a b) := by
          have := hA 0 (by omega) a ca b cb
          rw [show 1600 * 0 + 40 * a + b = 40 * a + b by omega] at this
          exact this
        have e1 : rI τ 357 (1600 + (40 * a + b)) = nI (ds D v 1 a b) := by
          have := hA 1 (by omega) a ca b cb
          rw [show 1600 * 1 + 40 * a + b = 1600 + (40 * a + b) by omega] at this
          exact this
        have p0 : ∀ τ', Fr wcl τ τ' → rI τ' 353 (40 * a + b) = bJ (pt D v 0 a b) := fun τ' hF' => by
          have := hL.2.2.2.1 0 (by omega) a ca b cb
          rw [show 1600 * 0 + 40 * a + b = 40 * a + b by omega] at this
          rw [hF'.I _ _ (by omega)]
          exact this
        have p1 : ∀ τ', Fr wcl τ τ' → rI τ' 353 (1600 + (40 * a + b)) = bJ (pt D v 1 a b) := fun τ' hF' => by
          have := hL.2.2.2.1 1 (by omega) a ca b cb
          rw [show 1600 * 1 + 40 * a + b = 1600 + (40 * a + b) by omega] at this
          rw [hF'.I _ _ (by omega)]
          exact this
        have hx0 := cok_le (cst_ok hw v (40 * a + b))
        have ecs : cst D v (40 * a + (b + 1)) = stp D v a b (cst D v (40 * a + b)) := by
          rw [show 40 * a + (b + 1) = 40 * a + b + 1 by omega, cst_s, show (40 * a + b) / 40 = a by omega, show (40 * a + b) % 40 = b by omega, if_pos (by omega)]
        generalize hx : cst D v (40 * a + b) = x at *
        -- the third offer
        have T3 : ∀ (y : cT) (τ' : jM), y.2.2.2.1 ≤ 1000000 → MC y τ' → Fr wcl τ τ' → ofr (ptb D v 1 a b && decide (ds D v 1 a b < 1000000)) a b 2 (ds D v 1 a b) 1 y = cst D v (40 * a + (b + 1)) → ok (f_X13_findClash_187 q q2 (nI a) (nI b) (nI (40 * a + b)) (nI (ds D v 1 a b)) τ') (fun r τ => r = bI ((cst D v 1600).2.2.2.1 < 1000000) ∧ MC (cst D v 1600) τ ∧ ML D v τ ∧ Fr wfc σ τ) := by
          intro y τ' hy hC' hF' ey
          have nxt : ∀ τ2, Fr wcl τ τ2 → MC (cst D v (40 * a + (b + 1))) τ2 → ok (q2 (nI a) (nI b + 1) τ2) (fun r τ => r = bI ((cst D v 1600).2.2.2.1 < 1000000) ∧ MC (cst D v 1600) τ ∧ ML D v τ ∧ Fr wfc σ τ) := fun τ2 hF2 hC2 => hq2 (b + 1) _ _ (by omega) (by omega) ⟨by omega, nI_1 b, hF.trans (hF2.mono (fun k j z => Or.inr (Or.inr (Or.inr z)))), ML_fr hL (fun k j z => hF2.I _ _ (by omega)), fun o ho a' ha' b' hb' => (hF2.I _ _ (by omega)).trans (hA o ho a' ha' b' hb'), hC2⟩
          unfold f_X13_findClash_187 f_X13_findClash_218
          rw [li1600, li6n, nI_add, gd_n (by omega) (by omega), nI_ix (by omega), p1 τ' hF', ite_iff (nI_le2 (by omega) (by omega))]
          refine ok_ite (fun z => nxt τ' hF' ?_) (fun z => ok_ite (fun z2 => nxt τ' hF' ?_) (fun z2 => ?_))
          · rw [← ey, Bool.eq_false_iff.mpr (fun w => bJ_0.mp z (ptb_t.mp w)), Bool.false_and, ofr_f]; exact hC'
          · rw [← ey, decide_eq_false (by omega), Bool.and_false, ofr_f]; exact hC'
          · have z : pt D v 1 a b := Classical.byContradiction (fun w => z (bJ_0.mpr w))
            refine ok_bd (m_clashes hC' hy (k := 2) (s := 1) (by omega)) (fun _ τ2 g2 => nxt τ2 (hF'.trans g2.2) ?_)
            rw [← ey, ptb_t.mpr z, decide_eq_true (by omega)]
            exact g2.1
        have T2 : ∀ (y : cT) (τ' : jM), y.2.2.2.1 ≤ 1000000 → MC y τ' → Fr wcl τ τ' → ofr (ptb D v 1 a b && decide (ds D v 1 a b < 1000000)) a b 2 (ds D v 1 a b) 1 (ofr (ptb D v 0 a b && decide (ds D v 0 a b < 1000000)) a b 2 (ds D v 0 a b) 0 y) = cst D v (40 * a + (b + 1)) → ok (f_X13_findClash_160 q q2 (nI a) (nI b) (nI (40 * a + b)) (nI (ds D v 0 a b)) (nI (ds D v 1 a b)) τ') (fun r τ => r = bI ((cst D v 1600).2.2.2.1 < 1000000) ∧ MC (cst D v 1600) τ ∧ ML D v τ ∧ Fr wfc σ τ) := by
          intro y τ' hy hC' hF' ey
          unfold f_X13_findClash_160
          rw [li6n, gd_n (by omega) (by omega), nI_ix (by omega), p0 τ' hF', ite_iff (nI_le2 (by omega) (by omega))]
          refine ok_ite (fun z => T3 y τ' hy hC' hF' ?_) (fun z => ok_ite (fun z2 => T3 y τ' hy hC' hF' ?_) (fun z2 => ?_))
          · rw [← ey, Bool.eq_false_iff.mpr (fun w => bJ_0.mp z (ptb_t.mp w)), Bool.false_and, ofr_f]
          · rw [← ey, decide_eq_false (show ¬ ds D v 0 a b < 1000000 by omega), Bool.and_false, ofr_f]
          · have z : pt D v 0 a b := Classical.byContradiction (fun w => z (bJ_0.mpr w))
            refine ok_bd (m_clashes hC' hy (k := 2) (s := 0) (by omega)) (fun _ τ2 g2 => T3 _ τ2 (ofr_le _ _ _ _ _ _ hy) g2.1 (hF'.trans g2.2) ?_)
            rw [← ey, ptb_t.mpr z, decide_eq_true (show ds D v 0 a b < 1000000 by omega)]
            rfl
        rw [if_neg (by omega)]
        simp (disch := omega) only [gd_n]
        rw [e0, e1, ite_iff (nI_le2 (by omega) (by omega)), ite_iff (nI_le2 (by omega) (by omega)), nI_add]
        unfold stp at ecs
        refine ok_ite (fun z => T2 x τ hx0 hC Fr.refl ?_) (fun z => ok_ite (fun z2 => T2 x τ hx0 hC Fr.refl ?_) (fun z2 => ?_))
        · rw [ecs, decide_eq_false (show ¬ ds D v 0 a b < 1000000 by omega), Bool.false_and, ofr_f]
        · simp only [ecs, decide_eq_false (show ¬ ds D v 1 a b < 1000000 by omega), Bool.and_false, ofr_f]
        · refine ok_bd (m_clashes hC hx0 (k := 1) (s := 0) (by omega)) (fun _ τ2 g2 => T2 _ τ2 (ofr_le _ _ _ _ _ _ hx0) g2.1 g2.2 ?_)
          rw [ecs, decide_eq_true (show ds D v 0 a b < 1000000 by omega), decide_eq_true (show ds D v 1 a b < 1000000 by omega)]
          rfl
      · rw [if_pos (by omega)]
        have e : b = 40 := by omega
        subst e
        exact hq (a + 1) _ _ (by omega) (by omega) ⟨nI_1 a, hF, hL, hA, hC⟩
    · rw [if_pos (by omega)]
      have e : a = 40 := by omega
      subst e
      have hle := cok_le (cst_ok hw v 1600)
      rw [hC.1, ite_iff (nI_le2 (by omega) (show (cst D v (40 * 40)).2.2.2.1 < 2147483648 by show (cst D v 1600).2.2.2.1 < _; omega))]
      refine ok_ite (fun z => ?_) (fun z => ?_)
      · rw [gd_T]
        exact ok_ret ⟨by rw [bI_neg (show ¬ (cst D v 1600).2.2.2.1 < 1000000 by have : 1000000 ≤ (cst D v 1600).2.2.2.1 := z; omega)], hC, hL, hF⟩
      · rw [gd_T2]
        exact ok_ret ⟨by rw [bI_pos (show (cst D v 1600).2.2.2.1 < 1000000 by have : ¬ 1000000 ≤ (cst D v 1600).2.2.2.1 := z; omega)], hC, hL, hF⟩
  refine L_X13_findClash_7 2 (fun o l2 τ => l2 = nI o ∧ Fr wfc σ τ ∧ ML D v τ ∧ (∀ o', o' < o → ∀ a, a < 40 → ∀ b, b < 40 → rI τ 357 (1600 * o' + 40 * a + b) = nI (ds D v o' a b))) (by omega) (fun o q l2 τ hk hI hq => ?_) (Nat.zero_le _) ⟨rfl, hF0.mono (fun k j z => Or.inl z), hL0, fun o' ho' => by omega⟩
  obtain ⟨rfl, hF, hL, hA⟩ := hI
  unfold s_X13_findClash_7
  rw [li2]
  simp (disch := omega) only [nI_le2]
  by_cases co : o < 2
  · rw [if_neg (by omega)]
    refine L_X13_findClash_14 40 (fun a l3 τ => l3 = nI a ∧ Fr wfc σ τ ∧ ML D v τ ∧ (∀ o', o' < o → ∀ a, a < 40 → ∀ b, b < 40 → rI τ 357 (1600 * o' + 40 * a + b) = nI (ds D v o' a b)) ∧ (∀ a', a' < a → ∀ b, b < 40 → rI τ 357 (1600 * o + 40 * a' + b) = nI (ds D v o a' b))) (by omega) (fun a q2 l3 τ hk2 hI2 hq2 => ?_) (Nat.zero_le _) ⟨rfl, hF, hL, hA, fun a' ha' => by omega⟩
    obtain ⟨rfl, hF, hL, hA, hB⟩ := hI2
    unfold s_X13_findClash_14
    rw [li40]
    simp (disch := omega) only [nI_le2]
    by_cases ca : a < 40
    · rw [if_neg (by omega)]
      refine ok_bd (m_findFar hL.2.2.1 (fun o a b ho z => lk_b hw ho a b z) co ca) (fun _ τ1 g1 => ?_)
      refine L_X13_findClash_29 40 (fun b l4 τ => l4 = nI b ∧ Fr (fun k _ => k = 357) τ1 τ ∧ (∀ o', o' < o → ∀ a, a < 40 → ∀ b, b < 40 → rI τ 357 (1600 * o' + 40 * a + b) = nI (ds D v o' a b)) ∧ (∀ a', a' < a → ∀ b, b < 40 → rI τ 357 (1600 * o + 40 * a' + b) = nI (ds D v o a' b)) ∧ ∀ b', b' < b → rI τ 357 (1600 * o + 40 * a + b') = nI (ds D v o a b')) (by omega) (fun b q3 l4 τ' hk3 hI3 hq3 => ?_) (Nat.zero_le _) ⟨rfl, Fr.refl, fun o' ho' a' ha' b' hb' => (g1.2.I _ _ (by omega)).trans (hA o' ho' a' ha' b' hb'), fun a' ha' b' hb' => (g1.2.I _ _ (by omega)).trans (hB a' ha' b' hb'), fun b' hb' => by omega⟩
      obtain ⟨rfl, hF', hA', hB', hC'⟩ := hI3
      unfold s_X13_findClash_29
      rw [li40, li1600]
      simp (disch := omega) only [pk_mul, nI_add, nI_le2, nI_ix]
      by_cases cb : b < 40
      · rw [if_neg (by omega), gd_n cb (by omega), gd_n (by omega) (by omega), hF'.I 356 b (by omega), g1.1 b cb]
        refine hq3 (b + 1) _ _ (by omega) (by omega) ⟨nI_1 b, hF'.w rfl, fun o' ho' a' ha' b' hb' => ?_, fun a' ha' b' hb' => ?_, fun b' hb' => ?_⟩
        · rw [rI_nj (by omega)]; exact hA' o' ho' a' ha' b' hb'
        · rw [rI_nj (by omega)]; exact hB' a' ha' b' hb'
        · by_cases e : b' = b
          · subst e; exact rI_same _ _ _ _
          · rw [rI_nj (by omega)]; exact hC' b' (by omega)
      · rw [if_pos (by omega)]
        refine hq2 (a + 1) _ _ (by omega) (by omega) ⟨nI_1 a, (hF.trans (g1.2.mono (fun k j z => Or.inr (Or.inl z)))).trans (hF'.mono (fun k j z => Or.inr (Or.inr (Or.inl z)))), ML_fr hL (fun k j z => (hF'.I _ _ (by omega)).trans (g1.2.I _ _ (by omega))), hA', fun a' ha' b' hb' => ?_⟩
        by_cases e : a' = a
        · subst e; exact hC' b' (by omega)
        · exact hB' a' (by omega) b' hb'
    · rw [if_pos (by omega)]
      refine hq (o + 1) _ _ (by omega) (by omega) ⟨nI_1 o, hF, hL, fun o' ho' a' ha' b' hb' => ?_⟩
      by_cases e : o' = o
      · subst e; exact hB a' (by omega) b' hb'
      · exact hA o' (by omega) a' ha' b' hb'
  · rw [if_pos (by omega)]
    exact A87 _ (hF.w (Or.inr (Or.inr (Or.inr (by omega))))) (ML_fr hL (fun k j z => rI_ne (by omega))) (fun o' ho' a' ha' b' hb' => by rw [rI_nk (by omega)]; exact hA o' (by omega) a' ha' b' hb') (rI_same _ _ _ _)
end CLASH
