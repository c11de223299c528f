/-! the class's clash -/
section CLC
variable {D : dD} {σ : jM}
theorem ix0 : Int32.toNatClampNeg 0 = 0 := rfl
theorem ix1 : Int32.toNatClampNeg 1 = 1 := rfl
def fso (x : cT) : Nat := if x.2.2.1 = 1 then 0 else x.2.2.2.2
def lso (x : cT) : Nat := if x.2.2.1 = 1 then 1 else x.2.2.2.2
def CC (x : cT) (σ : jM) : Prop := rI σ 289 3 = (if x.2.2.2.1 = 1000000 then -1 else nI x.2.2.1) ∧ (x.2.2.2.1 < 1000000 → rI σ 289 1 = nI x.1 ∧ rI σ 289 2 = nI x.2.1 ∧ rI σ 289 4 = nI x.2.2.2.1 ∧ rI σ 289 10 = nI (fso x) ∧ rI σ 289 11 = nI (lso x))
abbrev wcc (k j : Nat) : Prop := k = 289 ∧ j ≠ 0 ∧ j ≠ 5
theorem c_isShorter {x : cT} (h : CC x σ) (hx : cok x) {z : Nat} (hz : z < 1000000) : f_X2_isShorter (nI z) σ = some (bI (z < x.2.2.2.1), σ) := by
  unfold f_X2_isShorter f_X2_isShorter_16 f_X2_isShorter_21
  rw [h.1]
  by_cases c : x.2.2.2.1 = 1000000
  · rw [if_pos c, if_pos rfl, gd_1, bI_pos (by omega)]
  · rcases hx with hx | ⟨x1, x2, x3, x4⟩
    · exact absurd hx c
    · rw [if_neg c, if_neg (show ¬ nI x.2.2.1 = -1 from fun y => (nI_m1 (by omega)).mp y), (h.2 (by omega)).2.2.1, ite_iff (nI_le2 (by omega) (by omega))]
      by_cases c2 : x.2.2.2.1 ≤ z
      · rw [if_pos c2, gd_0, bI_neg (by omega)]
      · rw [if_neg c2, gd_1, bI_pos (by omega)]
/-- an offer: asked whether it is shorter, and taken -/
theorem c_offer {x : cT} (h : CC x σ) (hx : cok x) {a b k z s f l : Nat} (hz : z < 1000000) (hf : f = fso (a, b, k, z, s)) (hl : l = lso (a, b, k, z, s)) {κ : jM → Option (Unit × jM)} {Q : Unit → jM → Prop} (hk : ∀ τ, CC (ofr true a b k z s x) τ → Fr wcc σ τ → ok (κ τ) Q) : ok (bd (f_X2_isShorter (nI z) σ) (fun r σ1 => if r = 0 then κ σ1 else bd (f_X2_take (nI a) (nI b) (nI k) (nI f) (nI l) (nI z) σ1) (fun _ σ2 => κ σ2))) Q := by
  rw [c_isShorter h hx hz, bd_some, ite_bI]
  unfold ofr at hk
  refine ok_ite (fun c => ?_) (fun c => ?_)
  · rw [if_pos ⟨rfl, c⟩] at hk
    unfold f_X2_take
    rw [bd_some]
    refine hk _ ⟨?_, fun _ => ⟨?_, ?_, ?_, ?_, ?_⟩⟩ (Fr.w (Fr.w (Fr.w (Fr.w (Fr.w (Fr.w Fr.refl (by omega)) (by omega)) (by omega)) (by omega)) (by omega)) (by omega))
    · show _ = if z = 1000000 then -1 else nI k
      rw [if_neg (by omega), rI_nj (by omega), rI_nj (by omega), rI_nj (by omega), rI_same]
    · rw [rI_nj (by omega), rI_nj (by omega), rI_nj (by omega), rI_nj (by omega), rI_nj (by omega), rI_same]
    · rw [rI_nj (by omega), rI_nj (by omega), rI_nj (by omega), rI_nj (by omega), rI_same]
    · rw [rI_same]
    · rw [rI_nj (by omega), rI_nj (by omega), rI_same, hf]
    · rw [rI_nj (by omega), rI_same, hl]
  · rw [if_neg (fun w => c w.2)] at hk
    exact hk σ h Fr.refl
theorem c_weigh (hw : DW D) {v a b : Nat} {x : cT} (hab : a < b) (hb : b < 40) (h : CC x σ) (hx : cok x) (hG : GK D v σ) (h4 : rI σ 294 b = dsI (lk D v 0) a b) (h5 : rI σ 295 b = dsI (lk D v 1) a b) : ok (f_X2_weigh (nI a) (nI b) σ) (fun _ τ => CC (stp D v a b x) τ ∧ Fr wcc σ τ) := by
  have d0 := ds_cases hw (v := v) (o := 0) (a := a) (by omega) (by omega) b
  have d1 := ds_cases hw (v := v) (o := 1) (a := a) (by omega) (by omega) b
  have e0 : dsI (lk D v 0) a b = if ds D v 0 a b = 1000000 then -1 else nI (ds D v 0 a b) := rfl
  have e1 : dsI (lk D v 1) a b = if ds D v 1 a b = 1000000 then -1 else nI (ds D v 1 a b) := rfl
  have m1 : ∀ o, ((if ds D v o a b = 1000000 then (-1 : Int32) else nI (ds D v o a b)) = -1 ↔ ds D v o a b = 1000000) → True := fun _ _ => trivial
  have pa : ∀ o, o < 2 → ∀ τ, Fr wcc σ τ → ∀ κ : Int32 → jM → Option (Unit × jM), bd (f_X12_has (rL τ (282 + o) a) (nI b) τ) κ = κ (bI (ptb D v o a b = true)) τ := fun o ho τ hF κ => by
    rw [e_has (by omega), bd_some, hF.L _ _ (by omega)]
    congr 1
    exact bI_congr (((hG.2.2.1 o ho).2.1 a (by omega) b (by omega)).trans ptb_t.symm)
  have T3 : ∀ (y : cT) (τ : jM), CC y τ → cok y → Fr wcc σ τ → ofr (ptb D v 1 a b && decide (ds D v 1 a b < 1000000)) a b 2 (ds D v 1 a b) 1 y = stp D v a b x → ok (f_X2_weigh_95 (nI a) (nI b) (dsI (lk D v 1) a b) τ) (fun _ τ => CC (stp D v a b x) τ ∧ Fr wcc σ τ) := by
    intro y τ hC hy hF ey
    unfold f_X2_weigh_95 f_X2_weigh_139
    rw [e1]
    by_cases c : ds D v 1 a b = 1000000
    · rw [if_pos c, if_pos rfl]
      refine ok_ret ⟨?_, hF⟩
      rw [← ey, decide_eq_false (by omega), Bool.and_false, ofr_f]
      exact hC
    · rw [if_neg c, if_neg (show ¬ nI (ds D v 1 a b) = -1 from fun z => (nI_m1 (by omega)).mp z)]
      simp (disch := omega) only [gd_n, nI_ix, ix1]
      rw [gd_pos (show inb 1 2 by decide), show 282 + 1 = 282 + 1 from rfl, pa 1 (by omega) τ hF, ite_bI]
      refine ok_ite (fun z => ?_) (fun z => ?_)
      · refine c_offer hC hy (a := a) (b := b) (k := 2) (s := 1) (f := 1) (l := 1) (z := ds D v 1 a b) (by omega) rfl rfl (κ := fun σ => some ((), σ)) (fun τ2 g1 g2 => ok_ret ⟨?_, hF.trans g2⟩)
        rw [← ey, z, decide_eq_true (by omega)]
        exact g1
      · refine ok_ret ⟨?_, hF⟩
        rw [← ey, Bool.eq_false_iff.mpr z, Bool.false_and, ofr_f]
        exact hC
  have T2 : ∀ (y : cT) (τ : jM), CC y τ → cok y → Fr wcc σ τ → ofr (ptb D v 1 a b && decide (ds D v 1 a b < 1000000)) a b 2 (ds D v 1 a b) 1 (ofr (ptb D v 0 a b && decide (ds D v 0 a b < 1000000)) a b 2 (ds D v 0 a b) 0 y) = stp D v a b x → ok (f_X2_weigh_54 (nI a) (nI b) (dsI (lk D v 0) a b) (dsI (lk D v 1) a b) τ) (fun _ τ => CC (stp D v a b x) τ ∧ Fr wcc σ τ) := by
    intro y τ hC hy hF ey
    unfold f_X2_weigh_54
    rw [e0]
    by_cases c : ds D v 0 a b = 1000000
    · rw [if_pos c, if_pos rfl]
      refine T3 y τ hC hy hF ?_
      rw [← ey, decide_eq_false (show ¬ ds D v 0 a b < 1000000 by omega), Bool.and_false, ofr_f]
    · rw [if_neg c, if_neg (show ¬ nI (ds D v 0 a b) = -1 from fun z => (nI_m1 (by omega)).mp z)]
      simp (disch := omega) only [gd_n, nI_ix, ix0]
      rw [gd_pos (show inb 0 2 by decide), pa 0 (by omega) τ hF, ite_bI]
      refine ok_ite (fun z => ?_) (fun z => ?_)
      · refine c_offer hC hy (a := a) (b := b) (k := 2) (s := 0) (f := 0) (l := 0) (z := ds D v 0 a b) (by omega) rfl rfl (κ := fun σ => f_X2_weigh_95 (nI a) (nI b) (dsI (lk D v 1) a b) σ) (fun τ2 g1 g2 => T3 _ τ2 g1 (ofr_ok hy (fun _ => ⟨hab, hb, by omega, Or.inr ⟨rfl, by omega⟩⟩)) (hF.trans g2) ?_)
        rw [← ey, z, decide_eq_true (show ds D v 0 a b < 1000000 by omega)]
        rfl
      · refine T3 y τ hC hy hF ?_
        rw [← ey, Bool.eq_false_iff.mpr z, Bool.false_and, ofr_f]
  unfold f_X2_weigh
  simp (disch := omega) only [gd_n, nI_ix, ix0, ix1]
  rw [gd_pos (show inb 0 2 by decide), gd_pos (show inb 1 2 by decide), show 294 + 0 = 294 from rfl, show 294 + 1 = 295 from rfl, h4, h5]
  by_cases c : ds D v 0 a b = 1000000
  · rw [if_pos (show dsI (lk D v 0) a b = -1 by rw [e0, if_pos c])]
    refine T2 x σ h hx Fr.refl ?_
    unfold stp
    rw [decide_eq_false (show ¬ ds D v 0 a b < 1000000 by omega), Bool.false_and, ofr_f]
  · by_cases c2 : ds D v 1 a b = 1000000
    · rw [if_neg (show ¬ dsI (lk D v 0) a b = -1 by rw [e0, if_neg c]; exact fun z => (nI_m1 (by omega)).mp z), if_pos (show dsI (lk D v 1) a b = -1 by rw [e1, if_pos c2])]
      refine T2 x σ h hx Fr.refl ?_
      unfold stp
      simp only [decide_eq_false (show ¬ ds D v 1 a b < 1000000 by omega), Bool.and_false, ofr_f]
    · rw [if_neg (show ¬ dsI (lk D v 0) a b = -1 by rw [e0, if_neg c]; exact fun z => (nI_m1 (by omega)).mp z), if_neg (show ¬ dsI (lk D v 1) a b = -1 by rw [e1, if_neg c2]; exact fun z => (nI_m1 (by omega)).mp z)]
      have es : dsI (lk D v 0) a b + dsI (lk D v 1) a b = nI (ds D v 0 a b + ds D v 1 a b) := by rw [e0, e1, if_neg c, if_neg c2, nI_add]
      rw [es]
      refine c_offer h hx (a := a) (b := b) (k := 1) (s := 0) (f := 0) (l := 1) (z := ds D v 0 a b + ds D v 1 a b) (by omega) rfl rfl (κ := fun σ => f_X2_weigh_54 (nI a) (nI b) (dsI (lk D v 0) a b) (dsI (lk D v 1) a b) σ) (fun τ2 g1 g2 => T2 _ τ2 g1 (ofr_ok hx (fun _ => ⟨hab, hb, by omega, Or.inl ⟨rfl, rfl⟩⟩)) g2 ?_)
      unfold stp
      rw [decide_eq_true (show ds D v 0 a b < 1000000 by omega), decide_eq_true (show ds D v 1 a b < 1000000 by omega)]
      rfl
/-- where nothing can clash, nothing changes -/
theorem stp_none (hw : DW D) {v a b : Nat} {x : cT} (ha : a < 40) (h : ¬ ((Rc (lk D v 0) a b ∧ Rc (lk D v 1) a b) ∨ (Rc (lk D v 0) a b ∧ pt D v 0 a b) ∨ (Rc (lk D v 1) a b ∧ pt D v 1 a b))) : stp D v a b x = x := by
  have d0 := ds_cases hw (v := v) (o := 0) (a := a) (by omega) (by omega) b
  have d1 := ds_cases hw (v := v) (o := 1) (a := a) (by omega) (by omega) b
  have f1 : (decide (ds D v 0 a b < 1000000) && decide (ds D v 1 a b < 1000000)) = false := Bool.eq_false_iff.mpr (fun z => by
    have z1 := of_decide_eq_true (Bool.and_eq_true_iff.mp z).1
    have z2 := of_decide_eq_true (Bool.and_eq_true_iff.mp z).2
    exact h (Or.inl ⟨(d0.resolve_right (fun w => by omega)).1, (d1.resolve_right (fun w => by omega)).1⟩))
  have f2 : (ptb D v 0 a b && decide (ds D v 0 a b < 1000000)) = false := Bool.eq_false_iff.mpr (fun z => by
    have z1 := ptb_t.mp (Bool.and_eq_true_iff.mp z).1
    have z2 := of_decide_eq_true (Bool.and_eq_true_iff.mp z).2
    exact h (Or.inr (Or.inl ⟨(d0.resolve_right (fun w => by omega)).1, z1⟩)))
  have f3 : (ptb D v 1 a b && decide (ds D v 1 a b < 1000000)) = false := Bool.eq_false_iff.mpr (fun z => by
    have z1 := ptb_t.mp (Bool.and_eq_true_iff.mp z).1
    have z2 := of_decide_eq_true (Bool.and_eq_true_iff.mp z).2
    exact h (Or.inr (Or.inr ⟨(d1.resolve_right (fun w => by omega)).1, z1⟩)))
  unfold stp
  rw [f1, f2, f3, ofr_f, ofr_f, ofr_f]
theorem c_above {v a : Nat} (ha : a < 40) (hG : GK D v σ) : ∃ y, f_X2_clashingAbove (nI a) σ = some (y, σ) ∧ ∀ b, b < 64 → (bt y b = true ↔ (a < b ∧ ((Rc (lk D v 0) a b ∧ Rc (lk D v 1) a b) ∨ (Rc (lk D v 0) a b ∧ pt D v 0 a b) ∨ (Rc (lk D v 1) a b ∧ pt D v 1 a b)))) := by
  unfold f_X2_clashingAbove
  simp (disch := omega) only [gd_n, nI_ix, ix0, ix1]
  rw [gd_pos (show inb 0 2 by decide), gd_pos (show inb 1 2 by decide), gd_pos (show inb 0 2 by decide), gd_pos (show inb 1 2 by decide), nI_1]
  refine ⟨_, rfl, fun b hb => ?_⟩
  have r0 := hG.2.2.2 0 (by omega) a ha b hb
  have r1 := hG.2.2.2 1 (by omega) a ha b hb
  have q0 := (hG.2.2.1 0 (by omega)).2.1 a ha b hb
  have q1 := (hG.2.2.1 1 (by omega)).2.1 a ha b hb
  rw [bt_and, bt_or, bt_or, bt_and, bt_and, bt_and, bt_shl _ (by omega) hb, bt_m1 (by omega), Bool.and_true, Bool.and_eq_true, Bool.or_eq_true, Bool.or_eq_true, Bool.and_eq_true, Bool.and_eq_true, Bool.and_eq_true, decide_eq_true_eq, r0, r1, q0, q1, or_assoc]
  exact ⟨fun z => ⟨by omega, z.1⟩, fun z => ⟨z.2, by omega⟩⟩
abbrev wca (k j : Nat) : Prop := (k = 289 ∧ j ≠ 0 ∧ j ≠ 5) ∨ k = 294 ∨ k = 295
theorem c_weighAll (hw : DW D) {v a : Nat} (ha : a < 40) (hG : GK D v σ) (h : CC (cst D v (40 * a)) σ) {y : Int64} (hy : ∀ b, b < 64 → (bt y b = true ↔ (a < b ∧ ((Rc (lk D v 0) a b ∧ Rc (lk D v 1) a b) ∨ (Rc (lk D v 0) a b ∧ pt D v 0 a b) ∨ (Rc (lk D v 1) a b ∧ pt D v 1 a b))))) : ok (f_X2_weighAll (nI a) y σ) (fun _ τ => CC (cst D v (40 * (a + 1))) τ ∧ Fr wca σ τ) := by
  have e1 : ∀ b, cst D v (40 * a + (b + 1)) = if a < b ∧ b < 40 then stp D v a b (cst D v (40 * a + b)) else if b < 40 then cst D v (40 * a + b) else cst D v (40 * a + (b + 1)) := by
    intro b
    by_cases c : b < 40
    · rw [show 40 * a + (b + 1) = 40 * a + b + 1 by omega, cst_s, show (40 * a + b) / 40 = a by omega, show (40 * a + b) % 40 = b by omega]
      by_cases d : a < b
      · rw [if_pos d, if_pos ⟨d, c⟩]
      · rw [if_neg d, if_neg (fun z => d z.1), if_pos c]
    · rw [if_neg (fun z => c z.2), if_neg c]
  have skip : ∀ b, b < 40 → bt y b = false → a < b → cst D v (40 * a + (b + 1)) = cst D v (40 * a + b) := fun b hb hz hab => by
    rw [e1 b, if_pos ⟨hab, hb⟩]
    exact stp_none hw ha (fun w => by rw [(hy b (by omega)).mpr ⟨hab, w⟩] at hz; cases hz)
  have h1 : CC (cst D v (40 * a + (a + 1))) σ := by rw [cst_skip (p := 40 * a) (q := 40 * a + (a + 1)) (by omega) (fun r h1 h2 => by omega)]; exact h
  unfold f_X2_weighAll
  refine ok_ite (fun z => ?_) (fun z => ?_)
  · have z := lgc0.mp z
    have : ∀ b, a + 1 ≤ b → b ≤ 40 → cst D v (40 * a + b) = cst D v (40 * a + (a + 1)) := by
      intro b
      induction b with
      | zero => intro h1 _; omega
      | succ b ih =>
        intro h1 h2
        by_cases e : b = a
        · rw [e]
        · rw [skip b (by omega) (by rw [z]; exact bt_0 b) (by omega)]
          exact ih (by omega) (by omega)
    refine ok_ret ⟨?_, Fr.refl⟩
    rw [show 40 * (a + 1) = 40 * a + 40 by omega, this 40 (by omega) (by omega)]
    exact h1
  · refine ok_bd (c_measure (o := 0) (by omega) ha (hG.2.1 0 (by omega))) (fun _ τ1 g1 => ?_)
    have hG1 : GK D v τ1 := GK_St _ _ _ _ (fun k j hr => ⟨g1.2.I _ _ (by omega), g1.2.L _ _ (by omega)⟩) hG
    refine ok_bd (c_measure (o := 1) (by omega) ha (hG1.2.1 1 (by omega))) (fun _ τ2 g2 => ?_)
    have hG2 : GK D v τ2 := GK_St _ _ _ _ (fun k j hr => ⟨g2.2.I _ _ (by omega), g2.2.L _ _ (by omega)⟩) hG1
    have f4 : ∀ s, s < 40 → rI τ2 294 s = dsI (lk D v 0) a s := fun s hs => (g2.2.I _ _ (by omega)).trans (g1.1 s hs)
    have f5 : ∀ s, s < 40 → rI τ2 295 s = dsI (lk D v 1) a s := fun s hs => g2.1 s hs
    have hF2 : Fr wca σ τ2 := (g1.2.mono (fun k j e => by omega)).trans (g2.2.mono (fun k j e => by omega))
    have hC2 : CC (cst D v (40 * a + (a + 1))) τ2 := ⟨(g2.2.I _ _ (by omega)).trans ((g1.2.I _ _ (by omega)).trans h1.1), fun w => by
      obtain ⟨q1, q2, q3, q4, q5⟩ := h1.2 w
      exact ⟨(g2.2.I _ _ (by omega)).trans ((g1.2.I _ _ (by omega)).trans q1), (g2.2.I _ _ (by omega)).trans ((g1.2.I _ _ (by omega)).trans q2), (g2.2.I _ _ (by omega)).trans ((g1.2.I _ _ (by omega)).trans q3), (g2.2.I _ _ (by omega)).trans ((g1.2.I _ _ (by omega)).trans q4), (g2.2.I _ _ (by omega)).trans ((g1.2.I _ _ (by omega)).trans q5)⟩⟩
    refine L_X2_weighAll_24 40 (fun b l4 τ => a + 1 ≤ b ∧ l4 = nI b ∧ Fr wcc τ2 τ ∧ CC (cst D v (40 * a + b)) τ) (by omega) (fun b q l4 τ hk hI hq => ?_) (k := a + 1) (by omega) ⟨Nat.le_refl _, nI_1 a, Fr.refl, hC2⟩
    obtain ⟨hab, rfl, hF, hC⟩ := hI
    unfold s_X2_weighAll_24 f_X2_weighAll_47
    rw [li40]
    simp (disch := omega) only [nI_le2]
    by_cases cb : b < 40
    · rw [if_neg (by omega), e_has (by omega), bd_some, ite_bI]
      refine ok_ite (fun w => ?_) (fun w => ?_)
      · refine ok_bd (c_weigh hw (v := v) (a := a) (b := b) (by omega) cb hC (cst_ok hw v _) (GK_St _ _ _ _ (fun k j hr => ⟨hF.I _ _ (by omega), hF.L _ _ (by omega)⟩) hG2) ((hF.I _ _ (by omega)).trans (f4 b cb)) ((hF.I _ _ (by omega)).trans (f5 b cb))) (fun _ τ3 g3 => ?_)
        refine hq (b + 1) _ _ (by omega) (by omega) ⟨by omega, nI_1 b, hF.trans g3.2, ?_⟩
        rw [e1 b, if_pos ⟨by omega, cb⟩]
        exact g3.1
      · refine hq (b + 1) _ _ (by omega) (by omega) ⟨by omega, nI_1 b, hF, ?_⟩
        rw [skip b cb (Bool.eq_false_iff.mpr w) (by omega)]
        exact hC
    · rw [if_pos (by omega)]
      have e : b = 40 := by omega
      subst e
      refine ok_ret ⟨?_, hF2.trans (hF.mono (fun k j z => Or.inl z))⟩
      rw [show 40 * (a + 1) = 40 * a + 40 by omega]
      exact hC
end CLC
