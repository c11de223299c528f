/-! ITS REASON; clash, reason -/
section RSN
variable {D : dD} {σ : jM}
noncomputable def nx (D : dD) (v o b s : Nat) : Nat := lst (fun t => lk D v o s t ∧ ds D v o b t + 1 = ds D v o b s)
noncomputable def pth (D : dD) (v o a b : Nat) : Nat → Nat := Nat.rec a (fun _ s => nx D v o b s)
theorem pth_s (v o a b i : Nat) : pth D v o a b (i + 1) = nx D v o b (pth D v o a b i) := rfl
theorem nx_spec (hw : DW D) {v o b s n : Nat} (ho : o < 2) (h : Rc (lk D v o) b s) (hn : ds D v o b s = n + 1) : lk D v o s (nx D v o b s) ∧ ds D v o b (nx D v o b s) = n ∧ Rc (lk D v o) b (nx D v o b s) ∧ ∀ t, lk D v o s t → ds D v o b t = n → nx D v o b s ≤ t := by
  obtain ⟨c, h1, h2, h3⟩ := dst_prev h hn
  obtain ⟨g1, g2⟩ := lst_spec (p := fun t => lk D v o s t ∧ ds D v o b t + 1 = ds D v o b s) ⟨c, lk_symm v o c s h1, by rw [hn]; show dst (lk D v o) b c + 1 = n + 1; omega⟩
  exact ⟨g1.1, by have : ds D v o b (nx D v o b s) + 1 = ds D v o b s := g1.2; omega, Rc_step h g1.1, fun t ht1 ht2 => g2 t ⟨ht1, by omega⟩⟩
theorem pth_spec (hw : DW D) {v o a b : Nat} (ho : o < 2) (ha : a < 40) (h : Rc (lk D v o) b a) {i : Nat} (hi : i ≤ ds D v o b a) : Rc (lk D v o) b (pth D v o a b i) ∧ ds D v o b (pth D v o a b i) = ds D v o b a - i ∧ pth D v o a b i < 40 := by
  induction i with
  | zero => exact ⟨h, rfl, ha⟩
  | succ i ih =>
    obtain ⟨h1, h2, h3⟩ := ih (by omega)
    obtain ⟨g1, g2, g3, -⟩ := nx_spec hw ho h1 (n := ds D v o b a - (i + 1)) (by omega)
    exact ⟨g3, g2, (lk_b hw ho _ _ g1).2⟩
/-- which sort, whence and whither the n-th link of a reason is -/
noncomputable def rsn (D : dD) (v : Nat) (x : cT) (n : Nat) : Nat × Nat × Nat :=
  if x.2.2.1 = 1 then (if n < ds D v 0 x.2.1 x.1 then (0, pth D v 0 x.1 x.2.1 n, pth D v 0 x.1 x.2.1 (n + 1)) else (1, pth D v 1 x.1 x.2.1 (n - ds D v 0 x.2.1 x.1), pth D v 1 x.1 x.2.1 (n - ds D v 0 x.2.1 x.1 + 1)))
  else (x.2.2.2.2, pth D v x.2.2.2.2 x.1 x.2.1 n, pth D v x.2.2.2.2 x.1 x.2.1 (n + 1))
noncomputable def rlen (D : dD) (v : Nat) (x : cT) : Nat := if x.2.2.2.1 = 1000000 then 0 else if x.2.2.1 = 1 then ds D v 0 x.2.1 x.1 + ds D v 1 x.2.1 x.1 else ds D v x.2.2.2.2 x.2.1 x.1
/-- the two are within reach by the sorts of the reason -/
def crc (D : dD) (v : Nat) (x : cT) : Prop := x.2.2.2.1 = 1000000 ∨ ∀ o, o < 2 → (x.2.2.1 = 1 ∨ x.2.2.2.2 = o) → Rc (lk D v o) x.2.1 x.1
theorem crc_ofr {v : Nat} {c : Bool} {a b k z s : Nat} {x : cT} (hx : crc D v x) (hc : c = true → ∀ o, o < 2 → (k = 1 ∨ s = o) → Rc (lk D v o) b a) : crc D v (ofr c a b k z s x) := by
  unfold ofr
  by_cases h : c = true ∧ z < x.2.2.2.1
  · rw [if_pos h]; exact Or.inr (hc h.1)
  · rw [if_neg h]; exact hx
theorem crc_stp (hw : DW D) {v a b : Nat} {x : cT} (hx : crc D v x) (ha : a < 40) : crc D v (stp D v a b x) := by
  have d0 := ds_cases hw (v := v) (o := 0) (a := a) (by omega) (by omega) b
  have d1 := ds_cases hw (v := v) (o := 1) (a := a) (by omega) (by omega) b
  have r0 : ds D v 0 a b < 1000000 → Rc (lk D v 0) b a := fun z => Rc_symm (lk_symm v 0) (d0.resolve_right (fun w => by omega)).1
  have r1 : ds D v 1 a b < 1000000 → Rc (lk D v 1) b a := fun z => Rc_symm (lk_symm v 1) (d1.resolve_right (fun w => by omega)).1
  unfold stp
  refine crc_ofr (crc_ofr (crc_ofr hx (fun c o ho _ => ?_)) (fun c o ho z => ?_)) (fun c o ho z => ?_)
  · have c1 := of_decide_eq_true (Bool.and_eq_true_iff.mp c).1
    have c2 := of_decide_eq_true (Bool.and_eq_true_iff.mp c).2
    rcases (by omega : o = 0 ∨ o = 1) with rfl | rfl
    · exact r0 c1
    · exact r1 c2
  · have c2 := of_decide_eq_true (Bool.and_eq_true_iff.mp c).2
    rcases z with z | z
    · omega
    · subst z; exact r0 c2
  · have c2 := of_decide_eq_true (Bool.and_eq_true_iff.mp c).2
    rcases z with z | z
    · omega
    · subst z; exact r1 c2
theorem cst_rc (hw : DW D) (v : Nat) {p : Nat} (hp : p ≤ 1600) : crc D v (cst D v p) := by
  induction p with
  | zero => exact Or.inl rfl
  | succ p ih =>
    rw [cst_s]
    split
    · exact crc_stp hw (ih (by omega)) (by omega)
    · exact ih (by omega)
/-! the class traces -/
/-- steps n0 on hold the way of a sort -/
def TS (D : dD) (v o a b n0 d : Nat) (σ : jM) : Prop := ∀ i, i < d → rI σ 290 (n0 + i) = nI o ∧ rI σ 291 (n0 + i) = nI (pth D v o a b i) ∧ rI σ 292 (n0 + i) = nI (pth D v o a b (i + 1))
theorem c_nearer (hw : DW D) {v o b s n : Nat} (ho : o < 2) (hb : b < 40) (hs : s < 40) (h : Rc (lk D v o) b s) (hn : ds D v o b s = n + 1) (hA : Adj σ (279 + o) (lk D v o)) (hf : ∀ t, t < 40 → rI σ (294 + o) t = dsI (lk D v o) b t) : f_X2_nearer (nI o) (nI s) (nI n) σ = some (nI (nx D v o b s), σ) := by
  obtain ⟨g1, g2, g3, g4⟩ := nx_spec hw ho h hn
  have hlt := (lk_b hw ho _ _ g1).2
  have hn40 : n < 40 := by have := (ds_cases hw (v := v) (o := o) ho hb s).resolve_right (fun w => w.1 h); omega
  refine ok_eq ?_
  unfold f_X2_nearer
  refine L_X2_nearer_3 (nx D v o b s) (fun t l4 τ => l4 = nI t ∧ τ = σ) (by omega) (fun t q l4 τ hk hI hq => ?_) (Nat.zero_le _) ⟨rfl, rfl⟩
  obtain ⟨rfl, rfl⟩ := hI
  unfold s_X2_nearer_3 f_X2_nearer_45
  rw [li40]
  simp (disch := omega) only [nI_le2, nI_ix]
  rw [if_neg (by omega), gd_n ho (by omega), gd_n hs (by omega), e_has (by omega), bd_some, ite_bI]
  have hb1 := hA.2.1 s hs t (by omega)
  have go : t < nx D v o b s → ok (q (nI o) (nI s) (nI n) (nI t + 1) τ) (fun r s' => r = nI (nx D v o b s) ∧ s' = τ) := fun z => hq (t + 1) _ _ (by omega) (by omega) ⟨nI_1 t, rfl⟩
  refine ok_ite (fun z => ?_) (fun z => ?_)
  · have z := hb1.mp z
    rw [gd_n ho (by omega), gd_n (by omega) (by omega), hf t (by omega)]
    have hd : dsI (lk D v o) b t = nI n ↔ ds D v o b t = n := by
      show (if ds D v o b t = 1000000 then (-1 : Int32) else nI (ds D v o b t)) = nI n ↔ _
      rcases ds_cases hw (v := v) (o := o) ho hb t with ⟨h1, h2⟩ | ⟨h1, h2⟩
      · rw [if_neg (by omega), nI_eq2 (by omega) (by omega)]
      · rw [if_pos h2, m1_nI (by omega)]
        exact ⟨fun y => y.elim, fun y => by omega⟩
    rw [ite_iff hd]
    refine ok_ite (fun z2 => ?_) (fun z2 => go ?_)
    · have := g4 t z z2
      have e : t = nx D v o b s := by omega
      rw [e]
      exact ok_ret ⟨rfl, rfl⟩
    · rcases Nat.lt_or_ge t (nx D v o b s) with w | w
      · exact w
      · have e : t = nx D v o b s := by omega
        rw [e] at z2
        exact absurd g2 z2
  · refine go ?_
    rcases Nat.lt_or_ge t (nx D v o b s) with w | w
    · exact w
    · have e : t = nx D v o b s := by omega
      rw [e] at z hb1
      exact absurd (hb1.mpr g1) z
abbrev wtr (k j : Nat) : Prop := (k = 289 ∧ j = 5) ∨ (290 ≤ k ∧ k ≤ 292) ∨ k = 294 ∨ k = 295
theorem c_trace (hw : DW D) {v o a b n0 : Nat} (ho : o < 2) (ha : a < 40) (hb : b < 40) (h : Rc (lk D v o) b a) (hn0 : n0 ≤ 40) (hA : Adj σ (279 + o) (lk D v o)) (h1 : rI σ 289 1 = nI a) (h2 : rI σ 289 2 = nI b) (h5 : rI σ 289 5 = nI n0) : ok (f_X2_trace (nI o) σ) (fun _ τ => rI τ 289 5 = nI (n0 + ds D v o b a) ∧ TS D v o a b n0 (ds D v o b a) τ ∧ (∀ k j, 290 ≤ k → k ≤ 292 → j < n0 → rI τ k j = rI σ k j) ∧ Fr wtr σ τ) := by
  have hd := (ds_cases hw (v := v) (o := o) ho hb a).resolve_right (fun w => w.1 h)
  unfold f_X2_trace
  rw [h2]
  refine ok_bd (c_measure ho hb hA) (fun _ τ1 g1 => ?_)
  have e1 : rI τ1 289 1 = nI a := (g1.2.I _ _ (by omega)).trans h1
  rw [gd_n ho (by omega), e1, gd_n ha (by omega)]
  simp (disch := omega) only [nI_ix]
  have ed : rI τ1 (294 + o) a = nI (ds D v o b a) := by
    rw [g1.1 a ha]
    show (if ds D v o b a = 1000000 then (-1 : Int32) else nI (ds D v o b a)) = _
    rw [if_neg (by omega)]
  rw [ed]
  refine L_X2_trace_28 (ds D v o b a) (fun i l2 l3 τ => l2 = nI (pth D v o a b i) ∧ l3 = zi ((ds D v o b a : Int) - i - 1) ∧ rI τ 289 5 = nI (n0 + i) ∧ TS D v o a b n0 i τ ∧ (∀ k j, 290 ≤ k → k ≤ 292 → j < n0 → rI τ k j = rI σ k j) ∧ Fr (fun k j => (k = 289 ∧ j = 5) ∨ (290 ≤ k ∧ k ≤ 292)) τ1 τ) (by omega) (fun i q l2 l3 τ hk hI hq => ?_) (Nat.zero_le _) ⟨rfl, ?_, (g1.2.I _ _ (by omega)).trans h5, fun i hi => by omega, fun k j p1 p2 p3 => g1.2.I _ _ (by omega), Fr.refl⟩
  · obtain ⟨rfl, rfl, e5, hT, hO, hF⟩ := hI
    rw [q_s_X2_trace_28]
    unfold f_X2_trace_107
    have e0 : (zi ((ds D v o b a : Int) - i - 1) < 0) ↔ (ds D v o b a : Int) - i - 1 < 0 := zi_lt (b := 0) (by omega) (by omega) (by omega) (by omega)
    by_cases ci : i < ds D v o b a
    · obtain ⟨p1, p2, p3⟩ := pth_spec hw ho ha h (i := i) (by omega)
      have ei : zi ((ds D v o b a : Int) - i - 1) = nI (ds D v o b a - i - 1) := by rw [nI_zi]; congr 1; omega
      have en : zi ((ds D v o b a : Int) - i - 1) + -1 = zi ((ds D v o b a : Int) - (i + 1 : Nat) - 1) := by rw [show (-1 : Int32) = zi (-1) from rfl, zi_add]; congr 1; omega
      have hnl := (lk_b hw ho _ _ (nx_spec hw ho p1 (n := ds D v o b a - i - 1) (by omega)).1).2
      rw [if_neg (fun z => by have := e0.mp z; omega), e5, if_neg (show ¬ (80 : Int32) ≤ nI (n0 + i) from fun z => by have := (nI_le2 (a := 80) (by omega) (by omega)).mp z; omega), en, ei, c_nearer hw ho hb p3 p1 (by omega) (Adj_fr hA (fun j => (hF.L _ _ (by omega)).trans (g1.2.L _ _ (by omega)))) (fun t ht => (hF.I _ _ (by omega)).trans (g1.1 t ht)), bd_some, if_neg (show ¬ nI (nx D v o b (pth D v o a b i)) = -1 from fun z => (nI_m1 (by omega)).mp z), e5]
      simp (disch := omega) only [gd_n, nI_ix]
      refine hq (i + 1) _ _ _ (by omega) (by omega) ⟨rfl, rfl, ?_, fun i' hi' => ?_, fun k j p1 p2 p3 => ?_, Fr.w (Fr.w (Fr.w (Fr.w hF (by omega)) (by omega)) (by omega)) (by omega)⟩
      · rw [rI_same, nI_1, Nat.add_assoc]
      · by_cases e : i' = i
        · subst e
          refine ⟨?_, ?_, ?_⟩
          · rw [rI_nk (by omega), rI_nk (by omega), rI_nk (by omega), rI_same]
          · rw [rI_nk (by omega), rI_nk (by omega), rI_same]
          · rw [rI_nk (by omega), rI_same]; rfl
        · obtain ⟨q1, q2, q3⟩ := hT i' (by omega)
          refine ⟨?_, ?_, ?_⟩
          · rw [rI_nk (by omega), rI_nk (by omega), rI_nk (by omega), rI_nj (by omega)]; exact q1
          · rw [rI_nk (by omega), rI_nk (by omega), rI_nj (by omega), rI_nk (by omega)]; exact q2
          · rw [rI_nk (by omega), rI_nj (by omega), rI_nk (by omega), rI_nk (by omega)]; exact q3
      · rw [rI_nk (by omega), rI_nj (by omega), rI_nj (by omega), rI_nj (by omega)]; exact hO k j p1 p2 p3
    · rw [if_pos (e0.mpr (by omega))]
      have e : i = ds D v o b a := by omega
      subst e
      exact ok_ret ⟨e5, hT, hO, (g1.2.mono (fun k j e => by omega)).trans (hF.mono (fun k j e => by omega))⟩
  · rw [nI_zi, show (1 : Int32) = zi 1 from rfl, zi_sub]
    congr 1
def CK (D : dD) (v : Nat) (σ : jM) : Prop := rI σ 289 3 = (if (cst D v 1600).2.2.2.1 = 1000000 then -1 else nI (cst D v 1600).2.2.1) ∧ ((cst D v 1600).2.2.2.1 < 1000000 → rI σ 289 1 = nI (cst D v 1600).1 ∧ rI σ 289 2 = nI (cst D v 1600).2.1 ∧ rI σ 289 4 = nI (cst D v 1600).2.2.2.1) ∧ rI σ 289 5 = nI (rlen D v (cst D v 1600)) ∧ ∀ i, i < rlen D v (cst D v 1600) → rI σ 290 i = nI (rsn D v (cst D v 1600) i).1 ∧ rI σ 291 i = nI (rsn D v (cst D v 1600) i).2.1 ∧ rI σ 292 i = nI (rsn D v (cst D v 1600) i).2.2
theorem CK_St : St RC CK := fun D v σ τ he h => ⟨(he _ _ (by omega)).1.trans h.1, fun z => ⟨(he _ _ (by omega)).1.trans (h.2.1 z).1, (he _ _ (by omega)).1.trans (h.2.1 z).2.1, (he _ _ (by omega)).1.trans (h.2.1 z).2.2⟩, (he _ _ (by omega)).1.trans h.2.2.1, fun i hi => ⟨(he _ _ (by omega)).1.trans (h.2.2.2 i hi).1, (he _ _ (by omega)).1.trans (h.2.2.2 i hi).2.1, (he _ _ (by omega)).1.trans (h.2.2.2 i hi).2.2⟩⟩
abbrev wck (k _j : Nat) : Prop := 289 ≤ k ∧ k ≤ 295
theorem c_clash0 (hw : DW D) {v : Nat} (hG : GK D v σ) (h0 : rI σ 289 0 = 0) : ok (f_X2_make σ) (fun _ τ => CK D v τ ∧ Fr wck σ τ) := by
  unfold f_X2_make
  rw [if_pos h0]
  refine L_X2_make_25 40 (fun a l1 τ => l1 = nI a ∧ Fr wck σ τ ∧ CC (cst D v (40 * a)) τ ∧ rI τ 289 5 = 0) (by omega) (fun a q l1 τ hk hI hq => ?_) (Nat.zero_le _) ⟨rfl, Fr.w (Fr.w (Fr.w Fr.refl (by omega)) (by omega)) (by omega), ⟨rfl, fun z => absurd (show (1000000 : Nat) < 1000000 from z) (by decide)⟩, rfl⟩
  obtain ⟨rfl, hF, hC, h5⟩ := hI
  have hG' : GK D v τ := GK_St _ _ _ _ (fun k j hr => ⟨hF.I _ _ (by omega), hF.L _ _ (by omega)⟩) hG
  unfold s_X2_make_25 f_X2_make_79
  rw [li40]
  simp (disch := omega) only [nI_le2]
  by_cases ca : a < 40
  · rw [if_neg (by omega)]
    obtain ⟨y, ey, hy⟩ := c_above ca hG'
    rw [ey, bd_some]
    refine ok_bd (c_weighAll hw ca hG' hC hy) (fun _ τ1 g1 => ?_)
    exact hq (a + 1) _ _ (by omega) (by omega) ⟨nI_1 a, hF.trans (g1.2.mono (fun k j e => by omega)), g1.1, (g1.2.I _ _ (by omega)).trans h5⟩
  · rw [if_pos (by omega)]
    have e : a = 40 := by omega
    subst e
    have hok := cst_ok hw v 1600
    have hrc := cst_rc hw v (p := 1600) (by omega)
    have hC : CC (cst D v 1600) τ := hC
    have goal : ∀ x : cT, x = cst D v 1600 → CC x τ → cok x → crc D v x → ok (if rI τ 289 3 = -1 then some ((), τ) else f_X2_make_60 Fu (rI τ 289 10) τ) (fun _ τ => (rI τ 289 3 = (if x.2.2.2.1 = 1000000 then -1 else nI x.2.2.1) ∧ (x.2.2.2.1 < 1000000 → rI τ 289 1 = nI x.1 ∧ rI τ 289 2 = nI x.2.1 ∧ rI τ 289 4 = nI x.2.2.2.1) ∧ rI τ 289 5 = nI (rlen D v x) ∧ ∀ i, i < rlen D v x → rI τ 290 i = nI (rsn D v x i).1 ∧ rI τ 291 i = nI (rsn D v x i).2.1 ∧ rI τ 292 i = nI (rsn D v x i).2.2) ∧ Fr wck σ τ) := by
      intro x _ hC hok hrc
      rw [hC.1]
      by_cases c : x.2.2.2.1 = 1000000
      · rw [if_pos c, if_pos rfl]
        refine ok_ret ⟨⟨by rw [hC.1, if_pos c], fun z => by omega, ?_, fun i hi => ?_⟩, hF⟩
        · unfold rlen; rw [if_pos c]; exact h5
        · unfold rlen at hi; rw [if_pos c] at hi; omega
      · rcases hok with hok | ⟨x1, x2, x3, x4⟩
        · exact absurd hok c
        have hrc := hrc.resolve_left c
        obtain ⟨y1, y2, y3, y4, y5⟩ := hC.2 (by omega)
        rw [if_neg c, if_neg (show ¬ nI x.2.2.1 = -1 from fun z => (nI_m1 (by omega)).mp z), y4]
        have hA : ∀ o, o < 2 → ∀ τ', Fr wtr τ τ' → Adj τ' (279 + o) (lk D v o) := fun o ho τ' hF' => Adj_fr (hG'.2.1 o ho) (fun j => hF'.L _ _ (by omega))
        have fin : ∀ τ', Fr wtr τ τ' → (rI τ' 289 5 = nI (rlen D v x) ∧ ∀ i, i < rlen D v x → rI τ' 290 i = nI (rsn D v x i).1 ∧ rI τ' 291 i = nI (rsn D v x i).2.1 ∧ rI τ' 292 i = nI (rsn D v x i).2.2) → ok (some ((), τ')) (fun _ τ => (rI τ 289 3 = nI x.2.2.1 ∧ (x.2.2.2.1 < 1000000 → rI τ 289 1 = nI x.1 ∧ rI τ 289 2 = nI x.2.1 ∧ rI τ 289 4 = nI x.2.2.2.1) ∧ rI τ 289 5 = nI (rlen D v x) ∧ ∀ i, i < rlen D v x → rI τ 290 i = nI (rsn D v x i).1 ∧ rI τ 291 i = nI (rsn D v x i).2.1 ∧ rI τ 292 i = nI (rsn D v x i).2.2) ∧ Fr wck σ τ) := fun τ' hF' hz => ok_ret ⟨⟨(hF'.I _ _ (by omega)).trans (hC.1.trans (if_neg c)), fun _ => ⟨(hF'.I _ _ (by omega)).trans y1, (hF'.I _ _ (by omega)).trans y2, (hF'.I _ _ (by omega)).trans y3⟩, hz⟩, hF.trans (hF'.mono (fun k j e => by omega))⟩
        by_cases ck : x.2.2.1 = 1
        · have e4 : fso x = 0 := if_pos ck
          have e5 : lso x = 1 := if_pos ck
          rw [e4]
          have r0 := hrc 0 (by omega) (Or.inl ck)
          have r1 := hrc 1 (by omega) (Or.inl ck)
          have d0 := (ds_cases hw (v := v) (o := 0) (by omega) x2 x.1).resolve_right (fun w => w.1 r0)
          have el : rlen D v x = ds D v 0 x.2.1 x.1 + ds D v 1 x.2.1 x.1 := by unfold rlen; rw [if_neg c, if_pos ck]
          refine L_X2_make_60 2 (fun o l1 τ' => l1 = nI o ∧ Fr wtr τ τ' ∧ rI τ' 289 5 = nI (if o = 0 then 0 else if o = 1 then ds D v 0 x.2.1 x.1 else rlen D v x) ∧ (1 ≤ o → TS D v 0 x.1 x.2.1 0 (ds D v 0 x.2.1 x.1) τ') ∧ (2 ≤ o → TS D v 1 x.1 x.2.1 (ds D v 0 x.2.1 x.1) (ds D v 1 x.2.1 x.1) τ')) (by omega) (fun o q2 l1 τ' hk2 hI2 hq2 => ?_) (k := 0) (by omega) ⟨rfl, Fr.refl, h5, fun z => by omega, fun z => by omega⟩
          obtain ⟨rfl, hF', g5, gT, gU⟩ := hI2
          unfold s_X2_make_60 f_X2_make_79
          rw [hF'.I 289 11 (by omega), y5, e5, ite_iff (nI_lt2 (by omega) (by omega))]
          rcases (by omega : o = 0 ∨ o = 1 ∨ o = 2) with rfl | rfl | rfl
          · rw [if_neg (by omega)]
            refine ok_bd (c_trace hw (o := 0) (n0 := 0) (by omega) (by omega) x2 r0 (by omega) (hA 0 (by omega) τ' hF') ((hF'.I _ _ (by omega)).trans y1) ((hF'.I _ _ (by omega)).trans y2) g5) (fun _ τ2 t2 => ?_)
            obtain ⟨t1, t2, t3, t4⟩ := t2
            refine hq2 1 _ _ (by omega) (by omega) ⟨rfl, hF'.trans t4, ?_, fun _ => t2, fun z => by omega⟩
            rw [if_neg (by omega), if_pos rfl, t1, Nat.zero_add]
          · rw [if_neg (by omega)]
            rw [if_neg (by omega), if_pos rfl] at g5
            refine ok_bd (c_trace hw (o := 1) (n0 := ds D v 0 x.2.1 x.1) (by omega) (by omega) x2 r1 (by omega) (hA 1 (by omega) τ' hF') ((hF'.I _ _ (by omega)).trans y1) ((hF'.I _ _ (by omega)).trans y2) g5) (fun _ τ2 t2 => ?_)
            obtain ⟨t1, t2, t3, t4⟩ := t2
            refine hq2 2 _ _ (by omega) (by omega) ⟨rfl, hF'.trans t4, ?_, fun _ i hi => ?_, fun _ => t2⟩
            · rw [if_neg (by omega), if_neg (by omega), t1, el]
            · obtain ⟨u1, u2, u3⟩ := gT (by omega) i hi
              exact ⟨(t3 _ _ (by omega) (by omega) (by omega)).trans u1, (t3 _ _ (by omega) (by omega) (by omega)).trans u2, (t3 _ _ (by omega) (by omega) (by omega)).trans u3⟩
          · rw [if_pos (by omega)]
            rw [if_neg (by omega), if_neg (by omega)] at g5
            refine fin τ' hF' ⟨g5, fun i hi => ?_⟩
            rw [el] at hi
            unfold rsn
            rw [if_pos ck]
            by_cases ci : i < ds D v 0 x.2.1 x.1
            · rw [if_pos ci]
              have := gT (by omega) i ci
              rw [Nat.zero_add] at this
              exact this
            · rw [if_neg ci]
              have := gU (by omega) (i - ds D v 0 x.2.1 x.1) (by omega)
              rw [show ds D v 0 x.2.1 x.1 + (i - ds D v 0 x.2.1 x.1) = i by omega] at this
              exact this
        · have hs2 : x.2.2.2.2 < 2 := by omega
          have e4 : fso x = x.2.2.2.2 := if_neg ck
          have e5 : lso x = x.2.2.2.2 := if_neg ck
          rw [e4]
          have r0 := hrc x.2.2.2.2 hs2 (Or.inr rfl)
          have el : rlen D v x = ds D v x.2.2.2.2 x.2.1 x.1 := by unfold rlen; rw [if_neg c, if_neg ck]
          refine L_X2_make_60 2 (fun n l1 τ' => n ≤ 1 ∧ l1 = nI (x.2.2.2.2 + n) ∧ Fr wtr τ τ' ∧ rI τ' 289 5 = nI (if n = 0 then 0 else rlen D v x) ∧ (1 ≤ n → TS D v x.2.2.2.2 x.1 x.2.1 0 (ds D v x.2.2.2.2 x.2.1 x.1) τ')) (by omega) (fun n q2 l1 τ' hk2 hI2 hq2 => ?_) (k := 0) (by omega) ⟨by omega, rfl, Fr.refl, h5, fun z => by omega⟩
          obtain ⟨hn1, rfl, hF', g5, gT⟩ := hI2
          unfold s_X2_make_60 f_X2_make_79
          rw [hF'.I 289 11 (by omega), y5, e5, ite_iff (nI_lt2 (by omega) (by omega))]
          rcases (by omega : n = 0 ∨ n = 1) with rfl | rfl
          · rw [if_neg (by omega), Nat.add_zero]
            refine ok_bd (c_trace hw (n0 := 0) hs2 (by omega) x2 r0 (by omega) (hA _ hs2 τ' hF') ((hF'.I _ _ (by omega)).trans y1) ((hF'.I _ _ (by omega)).trans y2) g5) (fun _ τ2 t2 => ?_)
            obtain ⟨t1, t2, t3, t4⟩ := t2
            refine hq2 1 _ _ (by omega) (by omega) ⟨by omega, nI_1 _, hF'.trans t4, ?_, fun _ => t2⟩
            rw [if_neg (by omega), t1, Nat.zero_add, el]
          · rw [if_pos (by omega)]
            rw [if_neg (by omega)] at g5
            refine fin τ' hF' ⟨g5, fun i hi => ?_⟩
            rw [el] at hi
            unfold rsn
            rw [if_neg ck]
            have := gT (by omega) i hi
            rw [Nat.zero_add] at this
            exact this
    exact ok_imp (goal (cst D v 1600) rfl hC hok hrc) (fun _ τ h => h)
end RSN
