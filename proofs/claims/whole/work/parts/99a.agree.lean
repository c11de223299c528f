/-! THE SEARCH: what agrees, giving and taking back -/
section SEA
variable {D : dD} {σ : jM} {v : Nat}
abbrev gF : Type := Nat → Nat
/-- two readings go together -/
def agr (D : dD) (v s c t d : Nat) : Prop := c ≠ d ∧ (cls D v 0 s = cls D v 0 t → c / 5 = d / 5) ∧ (cls D v 1 s = cls D v 1 t → c % 5 = d % 5) ∧ (pt D v 0 s t → c / 5 ≠ d / 5) ∧ (pt D v 1 s t → c % 5 ≠ d % 5)
/-- a reading agrees with what is given -/
def AG (D : dD) (v : Nat) (g : gF) (s c : Nat) : Prop := g s = c ∨ (g s = 135 ∧ ∀ t, t < 40 → g t ≠ 135 → agr D v s c t (g t))
noncomputable def agb (D : dD) (v : Nat) (g : gF) (s c : Nat) : Bool := @decide (AG D v g s c) (Classical.propDecidable _)
theorem agb_t {g : gF} {s c : Nat} : agb D v g s c = true ↔ AG D v g s c := by
  unfold agb
  exact @decide_eq_true_iff _ (Classical.propDecidable _)
def up (g : gF) (s c : Nat) : gF := fun t => if t = s then c else g t
theorem up_same (g : gF) (s c : Nat) : up g s c s = c := if_pos rfl
theorem up_ne (g : gF) {s t : Nat} (c : Nat) (h : t ≠ s) : up g s c t = g t := if_neg h
theorem up_id {g : gF} {s c : Nat} (h : g s = c) : up g s c = g := by
  funext t
  by_cases e : t = s
  · rw [e, up_same, h]
  · rw [up_ne _ _ e]
def gz (d : Nat) : Int32 := if d = 135 then -1 else nI d
theorem gz_0 : gz 135 = -1 := rfl
theorem gz_n {d : Nat} (h : d ≠ 135) : gz d = nI d := if_neg h
theorem gz_m1 {d : Nat} (h : d < 2147483648) : gz d = -1 ↔ d = 135 := by
  by_cases e : d = 135
  · rw [e]; exact ⟨fun _ => rfl, fun _ => rfl⟩
  · rw [gz_n e, nI_m1 h]; exact ⟨fun z => z.elim, fun z => e z⟩
def gvn (g : gF) (t : Nat) : Prop := t < 40 ∧ g t ≠ 135
/-- the class holds what is given -/
def CG (g : gF) (σ : jM) : Prop := (∀ s, s < 40 → rI σ 298 s = gz (g s) ∧ g s ≤ 135) ∧ (∀ t, t < 64 → (bt (rL σ 296 13) t = true ↔ gvn g t)) ∧ (∀ k, k < 27 → ∀ t, t < 64 → (bt (rL σ 320 k) t = true ↔ gvn g t ∧ g t / 5 = k)) ∧ (∀ k, k < 5 → ∀ t, t < 64 → (bt (rL σ 321 k) t = true ↔ gvn g t ∧ g t % 5 = k))
abbrev wgv (k j : Nat) : Prop := k = 298 ∨ (k = 296 ∧ j = 13) ∨ k = 320 ∨ k = 321
theorem CG_fr {g : gF} {τ : jM} (h : CG g σ) (hI : ∀ s, rI τ 298 s = rI σ 298 s) (hL : ∀ k j, wgv k j → rL τ k j = rL σ k j) : CG g τ :=
  ⟨fun s hs => ⟨(hI s).trans (h.1 s hs).1, (h.1 s hs).2⟩, fun t ht => by rw [hL _ _ (by omega)]; exact h.2.1 t ht, fun k hk t ht => by rw [hL _ _ (by omega)]; exact h.2.2.1 k hk t ht, fun k hk t ht => by rw [hL _ _ (by omega)]; exact h.2.2.2 k hk t ht⟩
theorem Rc_cls (hw : DW D) {o s t : Nat} : Rc (lk D v o) s t ↔ cls D v o s = cls D v o t := by
  have hs := lk_symm (D := D) v o
  have p1 := (lst_spec (p := fun u => Rc (lk D v o) s u) ⟨s, Rc_refl s⟩).1
  have p2 := (lst_spec (p := fun u => Rc (lk D v o) t u) ⟨t, Rc_refl t⟩).1
  refine ⟨fun h => ?_, fun h => ?_⟩
  · show lst (fun u => Rc (lk D v o) s u) = lst (fun u => Rc (lk D v o) t u)
    congr 1
    funext u
    exact propext ⟨fun z => Rc_trans (Rc_symm hs h) z, fun z => Rc_trans h z⟩
  · have p1 : Rc (lk D v o) s (cls D v o s) := p1
    have p2 : Rc (lk D v o) t (cls D v o t) := p2
    rw [h] at p1
    exact Rc_trans p1 (Rc_symm hs p2)
theorem c_agreesBy (hG : GK D v σ) {g : gF} (hg : CG g σ) {o s : Nat} (ho : o < 2) (hs : s < 40) (x : Int64) {P : Prop} [Decidable P] (hP : P ↔ (∀ t, t < 64 → Rc (lk D v o) s t → gvn g t → bt x t = true) ∧ (∀ t, t < 64 → pt D v o s t → bt x t = false)) : f_X8_agreesBy (nI o) (nI s) x σ = some (bI P, σ) := by
  unfold f_X8_agreesBy f_X8_agreesBy_49 f_X8_agreesBy_50
  simp (disch := omega) only [gd_n, nI_ix]
  have e1 : (lg_cmp (((rL σ (285 + o) s) &&& (rL σ 296 13)) &&& (x ^^^ -1)) 0 = 0) ↔ ∀ t, t < 64 → Rc (lk D v o) s t → gvn g t → bt x t = true := by
    rw [lgc0, bt_eq0]
    refine ⟨fun h t ht h1 h2 => ?_, fun h t ht => ?_⟩
    · have := h t ht
      rw [bt_and, bt_and, bt_not _ ht, (hG.2.2.2 o ho s hs t ht).mpr h1, (hg.2.1 t ht).mpr h2] at this
      cases hb : bt x t with
      | true => rfl
      | false => rw [hb] at this; cases this
    · rw [bt_and, bt_and, bt_not _ ht]
      cases h1 : bt (rL σ (285 + o) s) t with
      | false => rfl
      | true =>
        cases h2 : bt (rL σ 296 13) t with
        | false => rfl
        | true => rw [h t ht ((hG.2.2.2 o ho s hs t ht).mp h1) ((hg.2.1 t ht).mp h2)]; rfl
  have e2 : (lg_cmp ((rL σ (282 + o) s) &&& x) 0 = 0) ↔ ∀ t, t < 64 → pt D v o s t → bt x t = false := by
    rw [lgc0, bt_eq0]
    refine ⟨fun h t ht h1 => ?_, fun h t ht => ?_⟩
    · have := h t ht
      rw [bt_and, ((hG.2.2.1 o ho).2.1 s hs t ht).mpr h1, Bool.true_and] at this
      exact this
    · rw [bt_and]
      cases h1 : bt (rL σ (282 + o) s) t with
      | false => rfl
      | true => rw [h t ht (((hG.2.2.1 o ho).2.1 s hs t ht).mp h1)]; rfl
  by_cases c1 : ∀ t, t < 64 → Rc (lk D v o) s t → gvn g t → bt x t = true
  · rw [if_pos (e1.mpr c1)]
    by_cases c2 : ∀ t, t < 64 → pt D v o s t → bt x t = false
    · rw [if_pos (e2.mpr c2), bI_pos (hP.mpr ⟨c1, c2⟩)]
      first | exact gd_pos (Or.inr rfl) | exact gd_pos (Or.inr trivial)
    · rw [if_neg (fun z => c2 (e2.mp z)), bI_neg (fun z => c2 (hP.mp z).2)]
      first | exact gd_pos (Or.inl rfl) | exact gd_pos (Or.inl trivial)
  · rw [if_neg (fun z => c1 (e1.mp z)), bI_neg (fun z => c1 (hP.mp z).1)]
    first | exact gd_pos (Or.inl rfl) | exact gd_pos (Or.inl trivial)
noncomputable def decP (P : Prop) : Bool := @decide P (Classical.propDecidable _)
theorem decP_t {P : Prop} : decP P = true ↔ P := by
  unfold decP
  exact @decide_eq_true_iff _ (Classical.propDecidable _)
theorem c_agrees (hw : DW D) (hG : GK D v σ) {g : gF} (hg : CG g σ) {s c : Nat} (hs : s < 40) (hc : c < 135) : f_X8_agrees (nI s) (nI c) σ = some (bI (agb D v g s c = true), σ) := by
  have hpt : ∀ o, o < 2 → ∀ t, pt D v o s t → t < 40 := fun o ho t z => ((hG.2.2.1 o ho).2.2 s t z).2
  obtain ⟨g1, g2⟩ := hg.1 s hs
  have a1 := c_agreesBy (o := 0) hG hg (by omega) hs (rL σ 320 (c / 5)) (P := decP ((∀ t, t < 64 → Rc (lk D v 0) s t → gvn g t → bt (rL σ 320 (c / 5)) t = true) ∧ (∀ t, t < 64 → pt D v 0 s t → bt (rL σ 320 (c / 5)) t = false)) = true) decP_t
  have a2 := c_agreesBy (o := 1) hG hg (by omega) hs (rL σ 321 (c % 5)) (P := decP ((∀ t, t < 64 → Rc (lk D v 1) s t → gvn g t → bt (rL σ 321 (c % 5)) t = true) ∧ (∀ t, t < 64 → pt D v 1 s t → bt (rL σ 321 (c % 5)) t = false)) = true) decP_t
  have a1 : f_X8_agreesBy 0 (nI s) (rL σ 320 (c / 5)) σ = _ := a1
  have a2 : f_X8_agreesBy 1 (nI s) (rL σ 321 (c % 5)) σ = _ := a2
  have d1 : ((∀ t, t < 64 → Rc (lk D v 0) s t → gvn g t → bt (rL σ 320 (c / 5)) t = true) ∧ (∀ t, t < 64 → pt D v 0 s t → bt (rL σ 320 (c / 5)) t = false)) ↔ ∀ t, t < 40 → g t ≠ 135 → (cls D v 0 s = cls D v 0 t → c / 5 = g t / 5) ∧ (pt D v 0 s t → c / 5 ≠ g t / 5) := by
    have hb := hg.2.2.1 (c / 5) (by omega)
    refine ⟨fun h t ht hn => ⟨fun z => ((hb t (by omega)).mp (h.1 t (by omega) ((Rc_cls hw).mpr z) ⟨ht, hn⟩)).2.symm, fun z e => ?_⟩, fun h => ⟨fun t ht h1 h2 => (hb t ht).mpr ⟨h2, ((h t h2.1 h2.2).1 ((Rc_cls hw).mp h1)).symm⟩, fun t ht h1 => Bool.eq_false_iff.mpr (fun z => ?_)⟩⟩
    · have := h.2 t (by omega) z
      rw [(hb t (by omega)).mpr ⟨⟨ht, hn⟩, e.symm⟩] at this
      cases this
    · have y := (hb t ht).mp z
      exact (h t y.1.1 y.1.2).2 h1 y.2.symm
  have d2 : ((∀ t, t < 64 → Rc (lk D v 1) s t → gvn g t → bt (rL σ 321 (c % 5)) t = true) ∧ (∀ t, t < 64 → pt D v 1 s t → bt (rL σ 321 (c % 5)) t = false)) ↔ ∀ t, t < 40 → g t ≠ 135 → (cls D v 1 s = cls D v 1 t → c % 5 = g t % 5) ∧ (pt D v 1 s t → c % 5 ≠ g t % 5) := by
    have hb := hg.2.2.2 (c % 5) (by omega)
    refine ⟨fun h t ht hn => ⟨fun z => ((hb t (by omega)).mp (h.1 t (by omega) ((Rc_cls hw).mpr z) ⟨ht, hn⟩)).2.symm, fun z e => ?_⟩, fun h => ⟨fun t ht h1 h2 => (hb t ht).mpr ⟨h2, ((h t h2.1 h2.2).1 ((Rc_cls hw).mp h1)).symm⟩, fun t ht h1 => Bool.eq_false_iff.mpr (fun z => ?_)⟩⟩
    · have := h.2 t (by omega) z
      rw [(hb t (by omega)).mpr ⟨⟨ht, hn⟩, e.symm⟩] at this
      cases this
    · have y := (hb t ht).mp z
      exact (h t y.1.1 y.1.2).2 h1 y.2.symm
  have d0 : (lg_cmp ((rL σ 320 (c / 5)) &&& (rL σ 321 (c % 5))) 0 = 0) ↔ ∀ t, t < 40 → g t ≠ 135 → c ≠ g t := by
    have hb := hg.2.2.1 (c / 5) (by omega)
    have hb2 := hg.2.2.2 (c % 5) (by omega)
    rw [lgc0, bt_eq0]
    refine ⟨fun h t ht hn e => ?_, fun h t ht => Bool.eq_false_iff.mpr (fun z => ?_)⟩
    · have := h t (by omega)
      rw [bt_and, (hb t (by omega)).mpr ⟨⟨ht, hn⟩, by rw [e]⟩, (hb2 t (by omega)).mpr ⟨⟨ht, hn⟩, by rw [e]⟩] at this
      cases this
    · rw [bt_and] at z
      have z := Bool.and_eq_true_iff.mp z
      have y1 := (hb t ht).mp z.1
      have y2 := (hb2 t ht).mp z.2
      exact h t y1.1.1 y1.1.2 (by omega)
  refine ok_eq ?_
  unfold f_X8_agrees f_X8_agrees_79 f_X8_agrees_80 f_X8_agrees_25
  rw [li5]
  simp (disch := omega) only [div_n, rem_n, gd_n, nI_ix]
  rw [g1]
  refine ok_ite (fun z => ?_) (fun z => ?_)
  · have z := (gz_m1 (by omega)).mp z
    have no : ¬ AG D v g s c → ok (gd ((0 : Int32) = 0 ∨ (0 : Int32) = 1) (some ((0 : Int32), σ))) (fun a τ => a = bI (agb D v g s c = true) ∧ τ = σ) := fun h => by
      rw [gd_0]
      exact ok_ret ⟨by rw [bI_neg (fun y => h (agb_t.mp y))], rfl⟩
    have hA : AG D v g s c ↔ ∀ t, t < 40 → g t ≠ 135 → agr D v s c t (g t) := ⟨fun h => h.elim (fun y => by omega) (fun y => y.2), fun h => Or.inr ⟨z, h⟩⟩
    refine ok_ite (fun z0 => ?_) (fun z0 => no (fun h => z0 (d0.mpr (fun t ht hn => (hA.mp h t ht hn).1))))
    rw [a1, bd_some, ite_bI]
    refine ok_ite (fun z1 => ?_) (fun z1 => no (fun h => z1 (decP_t.mpr (d1.mpr (fun t ht hn => ⟨(hA.mp h t ht hn).2.1, (hA.mp h t ht hn).2.2.2.1⟩)))))
    rw [a2, bd_some, ite_bI]
    refine ok_ite (fun z2 => ?_) (fun z2 => no (fun h => z2 (decP_t.mpr (d2.mpr (fun t ht hn => ⟨(hA.mp h t ht hn).2.2.1, (hA.mp h t ht hn).2.2.2.2⟩)))))
    rw [gd_T2]
    have z1 := d1.mp (decP_t.mp z1)
    have z2 := d2.mp (decP_t.mp z2)
    have z0 := d0.mp z0
    exact ok_ret ⟨by rw [bI_pos (agb_t.mpr (hA.mpr (fun t ht hn => ⟨z0 t ht hn, (z1 t ht hn).1, (z2 t ht hn).1, (z1 t ht hn).2, (z2 t ht hn).2⟩)))], rfl⟩
  · have z : g s ≠ 135 := fun y => z ((gz_m1 (by omega)).mpr y)
    rw [gz_n z, ite_iff (nI_eq2 (by omega) (by omega))]
    refine ok_ite (fun y => ?_) (fun y => ?_)
    · rw [gd_T2]
      exact ok_ret ⟨by rw [bI_pos (agb_t.mpr (Or.inl y))], rfl⟩
    · rw [gd_T]
      exact ok_ret ⟨by rw [bI_neg (fun w => (agb_t.mp w).elim y (fun u => z u.1))], rfl⟩
theorem c_give {g : gF} (hg : CG g σ) {s c : Nat} (hs : s < 40) (hc : c < 135) (h0 : g s = 135) : ok (f_X8_give (nI s) (nI c) σ) (fun _ τ => CG (up g s c) τ ∧ Fr wgv σ τ) := by
  unfold f_X8_give
  rw [li5]
  simp (disch := omega) only [div_n, rem_n, gd_n, nI_ix, rL_wI, rL_nk, rI_wL]
  refine ok_ret ⟨⟨fun t ht => ?_, fun t ht => ?_, fun k hk t ht => ?_, fun k hk t ht => ?_⟩, Fr.wl (Fr.wl (Fr.wl (Fr.w Fr.refl (Or.inl rfl)) (Or.inr (Or.inl ⟨rfl, rfl⟩))) (Or.inr (Or.inr (Or.inl rfl)))) (Or.inr (Or.inr (Or.inr rfl)))⟩
  · rw [rI_wL, rI_wL, rI_wL]
    by_cases e : t = s
    · subst e
      rw [rI_same, up_same]
      exact ⟨(gz_n (by omega)).symm, by omega⟩
    · rw [rI_nj e, up_ne _ _ e]
      exact hg.1 t ht
  · rw [rL_nk (by omega), rL_nk (by omega), rL_same, bt_or, bt_one (by omega) ht, Bool.or_eq_true, decide_eq_true_iff, hg.2.1 t ht]
    unfold gvn
    by_cases e : t = s
    · subst e
      rw [up_same]
      exact ⟨fun _ => ⟨hs, by omega⟩, fun _ => Or.inr rfl⟩
    · rw [up_ne _ _ e]
      exact ⟨fun z => z.resolve_right e, Or.inl⟩
  · rw [rL_nk (by omega)]
    by_cases ek : k = c / 5
    · subst ek
      rw [rL_same, bt_or, bt_one (by omega) ht, Bool.or_eq_true, decide_eq_true_iff, hg.2.2.1 _ hk t ht]
      unfold gvn
      by_cases e : t = s
      · subst e
        rw [up_same]
        exact ⟨fun _ => ⟨⟨hs, by omega⟩, rfl⟩, fun _ => Or.inr rfl⟩
      · rw [up_ne _ _ e]
        exact ⟨fun z => z.resolve_right e, Or.inl⟩
    · rw [rL_ne (fun _ z => ek z), rL_nk (by omega), rL_wI, hg.2.2.1 _ hk t ht]
      unfold gvn
      by_cases e : t = s
      · subst e
        rw [up_same]
        exact ⟨fun z => absurd h0 z.1.2, fun z => absurd z.2.symm ek⟩
      · rw [up_ne _ _ e]
  · by_cases ek : k = c % 5
    · subst ek
      rw [rL_same, bt_or, bt_one (by omega) ht, Bool.or_eq_true, decide_eq_true_iff, hg.2.2.2 _ hk t ht]
      unfold gvn
      by_cases e : t = s
      · subst e
        rw [up_same]
        exact ⟨fun _ => ⟨⟨hs, by omega⟩, rfl⟩, fun _ => Or.inr rfl⟩
      · rw [up_ne _ _ e]
        exact ⟨fun z => z.resolve_right e, Or.inl⟩
    · rw [rL_ne (fun _ z => ek z), rL_nk (by omega), rL_nk (by omega), rL_wI, hg.2.2.2 _ hk t ht]
      unfold gvn
      by_cases e : t = s
      · subst e
        rw [up_same]
        exact ⟨fun z => absurd h0 z.1.2, fun z => absurd z.2.symm ek⟩
      · rw [up_ne _ _ e]
theorem c_takeBack {g : gF} (hg : CG g σ) {s : Nat} (hs : s < 40) : ok (f_X8_takeBack (nI s) σ) (fun _ τ => CG (up g s 135) τ ∧ Fr wgv σ τ) := by
  obtain ⟨g1, g2⟩ := hg.1 s hs
  unfold f_X8_takeBack
  rw [gd_n hs (by omega)]
  simp (disch := omega) only [nI_ix]
  rw [g1]
  refine ok_ite (fun z => ?_) (fun z => ?_)
  · rw [up_id ((gz_m1 (by omega)).mp z)]
    exact ok_ret ⟨hg, Fr.refl⟩
  · have z : g s ≠ 135 := fun y => z ((gz_m1 (by omega)).mpr y)
    rw [gz_n z, li5]
    have hlt : g s < 135 := by omega
    simp (disch := omega) only [div_n, rem_n, gd_n, nI_ix, rL_wI, rL_nk, rI_wL]
    have bn : ∀ (x : Int64) t, t < 64 → (bt (x &&& (jlshl 1 (nI s) ^^^ -1)) t = true ↔ bt x t = true ∧ t ≠ s) := fun x t ht => by
      rw [bt_and, bt_not _ ht, bt_one (by omega) ht, Bool.and_eq_true]
      by_cases e : t = s
      · rw [decide_eq_true e]; exact ⟨fun y => (by have := y.2; cases this), fun y => absurd e y.2⟩
      · rw [decide_eq_false e]; exact ⟨fun y => ⟨y.1, e⟩, fun y => ⟨y.1, rfl⟩⟩
    have sv : ∀ t (X : Prop) (Y : Nat → Prop), (X ↔ gvn g t ∧ Y (g t)) → ((X ∧ t ≠ s) ↔ gvn (up g s 135) t ∧ Y (up g s 135 t)) := fun t X Y h => by
      rw [h]
      unfold gvn
      by_cases e : t = s
      · subst e
        rw [up_same]
        exact ⟨fun y => absurd rfl y.2, fun y => absurd rfl y.1.2⟩
      · rw [up_ne _ _ e]
        exact ⟨fun y => y.1, fun y => ⟨y, e⟩⟩
    have sw : ∀ t (k : Nat) (F : Nat → Nat) (X : Prop), k ≠ F (g s) → (X ↔ gvn g t ∧ F (g t) = k) → (X ↔ gvn (up g s 135) t ∧ F (up g s 135 t) = k) := fun t k F X hk h => by
      rw [h]
      unfold gvn
      by_cases e : t = s
      · subst e
        rw [up_same]
        exact ⟨fun y => absurd y.2.symm hk, fun y => absurd rfl y.1.2⟩
      · rw [up_ne _ _ e]
    refine ok_ret ⟨⟨fun t ht => ?_, fun t ht => ?_, fun k hk t ht => ?_, fun k hk t ht => ?_⟩, Fr.wl (Fr.wl (Fr.wl (Fr.w Fr.refl (Or.inl rfl)) (Or.inr (Or.inl ⟨rfl, rfl⟩))) (Or.inr (Or.inr (Or.inl rfl)))) (Or.inr (Or.inr (Or.inr rfl)))⟩
    · rw [rI_wL, rI_wL, rI_wL]
      by_cases e : t = s
      · subst e
        rw [rI_same, up_same]
        exact ⟨rfl, by omega⟩
      · rw [rI_nj e, up_ne _ _ e]
        exact hg.1 t ht
    · rw [rL_nk (by omega), rL_nk (by omega), rL_same, bn _ t ht]
      have := sv t (bt (rL σ 296 13) t = true) (fun _ => True) (by rw [hg.2.1 t ht]; exact ⟨fun y => ⟨y, trivial⟩, fun y => y.1⟩)
      rw [this]
      exact ⟨fun y => y.1, fun y => ⟨y, trivial⟩⟩
    · rw [rL_nk (by omega)]
      by_cases ek : k = g s / 5
      · subst ek
        rw [rL_same, bn _ t ht]
        exact sv t _ (fun d => d / 5 = g s / 5) (hg.2.2.1 _ hk t ht)
      · rw [rL_ne (fun _ z => ek z), rL_nk (by omega), rL_wI]
        exact sw t k (fun d => d / 5) _ ek (hg.2.2.1 _ hk t ht)
    · by_cases ek : k = g s % 5
      · subst ek
        rw [rL_same, bn _ t ht]
        exact sv t _ (fun d => d % 5 = g s % 5) (hg.2.2.2 _ hk t ht)
      · rw [rL_ne (fun _ z => ek z), rL_nk (by omega), rL_nk (by omega), rL_wI]
        exact sw t k (fun d => d % 5) _ ek (hg.2.2.2 _ hk t ht)
end SEA
