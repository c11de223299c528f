/-! THE SEARCH: laying a row, lifting it, open rows -/
section LAY
variable {D : dD} {σ : jM} {v : Nat}
/-- seats: tablet, size, cells -/
abbrev seT : Type := (Nat → Nat) × (Nat → Nat) × (Nat → Nat → Nat)
noncomputable def sl (D : dD) (v : Nat) (g : gF) (s0 c : Nat) : Option gF := if s0 = 99 then some g else if agb D v g (std D v s0) c = true then some (up g (std D v s0) c) else none
/-- the row w laid under the cells C, n places of it -/
noncomputable def ly (D : dD) (v : Nat) (C : Nat → Nat) (w : Nat) (g : gF) : Nat → Option gF := Nat.rec (some g) (fun j r => r.bind (fun g1 => sl D v g1 (D 329 (6 * w + j)) (C j)))
theorem ly_0 (C : Nat → Nat) (w : Nat) (g : gF) : ly D v C w g 0 = some g := rfl
theorem ly_s (C : Nat → Nat) (w : Nat) (g : gF) (j : Nat) : ly D v C w g (j + 1) = (ly D v C w g j).bind (fun g1 => sl D v g1 (D 329 (6 * w + j)) (C j)) := rfl
theorem ly_none {C : Nat → Nat} {w : Nat} {g : gF} {j n : Nat} (h : ly D v C w g j = none) (hn : j ≤ n) : ly D v C w g n = none := by
  induction n with
  | zero => have : j = 0 := by omega
            subst this; exact h
  | succ n ih =>
    rcases Nat.lt_or_ge n j with w1 | w1
    · have : j = n + 1 := by omega
      subst this; exact h
    · rw [ly_s, ih w1]; rfl
/-- what was new -/
def NW (g g1 : gF) (k : Nat) (N : Nat → Nat) : Prop := (∀ i, i < k → N i < 40 ∧ g (N i) = 135 ∧ g1 (N i) ≠ 135) ∧ (∀ t, (∀ i, i < k → N i ≠ t) → g1 t = g t) ∧ (∀ i j, i < j → j < k → N i ≠ N j)
theorem NW_0 (g : gF) (N : Nat → Nat) : NW g g 0 N := ⟨fun i hi => by omega, fun _ _ => rfl, fun i j _ hj => by omega⟩
theorem NW_s {g g1 : gF} {k : Nat} {N : Nat → Nat} (h : NW g g1 k N) {s c : Nat} (hs : s < 40) (h0 : g1 s = 135) (hc : c ≠ 135) : NW g (up g1 s c) (k + 1) (up N k s) := by
  have hn : ∀ i, i < k → N i ≠ s := fun i hi e => (h.1 i hi).2.2 (by rw [e]; exact h0)
  refine ⟨fun i hi => ?_, fun t ht => ?_, fun i j hij hj => ?_⟩
  · by_cases e : i = k
    · subst e
      rw [up_same]
      exact ⟨hs, by rw [← h.2.1 s hn]; exact h0, by rw [up_same]; exact hc⟩
    · rw [up_ne _ _ e, up_ne _ _ (hn i (by omega))]
      exact h.1 i (by omega)
  · have h1 : s ≠ t := by have := ht k (by omega); rw [up_same] at this; exact this
    rw [up_ne _ _ (fun z => h1 z.symm)]
    exact h.2.1 t (fun i hi => by have := ht i (by omega); rw [up_ne _ _ (by omega)] at this; exact this)
  · rw [up_ne _ _ (show i ≠ k by omega)]
    by_cases e : j = k
    · subst e; rw [up_same]; exact hn i hij
    · rw [up_ne _ _ e]; exact h.2.2 i j hij (by omega)
/-- the class holds the new ones of a seat -/
def NLs (l k : Nat) (N : Nat → Nat) (σ : jM) : Prop := rI σ 319 l = nI k ∧ ∀ i, i < k → rI σ (312 + l) i = nI (N i)
/-- the seats of the class -/
def SC (D : dD) (e : seT) (n : Nat) (σ : jM) : Prop := n ≤ 7 ∧ ∀ i, i < n → e.1 i < D 324 2 ∧ e.2.1 i ≤ 8 ∧ rI σ 300 i = nI (e.1 i) ∧ rI σ 301 i = nI (e.2.1 i) ∧ ∀ j, j < e.2.1 i → e.2.2 i j < 135 ∧ rI σ (303 + i) j = nI (e.2.2 i j)
def CX (D : dD) (v : Nat) (e : seT) (n : Nat) (σ : jM) : Prop := CDt D σ ∧ GK D v σ ∧ (∀ s, s < 40 → rI σ 18 s = nI (std D v s)) ∧ SC D e n σ
abbrev wS (k _j : Nat) : Prop := (296 ≤ k ∧ k ≤ 298) ∨ (310 ≤ k ∧ k ≤ 321)
theorem CX_fr (hw : DW D) {e : seT} {n : Nat} {τ : jM} (h : CX D v e n σ) (hF : Fr wS σ τ) : CX D v e n τ := by
  obtain ⟨h1, h2, h3, h4, h5⟩ := h
  refine ⟨CDt_eq hw.1 rfl rfl rfl rfl rfl rfl (hF.I _ _ (by omega)) (fun k j a b => hF.I _ _ (by omega)) h1, GK_St _ _ _ _ (fun k j hr => ⟨hF.I _ _ (by omega), hF.L _ _ (by omega)⟩) h2, fun s hs => (hF.I _ _ (by omega)).trans (h3 s hs), h4, fun i hi => ?_⟩
  obtain ⟨a1, a2, a3, a4, a5⟩ := h5 i hi
  exact ⟨a1, a2, (hF.I _ _ (by omega)).trans a3, (hF.I _ _ (by omega)).trans a4, fun j hj => ⟨(a5 j hj).1, (hF.I _ _ (by omega)).trans (a5 j hj).2⟩⟩
abbrev wly (l k j : Nat) : Prop := wgv k j ∨ (k = 310 ∧ j = l) ∨ (k = 319 ∧ j = l) ∨ k = 312 + l
theorem wly_wS {l k j : Nat} (hl : l < 7) (h : wly l k j) : wS k j := by omega
theorem c_lay (hw : DW D) {e : seT} {n l q : Nat} {g : gF} (hX : CX D v e n σ) (hl : l < n) (hq : q < D 327 (e.1 l)) (hz : D 328 (8 * e.1 l + q) = e.2.1 l) (hg : CG g σ) : ok (f_X8_lay (nI l) (nI q) σ) (fun r τ => ∃ g1 k N, CG g1 τ ∧ NLs l k N τ ∧ NW g g1 k N ∧ k ≤ 6 ∧ rI τ 310 l = nI q ∧ Fr (wly l) σ τ ∧ ((r = 0 ∧ ly D v (e.2.2 l) (8 * e.1 l + q) g (e.2.1 l) = none) ∨ (r = 1 ∧ ly D v (e.2.2 l) (8 * e.1 l + q) g (e.2.1 l) = some g1))) := by
  obtain ⟨h1, h2, h3, h4, h5⟩ := hX
  have hX : CX D v e n σ := ⟨h1, h2, h3, h4, h5⟩
  obtain ⟨a1, a2, a3, a4, a5⟩ := h5 l hl
  have h24 := hw.1.1
  obtain ⟨b1, b2, b3, b4, b5⟩ := hw.1.2.1 (e.1 l) a1
  obtain ⟨z1, z2⟩ := b5 q hq
  rw [hz] at z1 z2
  unfold f_X8_lay
  rw [gd_n (by omega) (by omega)]
  simp (disch := omega) only [nI_ix]
  rw [a3, gd_n (by omega) (by omega), gd_n (by omega) (by omega), gd_n (by omega) (by omega)]
  simp (disch := omega) only [nI_ix]
  refine L_X8_lay_32 (e.2.1 l) (fun j l4 τ => l4 = nI j ∧ ∃ g1 k N, ly D v (e.2.2 l) (8 * e.1 l + q) g j = some g1 ∧ CG g1 τ ∧ NLs l k N τ ∧ NW g g1 k N ∧ k ≤ j ∧ rI τ 310 l = nI q ∧ Fr (wly l) σ τ) (by omega) (fun j p l4 τ hk hI hp => ?_) (Nat.zero_le _) ⟨rfl, g, 0, fun _ => 0, rfl, CG_fr hg (fun s => by rw [rI_nk (by omega), rI_nk (by omega)]) (fun k j _ => rfl), ⟨rI_same _ _ _ _, fun i hi => by omega⟩, NW_0 g _, Nat.le_refl _, by rw [rI_nk (by omega), rI_same], Fr.w (Fr.w Fr.refl (Or.inr (Or.inl ⟨rfl, rfl⟩))) (Or.inr (Or.inr (Or.inl ⟨rfl, rfl⟩)))⟩
  obtain ⟨rfl, g1, k, N, hL, hg1, hN, hW, hkj, e310, hF⟩ := hI
  have hX1 : CX D v e n τ := CX_fr hw hX (hF.mono (fun k j z => wly_wS (by omega) z))
  obtain ⟨x1, x2, x3, x4⟩ := hX1.1.2.1 (e.1 l) a1
  obtain ⟨y1, y2⟩ := x4 q hq
  rw [q_s_X8_lay_32]
  unfold f_X8_lay_141
  rw [gd_n (by omega) (by omega)]
  simp (disch := omega) only [nI_ix]
  rw [y1, hz, ite_iff (nI_le2 (by omega) (by omega))]
  by_cases cj : j < e.2.1 l
  · rw [if_neg (by omega), e_signAt (by omega), bd_some, y2 j (by omega)]
    have hsd := hw.1.2.2 (6 * (8 * e.1 l + q) + j) (by omega)
    rw [ite_iff (pz_m1 (by omega))]
    by_cases c99 : D 329 (6 * (8 * e.1 l + q) + j) = 99
    · rw [if_pos c99]
      refine hp (j + 1) _ _ (by omega) (by omega) ⟨nI_1 j, g1, k, N, ?_, hg1, hN, hW, by omega, e310, hF⟩
      rw [ly_s, hL]
      show sl D v g1 _ _ = _
      unfold sl
      rw [if_pos c99]
    · have hs0 : D 329 (6 * (8 * e.1 l + q) + j) < 40 := hsd.resolve_left c99
      have hst := std_lt (D := D) v hs0
      obtain ⟨c1, c2⟩ := a5 j cj
      have c2' : rI τ (303 + l) j = nI (e.2.2 l j) := (hF.I _ _ (by omega)).trans c2
      have esl : ly D v (e.2.2 l) (8 * e.1 l + q) g (j + 1) = if agb D v g1 (std D v (D 329 (6 * (8 * e.1 l + q) + j))) (e.2.2 l j) = true then some (up g1 (std D v (D 329 (6 * (8 * e.1 l + q) + j))) (e.2.2 l j)) else none := by
        rw [ly_s, hL]
        show sl D v g1 _ _ = _
        unfold sl
        rw [if_neg c99]
      rw [if_neg c99, pz_n c99, gd_n hs0 (by omega), gd_n (by omega) (by omega), gd_n (by omega) (by omega)]
      simp (disch := omega) only [nI_ix]
      rw [hX1.2.2.1 _ hs0, c2', c_agrees hw hX1.2.1 hg1 hst c1, bd_some, ite_bI]
      simp (disch := omega) only [nI_ix]
      by_cases ca : agb D v g1 (std D v (D 329 (6 * (8 * e.1 l + q) + j))) (e.2.2 l j) = true
      · rw [if_pos ca] at esl
        rw [if_pos ca, gd_n hst (by omega), (hg1.1 _ hst).1, ite_iff (gz_m1 (by have := (hg1.1 _ hst).2; omega))]
        refine ok_ite (fun cg => ?_) (fun cg => ?_)
        · refine ok_bd (c_give hg1 hst c1 cg) (fun _ τ1 t => ?_)
          obtain ⟨t1, t2⟩ := t
          have e19 : rI τ1 319 l = nI k := (t2.I _ _ (by omega)).trans hN.1
          rw [gd_n (by omega) (by omega), gd_n (by omega) (by omega)]
          rw [e19, gd_n (by omega) (by omega), gd_n (by omega) (by omega), gd_n (by omega) (by omega)]
          simp (disch := omega) only [nI_ix, rI_nk]
          rw [e19]
          refine hp (j + 1) _ _ (by omega) (by omega) ⟨nI_1 j, _, k + 1, up N k (std D v (D 329 (6 * (8 * e.1 l + q) + j))), esl, CG_fr t1 (fun s => by rw [rI_nk (by omega), rI_nk (by omega)]) (fun k j _ => rfl), ⟨by rw [rI_same, nI_1], fun i hi => ?_⟩, NW_s hW hst cg (by omega), by omega, ?_, ?_⟩
          · rw [rI_nk (by omega)]
            by_cases e : i = k
            · subst e; rw [rI_same, up_same]
            · rw [rI_nj e, up_ne _ _ e]
              exact (t2.I _ _ (by omega)).trans (hN.2 i (by omega))
          · rw [rI_nk (by omega), rI_nk (by omega)]
            exact (t2.I _ _ (by omega)).trans e310
          · exact Fr.w (Fr.w (hF.trans (t2.mono (fun k j z => Or.inl z))) (Or.inr (Or.inr (Or.inr rfl)))) (Or.inr (Or.inr (Or.inl ⟨rfl, rfl⟩)))
        · refine hp (j + 1) _ _ (by omega) (by omega) ⟨nI_1 j, g1, k, N, ?_, hg1, hN, hW, by omega, e310, hF⟩
          rw [esl]
          rcases agb_t.mp ca with z | z
          · rw [up_id z]
          · exact absurd z.1 cg
      · rw [if_neg ca] at esl
        rw [if_neg ca]
        exact ok_ret ⟨g1, k, N, hg1, hN, hW, by omega, e310, hF, Or.inl ⟨rfl, ly_none esl (by omega)⟩⟩
  · rw [if_pos (by omega)]
    have e : j = e.2.1 l := by omega
    subst e
    exact ok_ret ⟨g1, k, N, hg1, hN, hW, by omega, e310, hF, Or.inr ⟨rfl, hL⟩⟩
/-! lifting -/
def lb (g1 : gF) (N : Nat → Nat) : Nat → gF := Nat.rec g1 (fun i g => up g (N i) 135)
theorem lb_s (g1 : gF) (N : Nat → Nat) (i : Nat) : lb g1 N (i + 1) = up (lb g1 N i) (N i) 135 := rfl
theorem lb_no (g1 : gF) (N : Nat → Nat) {k t : Nat} (h : ∀ i, i < k → N i ≠ t) : lb g1 N k t = g1 t := by
  induction k with
  | zero => rfl
  | succ k ih => rw [lb_s, up_ne _ _ (fun z => h k (by omega) z.symm), ih (fun i hi => h i (by omega))]
theorem lb_yes (g1 : gF) (N : Nat → Nat) {k i : Nat} (h : i < k) : lb g1 N k (N i) = 135 := by
  induction k with
  | zero => omega
  | succ k ih =>
    rw [lb_s]
    by_cases e : N i = N k
    · rw [e, up_same]
    · rw [up_ne _ _ e]
      refine ih ?_
      rcases Nat.lt_or_ge i k with w | w
      · exact w
      · have : i = k := by omega
        subst this; exact absurd rfl e
theorem lb_NW {g g1 : gF} {k : Nat} {N : Nat → Nat} (h : NW g g1 k N) : lb g1 N k = g := by
  funext t
  by_cases c : ∃ i, i < k ∧ N i = t
  · obtain ⟨i, hi, rfl⟩ := c
    rw [lb_yes _ _ hi, (h.1 i hi).2.1]
  · have c : ∀ i, i < k → N i ≠ t := fun i hi z => c ⟨i, hi, z⟩
    rw [lb_no _ _ c, h.2.1 t c]
theorem c_lift {g g1 : gF} {l k : Nat} {N : Nat → Nat} (hl : l < 7) (hg : CG g1 σ) (hN : NLs l k N σ) (hW : NW g g1 k N) (hk : k ≤ 6) : ok (f_X8_lift (nI l) σ) (fun _ τ => CG g τ ∧ rI τ 310 l = -1 ∧ Fr (wly l) σ τ) := by
  unfold f_X8_lift
  rw [gd_n hl (by omega)]
  simp (disch := omega) only [nI_ix]
  refine L_X8_lift_9 k (fun i l2 τ => l2 = nI i ∧ CG (lb g1 N i) τ ∧ NLs l k N τ ∧ rI τ 310 l = -1 ∧ Fr (wly l) σ τ) (by omega) (fun i p l2 τ hk2 hI hp => ?_) (Nat.zero_le _) ⟨rfl, CG_fr hg (fun s => by rw [rI_nk (by omega)]) (fun k j _ => rfl), ⟨by rw [rI_nk (by omega)]; exact hN.1, fun i hi => by rw [rI_nk (by omega)]; exact hN.2 i hi⟩, rI_same _ _ _ _, Fr.w Fr.refl (Or.inr (Or.inl ⟨rfl, rfl⟩))⟩
  obtain ⟨rfl, hg, hN, e310, hF⟩ := hI
  unfold s_X8_lift_9
  rw [gd_n hl (by omega)]
  simp (disch := omega) only [nI_ix]
  rw [hN.1, ite_iff (nI_le2 (by omega) (by omega))]
  by_cases c : i < k
  · rw [if_neg (by omega), gd_n hl (by omega), gd_n (by omega) (by omega), hN.2 i c]
    refine ok_bd (c_takeBack hg (hW.1 i c).1) (fun _ τ1 t => ?_)
    obtain ⟨t1, t2⟩ := t
    exact hp (i + 1) _ _ (by omega) (by omega) ⟨nI_1 i, t1, ⟨(t2.I _ _ (by omega)).trans hN.1, fun i hi => (t2.I _ _ (by omega)).trans (hN.2 i hi)⟩, (t2.I _ _ (by omega)).trans e310, hF.trans (t2.mono (fun k j z => Or.inl z))⟩
  · have e : i = k := by omega
    subst e
    rw [if_pos (by omega), gd_n hl (by omega)]
    rw [lb_NW hW] at hg
    exact ok_ret ⟨CG_fr hg (fun s => by rw [rI_nk (by omega)]) (fun k j _ => rfl), by rw [rI_nk (by omega)]; exact e310, Fr.w hF (Or.inr (Or.inr (Or.inl ⟨rfl, rfl⟩)))⟩
/-! open rows -/
def rz (d : Nat) : Int32 := if d = 99 then -1 else nI d
/-- which rows are taken -/
def CR7 (r : gF) (σ : jM) : Prop := ∀ i, i < 7 → rI σ 310 i = rz (r i) ∧ (r i = 99 ∨ r i < 8)
/-- no seat has the row yet -/
def opn (e : seT) (r : gF) (l q : Nat) : Prop := ∀ i, i < 7 → r i = q → e.1 i ≠ e.1 l
noncomputable def opb (D : dD) (e : seT) (r : gF) (l q : Nat) : Bool := decP (D 328 (8 * e.1 l + q) = e.2.1 l ∧ opn e r l q)
theorem rz_n {d q : Nat} (hq : q < 8) (h : d = 99 ∨ d < 8) : rz d = nI q ↔ d = q := by
  unfold rz
  rcases h with h | h
  · rw [if_pos h, m1_nI (by omega)]
    exact ⟨fun z => z.elim, fun z => by omega⟩
  · rw [if_neg (by omega), nI_eq2 (by omega) (by omega)]
theorem c_isOpen (hw : DW D) {e : seT} {n l q : Nat} {r : gF} (hX : CX D v e n σ) (hl : l < n) (hq : q < D 327 (e.1 l)) (hr : CR7 r σ) (hT : ∀ i, i < 7 → r i ≠ 99 → e.1 i < 24 ∧ rI σ 300 i = nI (e.1 i)) : f_X8_isOpen (nI l) (nI q) σ = some (bI (opb D e r l q = true), σ) := by
  obtain ⟨h1, h2, h3, h4, h5⟩ := hX
  obtain ⟨a1, a2, a3, a4, a5⟩ := h5 l hl
  have h24 := hw.1.1
  obtain ⟨b1, b2, b3, b4, b5⟩ := hw.1.2.1 (e.1 l) a1
  obtain ⟨z1, z2⟩ := b5 q hq
  obtain ⟨x1, x2, x3, x4⟩ := h1.2.1 (e.1 l) a1
  refine ok_eq ?_
  unfold f_X8_isOpen
  rw [gd_n (by omega) (by omega)]
  simp (disch := omega) only [nI_ix]
  rw [a3, gd_n (by omega) (by omega), gd_n (by omega) (by omega), gd_n (by omega) (by omega)]
  simp (disch := omega) only [nI_ix]
  rw [(x4 q hq).1, a4, ite_iff (nI_eq2 (by omega) (by omega))]
  refine ok_ite (fun cz => ?_) (fun cz => ok_ret ⟨by rw [bI_neg (fun z => cz (decP_t.mp z).1)], rfl⟩)
  refine L_X8_isOpen_35 7 (fun i l4 τ => l4 = nI i ∧ τ = σ ∧ ∀ i', i' < i → r i' = q → e.1 i' ≠ e.1 l) (by omega) (fun i p l4 τ hk hI hp => ?_) (Nat.zero_le _) ⟨rfl, rfl, fun i' hi' => by omega⟩
  obtain ⟨rfl, rfl, hO⟩ := hI
  unfold s_X8_isOpen_35 f_X8_isOpen_66
  rw [li7]
  simp (disch := omega) only [nI_ix]
  rw [ite_iff (nI_le2 (by omega) (by omega))]
  by_cases ci : i < 7
  · obtain ⟨r1, r2⟩ := hr i ci
    have go : (r i = q → e.1 i ≠ e.1 l) → ok (p (nI q) (nI (e.1 l)) (nI i + 1) τ) (fun a s => a = bI (opb D e r l q = true) ∧ s = τ) := fun h => hp (i + 1) _ _ (by omega) (by omega) ⟨nI_1 i, rfl, fun i' hi' => by
      by_cases ei : i' = i
      · subst ei; exact h
      · exact hO i' (by omega)⟩
    rw [if_neg (by omega), gd_n ci (by omega), r1, ite_iff (rz_n (by omega) r2)]
    refine ok_ite (fun y => ?_) (fun y => go (fun z => absurd z y))
    obtain ⟨t1, t2⟩ := hT i ci (by omega)
    rw [gd_n ci (by omega), t2, ite_iff (nI_eq2 (by omega) (by omega))]
    exact ok_ite (fun y2 => ok_ret ⟨by rw [bI_neg (fun z => (decP_t.mp z).2 i ci y y2)], rfl⟩) (fun y2 => go (fun _ => y2))
  · rw [if_pos (by omega)]
    exact ok_ret ⟨(bI_pos (c := opb D e r l q = true) (decP_t.mpr ⟨cz, fun i' hi' => hO i' (by omega)⟩)).symm, rfl⟩
end LAY
