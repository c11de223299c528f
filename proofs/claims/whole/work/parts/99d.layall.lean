/-! THE SEARCH: clearing, the first look, all of it -/
section LAL
variable {D : dD} {σ : jM} {v : Nat}
abbrev g0 : gF := fun _ => 135
abbrev r0 : gF := fun _ => 99
abbrev wcl9 (k j : Nat) : Prop := k = 310 ∨ k = 298 ∨ k = 320 ∨ k = 321 ∨ (k = 296 ∧ (j = 13 ∨ j = 16))
theorem c_clearCells : ok (f_X8_clearCells σ) (fun _ τ => CG g0 τ ∧ CR7 r0 τ ∧ rI τ 296 16 = 0 ∧ Fr wcl9 σ τ) := by
  have s1 : (shf 310).2 = 7 := rfl
  have s2 : (shf 298).2 = 40 := rfl
  have s3 : (shf 320).2 = 27 := rfl
  have s4 : (shf 321).2 = 5 := rfl
  unfold f_X8_clearCells
  refine ok_bd (e_fillI 310 (-1) σ (by rw [s1]; omega)) (fun _ τ1 t1 => ?_)
  refine ok_bd (e_fillI 298 (-1) τ1 (by rw [s2]; omega)) (fun _ τ2 t2 => ?_)
  refine ok_bd (e_fillL 320 0 τ2 (by rw [s3]; omega)) (fun _ τ3 t3 => ?_)
  refine ok_bd (e_fillL 321 0 τ3 (by rw [s4]; omega)) (fun _ τ4 t4 => ?_)
  rw [s1] at t1
  rw [s2] at t2
  rw [s3] at t3
  rw [s4] at t4
  refine ok_ret ⟨⟨fun s hs => ⟨?_, Nat.le_refl _⟩, fun t ht => ?_, fun k hk t ht => ?_, fun k hk t ht => ?_⟩, fun i hi => ⟨?_, Or.inl rfl⟩, rI_same _ _ _ _, ?_⟩
  · rw [rI_nk (by omega), rI_wL]
    exact (t4.2.I _ _ (by omega)).trans ((t3.2.I _ _ (by omega)).trans (t2.1 s hs))
  · rw [rL_wI, rL_same, bt_0]
    exact ⟨fun z => (by cases z), fun z => absurd rfl z.2⟩
  · rw [rL_wI, rL_nk (by omega), t4.2.L _ _ (by omega), t3.1 k hk, bt_0]
    exact ⟨fun z => (by cases z), fun z => absurd rfl z.1.2⟩
  · rw [rL_wI, rL_nk (by omega), t4.1 k hk, bt_0]
    exact ⟨fun z => (by cases z), fun z => absurd rfl z.1.2⟩
  · rw [rI_nk (by omega), rI_wL]
    exact (t4.2.I _ _ (by omega)).trans ((t3.2.I _ _ (by omega)).trans ((t2.2.I _ _ (by omega)).trans (t1.1 i hi)))
  · exact Fr.w (Fr.wl ((((t1.2.mono (V := wcl9) (fun k j z => by omega)).trans (t2.2.mono (fun k j z => by omega))).trans (t3.2.mono (fun k j z => by omega))).trans (t4.2.mono (fun k j z => by omega))) (by omega)) (by omega)
/-- every seat has a row of its size -/
def hasR (D : dD) (e : seT) (n : Nat) : Prop := ∀ l, l < n → ∃ q, q < D 327 (e.1 l) ∧ D 328 (8 * e.1 l + q) = e.2.1 l
theorem fl_nil {α : Type} {f : Nat → List α} {n : Nat} (h : ∀ q, q < n → f q = []) : fl f n = [] := by
  induction n with
  | zero => rfl
  | succ n ih => rw [fl_s, ih (fun q hq => h q (by omega)), h n (by omega)]; rfl
theorem lvs_nil {e : seT} {l' : Nat} (h : ¬ ∃ q, q < D 327 (e.1 l') ∧ D 328 (8 * e.1 l' + q) = e.2.1 l') {m l : Nat} {g r : gF} (h1 : l ≤ l') (h2 : l' < l + m) : lvs D v e m l g r = [] := by
  induction m generalizing l g r with
  | zero => omega
  | succ m ih =>
    rw [lvs_s]
    refine fl_nil (fun q hq => ?_)
    unfold kid
    by_cases c : l = l'
    · subst c
      unfold stpo
      rw [if_neg (fun z => h ⟨q, hq, (decP_t.mp z).1⟩)]; rfl
    · cases stpo D v e l q g r with
      | none => rfl
      | some g' => exact ih (by omega) (by omega)
theorem c_everySeat (hw : DW D) {e : seT} {n n' : Nat} (hn : n ≤ n') (hX : CX D v e n' σ) (h5 : rI σ 296 5 = nI n) : f_X8_everySeatHasRows σ = some (bI (decP (hasR D e n) = true), σ) := by
  have hn7 := hX.2.2.2.1
  refine ok_eq ?_
  unfold f_X8_everySeatHasRows
  refine L_X8_everySeatHasRows_2 n (fun l l1 τ => l1 = nI l ∧ τ = σ ∧ ∀ l', l' < l → ∃ q, q < D 327 (e.1 l') ∧ D 328 (8 * e.1 l' + q) = e.2.1 l') (by omega) (fun l p l1 τ hk hI hp => ?_) (Nat.zero_le _) ⟨rfl, rfl, fun l' hl' => by omega⟩
  obtain ⟨rfl, rfl, hA⟩ := hI
  unfold s_X8_everySeatHasRows_2
  rw [h5, ite_iff (nI_le2 (by omega) (by omega))]
  by_cases cl : l < n
  · obtain ⟨a1, a2, a3, a4, a5⟩ := hX.2.2.2.2 l (by omega)
    have h24 := hw.1.1
    obtain ⟨b1, b2, b3, b4, b5⟩ := hw.1.2.1 (e.1 l) a1
    obtain ⟨x1, x2, x3, x4⟩ := hX.1.2.1 (e.1 l) a1
    rw [if_neg (by omega), gd_n (by omega) (by omega)]
    simp (disch := omega) only [nI_ix]
    rw [a3, gd_n (by omega) (by omega)]
    simp (disch := omega) only [nI_ix]
    have f71 : ∀ (z : Int32), (z = 1 ∧ ∃ q, q < D 327 (e.1 l) ∧ D 328 (8 * e.1 l + q) = e.2.1 l) ∨ (z = 0 ∧ ¬ ∃ q, q < D 327 (e.1 l) ∧ D 328 (8 * e.1 l + q) = e.2.1 l) → ok (f_X8_everySeatHasRows_71 p (nI l) z τ) (fun a s => a = bI (decP (hasR D e n) = true) ∧ s = τ) := by
      intro z hz
      unfold f_X8_everySeatHasRows_71
      rcases hz with ⟨rfl, hz⟩ | ⟨rfl, hz⟩
      · rw [if_neg (by decide)]
        refine hp (l + 1) _ _ (by omega) (by omega) ⟨nI_1 l, rfl, fun l' hl' => ?_⟩
        by_cases el : l' = l
        · subst el; exact hz
        · exact hA l' (by omega)
      · rw [if_pos rfl]
        exact ok_ret ⟨(bI_neg (c := decP (hasR D e n) = true) (fun y => hz ((decP_t.mp y : hasR D e n) l cl))).symm, rfl⟩
    refine L_X8_everySeatHasRows_30 (D 327 (e.1 l)) (fun q l3 l4 τ' => l4 = nI q ∧ τ' = τ ∧ ((l3 = 1 ∧ ∃ q, q < D 327 (e.1 l) ∧ D 328 (8 * e.1 l + q) = e.2.1 l) ∨ (l3 = 0 ∧ ∀ q', q' < q → D 328 (8 * e.1 l + q') ≠ e.2.1 l))) (by omega) (fun q p2 l3 l4 τ' hk2 hI2 hp2 => ?_) (Nat.zero_le _) ⟨rfl, rfl, Or.inr ⟨rfl, fun q' hq' => by omega⟩⟩
    obtain ⟨rfl, rfl, h3⟩ := hI2
    unfold s_X8_everySeatHasRows_30 f_X8_everySeatHasRows_64
    rw [x3, ite_iff (nI_le2 (by omega) (by omega))]
    by_cases cq : q < D 327 (e.1 l)
    · rw [if_neg (by omega)]
      rcases h3 with ⟨rfl, h3⟩ | ⟨rfl, h3⟩
      · rw [if_neg (by decide)]
        exact f71 1 (Or.inl ⟨rfl, h3⟩)
      · rw [if_pos rfl]
        simp (disch := omega) only [gd_n, nI_ix]
        rw [(x4 q cq).1, a4, ite_iff (nI_eq2 (by have := b5 q cq; omega) (by omega))]
        refine ok_ite (fun z => ?_) (fun z => ?_)
        · exact hp2 (q + 1) _ _ _ (by omega) (by omega) ⟨nI_1 q, rfl, Or.inl ⟨rfl, q, cq, z⟩⟩
        · refine hp2 (q + 1) _ _ _ (by omega) (by omega) ⟨nI_1 q, rfl, Or.inr ⟨rfl, fun q' hq' => ?_⟩⟩
          by_cases eq : q' = q
          · subst eq; exact z
          · exact h3 q' (by omega)
    · rw [if_pos (by omega)]
      refine f71 l3 (h3.imp id (fun y => ⟨y.1, fun w => ?_⟩))
      obtain ⟨q', w1, w2⟩ := w
      exact y.2 q' (by omega) w2
  · rw [if_pos (by omega)]
    exact ok_ret ⟨(bI_pos (c := decP (hasR D e n) = true) (decP_t.mpr (fun l' hl' => hA l' (by omega)))).symm, rfl⟩
abbrev wA (b : Prop) (k j : Nat) : Prop := wD b 0 k j ∨ (k = 296 ∧ j = 17)
def DQ (b : Prop) (M : Nat) (g r : gF) (L : List (gF × gF)) (σ : jM) (ret : Int32) (τ : jM) : Prop := Fr (wA b) σ τ ∧ ((L.length < M ∧ ret = 0 ∧ CG g τ ∧ CR7 r τ ∧ rI τ 296 16 = nI L.length ∧ (b → TL g L σ τ)) ∨ (M ≤ L.length ∧ ret = 1 ∧ ∃ x, L[M - 1]? = some x ∧ CG x.1 τ ∧ CR7 x.2 τ ∧ rI τ 296 16 = nI M))
theorem c_layAll (hw : DW D) {e : seT} {n n' M : Nat} (hn : n ≤ n') (hM : M < 2147483648) (hM1 : 1 ≤ M) (b : Prop) {g r : gF} (hX : CX D v e n' σ) (h5 : rI σ 296 5 = nI n) (h18 : b ↔ rI σ 296 18 ≠ 0) (h16 : rI σ 296 16 = 0) (hg : CG g σ) (hr : CR7 r σ) (hrl : ∀ i, i < n → r i = 99) (hrn : ∀ i, i < 7 → r i ≠ 99 → i < n') : ok (f_X8_layAll (nI M) σ) (DQ b M g r (lvs D v e n 0 g r) σ) := by
  have hn7 := hX.2.2.2.1
  have hF0 : Fr (wA b) σ (wI σ 296 17 (nI M)) := Fr.w Fr.refl (Or.inr ⟨rfl, rfl⟩)
  have hX0 : CX D v e n' (wI σ 296 17 (nI M)) := CX_fr hw hX (Fr.w Fr.refl (by omega))
  have g1 : CG g (wI σ 296 17 (nI M)) := CG_fr hg (fun s => by rw [rI_nk (by omega)]) (fun _ _ _ => rfl)
  have r1 : CR7 r (wI σ 296 17 (nI M)) := fun i hi => by rw [rI_nk (by omega)]; exact hr i hi
  have e16 : rI (wI σ 296 17 (nI M)) 296 16 = nI 0 := by rw [rI_nj (by omega)]; exact h16
  have e5 : rI (wI σ 296 17 (nI M)) 296 5 = nI n := by rw [rI_nj (by omega)]; exact h5
  have e18 : b ↔ rI (wI σ 296 17 (nI M)) 296 18 ≠ 0 := by rw [rI_nj (by omega)]; exact h18
  unfold f_X8_layAll f_X8_layAll_24 f_X8_layAll_25 f_X8_descend
  rw [c_everySeat hw hn hX0 e5, bd_some, ite_bI]
  refine ok_ite (fun z => ?_) (fun z => ?_)
  · refine ok_bd (c_descend hw hn hM b (m := n) (k := 9) (l := 0) (f := 0) (by omega) (by omega) hX0 e5 (rI_same _ _ _ _) e18 e16 hM1 g1 r1 (fun i _ h => hrl i h) hrn) (fun ret τ hh => ?_)
    obtain ⟨hF, hres⟩ := hh
    have hFt : Fr (wA b) σ τ := hF0.trans (hF.mono (fun k j z => Or.inl z))
    rcases hres with ⟨w1, rfl, w3, w4, w5, w6⟩ | ⟨w1, rfl, x, w3, w4, w5, w6⟩
    · rw [if_pos rfl, gd_0]
      rw [Nat.zero_add] at w1 w5
      exact ok_ret ⟨hFt, Or.inl ⟨w1, rfl, w3, w4, w5, fun hb => ⟨fun s hs c hc => ((w6 hb).1 s hs c hc).trans (by rw [rI_nk (by omega)]), (w6 hb).2⟩⟩⟩
    · rw [if_neg (by decide), gd_1]
      rw [Nat.zero_add] at w1
      exact ok_ret ⟨hFt, Or.inr ⟨w1, rfl, x, w3, w4, w5, w6⟩⟩
  · have e0 : lvs D v e n 0 g r = [] := by
      have hno : ¬ hasR D e n := fun y => z (decP_t.mpr y)
      obtain ⟨l', h1, h2⟩ : ∃ l', l' < n ∧ ¬ ∃ q, q < D 327 (e.1 l') ∧ D 328 (8 * e.1 l' + q) = e.2.1 l' := Classical.byContradiction (fun y => hno (fun l' hl' => Classical.byContradiction (fun w => y ⟨l', hl', w⟩)))
      exact lvs_nil h2 (by omega) (by omega)
    rw [gd_0, e0]
    exact ok_ret ⟨hF0, Or.inl ⟨hM1, rfl, g1, r1, e16, fun _ => TL_fr (TL_0 g) (fun j => by rw [rI_nk (by omega)]) rfl⟩⟩
end LAL
