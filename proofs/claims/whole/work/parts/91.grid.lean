/-! the class's grid -/
section GRID
variable {D : dD} {σ : jM}
/-- where two rows of one length are unlike: the bits of their numbers -/
theorem cmp_bits {v q r : Nat} {x y : Int64} (hl : D 328 q = D 328 r) (h6 : D 328 q ≤ 6) (hx : KeyB D v q x) (hy : KeyB D v r y) {j : Nat} (hj : j < 64) (h : bt (x ^^^ y) j = true) : j / 6 < D 328 q ∧ sg D v q (j / 6) ≠ sg D v r (j / 6) := by
  rw [bt_xor, hx j hj, hy j hj, ← hl] at h
  by_cases c : j / 6 < D 328 q
  · refine ⟨c, fun e => ?_⟩
    rw [e] at h
    cases hb : (decide (j / 6 < D 328 q) && (sg D v r (j / 6) + 1).testBit (j % 6)) <;> rw [hb] at h <;> cases h
  · rw [decide_eq_false c, Bool.false_and, Bool.false_and] at h
    cases h
theorem cmp_has (hw : DWt D) {v q r i : Nat} {x y : Int64} (hq : q < 192) (hr : r < 192) (fq : full D q) (fr : full D r) (hl : D 328 q = D 328 r) (h6 : D 328 q ≤ 6) (hx : KeyB D v q x) (hy : KeyB D v r y) (hi : i < D 328 q) (hd : sg D v q i ≠ sg D v r i) : ∃ b, b < 6 ∧ bt (x ^^^ y) (6 * i + b) = true := by
  have s1 := sg_lt hw (v := v) hq fq hi h6
  have s2 := sg_lt hw (v := v) hr fr (by rw [← hl]; exact hi) (by omega)
  refine Classical.byContradiction (fun z => hd ?_)
  have := tb_ext (a := sg D v q i + 1) (b := sg D v r i + 1) (by omega) (by omega) (fun j hj => by
    rw [← key_place hx hi h6 hj, ← key_place hy (by rw [← hl]; exact hi) (by omega) hj]
    cases h1 : bt x (6 * i + j) <;> cases h2 : bt y (6 * i + j)
    · rfl
    · exact absurd ⟨j, hj, by rw [bt_xor, h1, h2]; rfl⟩ z
    · exact absurd ⟨j, hj, by rw [bt_xor, h1, h2]; rfl⟩ z
    · rfl)
  omega
theorem tl_no {v c a b x y : Nat} (h : ∀ i, ¬ un D v (wxr D v x) (wxr D v y) i) : tl D v c a b x y = false := by
  cases hb : tl D v c a b x y with
  | false => rfl
  | true => exact absurd (ui_no h) (of_decide_eq_true hb).1.1
theorem LC_done {v y x : Nat} (h : LC D v (ncl D v) y x σ) : LC D v 0 y (x + 1) σ := by
  have e : ∀ c a b, c < ncl D v → pq D v (ncl D v) y x c a b = pq D v 0 y (x + 1) c a b := fun c a b hc => by
    unfold pq
    rw [if_pos hc, if_neg (by omega)]
  exact ⟨fun c hc a b h1 h2 => by rw [← e c a b hc]; exact h.1 c hc a b h1 h2, fun o ho => Adj_iff (h.2 o ho) (fun a b => ⟨fun ⟨c, y1, y2, y3⟩ => ⟨c, y1, y2, by rw [← e c a b y1]; exact y3⟩, fun ⟨c, y1, y2, y3⟩ => ⟨c, y1, y2, by rw [e c a b y1]; exact y3⟩⟩)⟩
theorem LC_same {v y x y' x' : Nat} (h : LC D v 0 y x σ) (e : ∀ c a b, pcn D v y' x' c a b = pcn D v y x c a b) : LC D v 0 y' x' σ := by
  have e2 : ∀ c a b, pq D v 0 y' x' c a b = pq D v 0 y x c a b := fun c a b => by
    unfold pq
    rw [if_neg (by omega), if_neg (by omega), e]
  exact ⟨fun c hc a b h1 h2 => by rw [e2]; exact h.1 c hc a b h1 h2, fun o ho => Adj_iff (h.2 o ho) (fun a b => ⟨fun ⟨c, y1, y2, y3⟩ => ⟨c, y1, y2, by rw [e2]; exact y3⟩, fun ⟨c, y1, y2, y3⟩ => ⟨c, y1, y2, by rw [← e2]; exact y3⟩⟩)⟩
theorem LC_fr {v n y x : Nat} {τ : jM} (h : LC D v n y x σ) (e1 : ∀ k j, 266 ≤ k → k ≤ 277 → rI τ k j = rI σ k j) (e2 : ∀ k j, 279 ≤ k → k ≤ 280 → rL τ k j = rL σ k j) (h12 : ncl D v ≤ 12) : LC D v n y x τ := ⟨fun c hc a b h1 h2 => (e1 _ _ (by omega) (by omega)).trans (h.1 c hc a b h1 h2), fun o ho => Adj_fr (h.2 o ho) (fun j => e2 _ _ (by omega) (by omega))⟩
set_option maxHeartbeats 4000000 in
theorem c_compare (hw : DWt D) (hwr : DWr D) (hc : CDr D σ) {v x y : Nat} {ky kx : Int64} (hv : σ.2.2 = rIx D v) (hy : y < wN D v) (hx : x < y) (hl : D 328 (wxr D v x) = D 328 (wxr D v y)) (hky : KeyB D v (wxr D v y) ky) (hkx : KeyB D v (wxr D v x) kx) (hL : LC D v 0 y x σ) : ok (f_X4_compare ky kx (nI (D 328 (wxr D v y))) σ) (fun _ τ => LC D v 0 y (x + 1) τ ∧ Fr wcm σ τ) := by
  have hN := wN_le hw v
  have h24 := hw.1
  obtain ⟨a1, a2, a3, a4, a5⟩ := wxr_dw hw (v := v) (k := x) (Nat.le_refl _) (show x < wct D v (8 * D 324 2) by unfold wN at hy; omega)
  obtain ⟨b1, b2, b3, b4, b5⟩ := wxr_dw hw (v := v) (k := y) (Nat.le_refl _) hy
  have hne : ¬ ky = kx := fun e => by
    have := (key_eq hw (by omega) (by omega) b2 a2 b3 a3 hky hkx).mp e
    have wx1 := (wxr_at (D := D) (v := v) (k := x) (r := 8 * D 324 2) (by unfold wN at hy; omega))
    have wy1 := (wxr_at (D := D) (v := v) (k := y) (r := 8 * D 324 2) hy)
    have hlt : wxr D v x < wxr D v y := by
      rcases Nat.lt_or_ge (wxr D v x) (wxr D v y) with g | g
      · exact g
      · have := cnt_up (p := wnew D v) g
        have e1 : cnt (wnew D v) (wxr D v x) = x := wx1.2.2
        have e2 : cnt (wnew D v) (wxr D v y) = y := wy1.2.2
        omega
    exact (wnew_t.mp wy1.2.1).2.2 _ hlt a4 a3 (alk_symm this)
  -- the least place in which they are unlike
  obtain ⟨n, hn, hbn⟩ := bt_ne0.mp (show ¬ (ky ^^^ kx) = 0 from fun z => hne (by
    refine bt_ext (fun j hj => ?_)
    have := bt_eq0.mp z j hj
    rw [bt_xor] at this
    cases h1 : bt ky j <;> cases h2 : bt kx j <;> rw [h1, h2] at this <;> first | rfl | cases this))
  obtain ⟨m, ⟨hm1, hm2⟩, hm3⟩ := ex_least (p := fun j => j < 64 ∧ bt (ky ^^^ kx) j = true) ⟨n, hn, hbn⟩
  have hmz : ∀ j, j < m → bt (ky ^^^ kx) j = false := fun j hj => by
    cases hb : bt (ky ^^^ kx) j with
    | false => rfl
    | true => have := hm3 j ⟨by omega, hb⟩; omega
  obtain ⟨c1, c2⟩ := cmp_bits hl.symm b2 hky hkx hm1 hm2
  unfold f_X4_compare
  rw [e_leastOf hm1 hm2 hmz, bd_some, if_neg (show ¬ nI m = -1 from fun z => (nI_m1 (by omega)).mp z), li6]
  simp (disch := omega) only [div_n, pk_mul]
  rw [show m / 6 * 6 = 6 * (m / 6) by omega]
  generalize hi : m / 6 = i at *
  have hz36 : ∀ j, 36 ≤ j → bt (jlushr (ky ^^^ kx) (nI (6 * i))) j = false := fun j hj => by
    rw [bt_ushr _ (by omega), bt_xor, key_hi hky (by omega), key_hi hkx (by omega)]
    rfl
  have hcond : (lg_cmp (jlushr (ky ^^^ kx) (nI (6 * i))) 64 < 0) ↔ ∀ j, j < D 328 (wxr D v y) → j ≠ i → sg D v (wxr D v y) j = sg D v (wxr D v x) j := by
    rw [lg_64 hz36]
    refine ⟨fun h j hj hji => Classical.byContradiction (fun hd => ?_), fun h j hj => ?_⟩
    · obtain ⟨b, hb, hbb⟩ := cmp_has hw (by omega) (by omega) b3 a3 hl.symm b2 hky hkx hj hd
      rcases Nat.lt_or_ge j i with g | g
      · rw [hmz (6 * j + b) (by omega)] at hbb; cases hbb
      · have := h (6 * j + b - 6 * i) (by omega)
        rw [bt_ushr _ (by omega), show 6 * i + (6 * j + b - 6 * i) = 6 * j + b by omega, hbb] at this
        cases this
    · cases hb : bt (jlushr (ky ^^^ kx) (nI (6 * i))) j with
      | false => rfl
      | true =>
        rw [bt_ushr _ (by omega)] at hb
        rcases Nat.lt_or_ge (6 * i + j) 64 with g | g
        · obtain ⟨d1, d2⟩ := cmp_bits hl.symm b2 hky hkx g hb
          exact absurd (h ((6 * i + j) / 6) d1 (by omega)) d2
        · rw [bt_ge _ g] at hb; cases hb
  refine ok_ite (fun z => ?_) (fun z => ?_)
  · have z := hcond.mp z
    have hu : un D v (wxr D v x) (wxr D v y) i := ⟨hl, by omega, fun e => c2 e.symm, fun j hj hji => (z j (by omega) hji).symm⟩
    have s1 := sg_lt hw (v := v) (i := i) (by omega) a3 (by omega) a2
    have s2 := sg_lt hw (v := v) (i := i) (by omega) b3 c1 b2
    rw [c_signIn hky c1 b2 s2, bd_some, c_signIn hkx (by omega) a2 s1, bd_some, ← hl]
    exact ok_imp (c_compare62 hw hwr hc hv hy hx hu rfl rfl hL) (fun _ τ h => ⟨LC_done h.1, h.2⟩)
  · have z : ∀ i, ¬ un D v (wxr D v x) (wxr D v y) i := fun k hk => z (hcond.mpr (fun j hj hji => ?_))
    · refine ok_ret ⟨LC_same hL (fun c a b => ?_), Fr.refl⟩
      rw [pcn_s, tl_no z]
      rfl
    · have e : k = i := Classical.byContradiction (fun w => c2 (hk.2.2.2 i (by omega) (fun y => w y.symm)).symm)
      exact (hk.2.2.2 j (by omega) (by omega)).symm
/-! the class's links -/
theorem shf_lnk : ∀ o : Nat, o < 2 → (shf (279 + o)).2 = 40 ∧ (shf (282 + o)).2 = 40 ∧ (shf (285 + o)).2 = 40 := by decide +kernel
theorem c_linkByClauses (hw : DWt D) (hwr : DWr D) (hc : CDr D σ) {v : Nat} (hv : σ.2.2 = rIx D v) (hR : CR D v (8 * D 324 2) σ) (hA : ∀ o, o < 2 → Adj σ (279 + o) (fun _ _ => False)) : ok (f_X4_linkByClauses σ) (fun _ τ => (∀ c, c < ncl D v → ∀ a b, a < b → b < 40 → rI τ (266 + c) (pr a b) = nI (pc D v c a b)) ∧ (∀ o, o < 2 → Adj τ (279 + o) (fun a b => lkc D v o (ncl D v) a b)) ∧ Fr wcm σ τ) := by
  have h12 := ncl_le hwr v
  have hN := wN_le hw v
  have h24 := hw.1
  have hrx := rulX_cases (rIx D v)
  have hrl := rIx_le hwr v
  have hcr : ∀ τ, Fr wcm σ τ → CDr D τ := fun τ hF => CDr_eq hwr rfl rfl rfl rfl rfl rfl rfl (hF.I _ _ (by omega)) (hF.I _ _ (by omega)) (fun k j h1 h2 i => hF.I _ _ (by omega)) hc
  have hR' : ∀ τ, Fr wcm σ τ → CR D v (8 * D 324 2) τ := fun τ hF => ⟨(hF.I _ _ (by omega)).trans hR.1, fun k hk => ⟨by rw [hF.L 287 k (by omega)]; exact (hR.2 k hk).1, (hF.I _ _ (by omega)).trans (hR.2 k hk).2⟩⟩
  have A34 : ∀ τ, Fr wcm σ τ → LC D v 0 0 0 τ → ok (f_X4_linkByClauses_34 Fu 0 τ) (fun _ τ => (∀ c, c < ncl D v → ∀ a b, a < b → b < 40 → rI τ (266 + c) (pr a b) = nI (pc D v c a b)) ∧ (∀ o, o < 2 → Adj τ (279 + o) (fun a b => lkc D v o (ncl D v) a b)) ∧ Fr wcm σ τ) := by
    intro τ hF hL
    refine L_X4_linkByClauses_34 (wN D v) (fun y l1 τ => l1 = nI y ∧ LC D v 0 y 0 τ ∧ Fr wcm σ τ) (by omega) (fun y q l1 τ hk hI hq => ?_) (Nat.zero_le _) ⟨rfl, hL, hF⟩
    obtain ⟨rfl, hL, hF⟩ := hI
    unfold s_X4_linkByClauses_34
    rw [(hR' τ hF).1]
    show ok (if nI (wN D v) ≤ nI y then _ else _) _
    simp (disch := omega) only [nI_le2]
    by_cases cy : y < wN D v
    · rw [if_neg (by omega)]
      refine L_X4_linkByClauses_44 y (fun x l2 τ => l2 = nI x ∧ LC D v 0 y x τ ∧ Fr wcm σ τ) (by omega) (fun x q2 l2 τ hk2 hI2 hq2 => ?_) (Nat.zero_le _) ⟨rfl, hL, hF⟩
      obtain ⟨rfl, hL, hF⟩ := hI2
      have hRt := hR' τ hF
      unfold s_X4_linkByClauses_44 f_X4_linkByClauses_86
      simp (disch := omega) only [nI_le2, nI_ix]
      by_cases cx : x < y
      · obtain ⟨ka1, ka2⟩ := hRt.2 y cy
        obtain ⟨kb1, kb2⟩ := hRt.2 x (by unfold wN at cy; omega)
        obtain ⟨a1, a2, a3, a4, a5⟩ := wxr_dw hw (v := v) (k := x) (Nat.le_refl _) (show x < wct D v (8 * D 324 2) by unfold wN at cy; omega)
        obtain ⟨b1, b2, b3, b4, b5⟩ := wxr_dw hw (v := v) (k := y) (Nat.le_refl _) cy
        rw [if_neg (by omega), gd_n (by omega) (by omega), gd_n (by omega) (by omega), ka2, kb2, ite_iff (nI_eq2 (by omega) (by omega))]
        refine ok_ite (fun z => ?_) (fun z => ?_)
        · simp (disch := omega) only [gd_n]
          refine ok_bd (c_compare hw hwr (hcr τ hF) ((hF.2.2 (by omega)).trans hv) cy cx z.symm ka1 kb1 hL) (fun _ τ' h' => ?_)
          exact hq2 (x + 1) _ _ (by omega) (by omega) ⟨nI_1 x, h'.1, hF.trans h'.2⟩
        · refine hq2 (x + 1) _ _ (by omega) (by omega) ⟨nI_1 x, LC_same hL (fun c a b => ?_), hF⟩
          rw [pcn_s, tl_no (fun i hi => z hi.1.symm)]
          rfl
      · rw [if_pos (by omega)]
        have e : x = y := by omega
        subst e
        refine hq (x + 1) _ _ (by omega) (by omega) ⟨nI_1 x, LC_same hL (fun c a b => ?_), hF⟩
        unfold pcn
        rw [sm_s, cnt_0, Nat.add_zero]
    · rw [if_pos (by omega)]
      have e : y = wN D v := by omega
      subst e
      have ep : ∀ c a b, pq D v 0 (wN D v) 0 c a b = pc D v c a b := fun c a b => by
        unfold pq pcn
        rw [if_neg (by omega), cnt_0, Nat.add_zero]
        rfl
      refine ok_ret ⟨fun c hc a b h1 h2 => (hL.1 c hc a b h1 h2).trans (by rw [ep]), fun o ho => Adj_iff (hL.2 o ho) (fun a b => ⟨fun ⟨c, y1, y2, y3⟩ => ⟨c, y1, y2, by rw [← ep]; exact y3⟩, fun ⟨c, y1, y2, y3⟩ => ⟨c, y1, y2, by rw [ep]; exact y3⟩⟩), hF⟩
  unfold f_X4_linkByClauses
  refine L_X4_linkByClauses_2 (ncl D v) (fun c l1 τ => l1 = nI c ∧ (∀ c', c' < c → ∀ j, j < 780 → rI τ (266 + c') j = 0) ∧ Fr (fun k _ => 266 ≤ k ∧ k ≤ 277) σ τ) (by omega) (fun c q l1 τ hk hI hq => ?_) (Nat.zero_le _) ⟨rfl, fun c' hc' => by omega, Fr.refl⟩
  obtain ⟨rfl, h0, hF⟩ := hI
  have hFw : Fr wcm σ τ := hF.mono (fun k j z => Or.inl z)
  unfold s_X4_linkByClauses_2
  rw [show τ.2.2 = rIx D v from (hF.2.2 (by omega)).trans hv, c_ncl hwr (hcr τ hFw) v]
  simp (disch := omega) only [nI_le2]
  by_cases cc : c < ncl D v
  · rw [if_neg (by omega), gd_n (by omega) (by omega), nI_ix (by omega)]
    refine ok_bd (e_fillI (266 + c) 0 τ (by rw [shf_tel c (by omega)]; omega)) (fun _ τ' h' => ?_)
    rw [shf_tel c (by omega)] at h'
    refine hq (c + 1) _ _ (by omega) (by omega) ⟨nI_1 c, fun c' hc' j hj => ?_, hF.trans (h'.2.mono (fun k j e => by omega))⟩
    by_cases e : c' = c
    · subst e; exact h'.1 j hj
    · rw [h'.2.I _ _ (by omega)]; exact h0 c' (by omega) j hj
  · rw [if_pos (by omega)]
    have ep : ∀ c a b, pq D v 0 0 0 c a b = 0 := fun c a b => rfl
    refine A34 τ hFw ⟨fun c' hc' a b h1 h2 => ?_, fun o ho => Adj_iff (Adj_fr (hA o ho) (fun j => hF.L _ _ (by omega))) (fun a b => ⟨fun z => z.elim, fun ⟨c', y1, y2, y3⟩ => ?_⟩)⟩
    · rw [h0 c' (by omega) _ (pr_lt (by omega) h2 (by omega)), ep]; rfl
    · rw [ep] at y3
      have := ((cl_dw hwr y1).2.1 (by omega)).2.2.2.1
      omega
theorem c_linkByShares (hws : DWs D) (hcs : CDs D σ) {v : Nat} (hv : v ≤ 100000) (h10 : rI σ 3 10 = nI v) (h18 : ∀ s, s < 40 → rI σ 18 s = nI (std D v s)) {L : Nat → Nat → Nat → Prop} (hL : ∀ o, o < 2 → Adj σ (279 + o) (L o)) (hP : ∀ o, o < 2 → Adj σ (282 + o) (fun _ _ => False)) : ok (f_X4_linkByShares σ) (fun _ τ => (∀ o, o < 2 → Adj τ (279 + o) (fun a b => L o a b ∨ shp D v o 1 (D 324 32) a b)) ∧ (∀ o, o < 2 → Adj τ (282 + o) (fun a b => shp D v o 0 (D 324 32) a b)) ∧ Fr (fun k _ => k = 279 ∨ k = 280 ∨ k = 282 ∨ k = 283) σ τ) := by
  have h60 := hws.1
  unfold f_X4_linkByShares
  refine L_X4_linkByShares_2 (D 324 32) (fun k l1 τ => l1 = nI k ∧ (∀ o, o < 2 → Adj τ (279 + o) (fun a b => L o a b ∨ shp D v o 1 k a b)) ∧ (∀ o, o < 2 → Adj τ (282 + o) (fun a b => shp D v o 0 k a b)) ∧ Fr (fun k _ => k = 279 ∨ k = 280 ∨ k = 282 ∨ k = 283) σ τ) (by omega) (fun k q l1 τ hk hI hq => ?_) (Nat.zero_le _) ⟨rfl, fun o ho => Adj_iff (hL o ho) (fun a b => ⟨Or.inl, fun z => z.resolve_right (fun ⟨k', hk', _⟩ => by omega)⟩), fun o ho => Adj_iff (hP o ho) (fun a b => ⟨fun z => z.elim, fun ⟨k', hk', _⟩ => by omega⟩), Fr.refl⟩
  obtain ⟨rfl, hA, hB, hF⟩ := hI
  unfold s_X4_linkByShares_2 f_X4_linkByShares_98 f_X4_linkByShares_104
  rw [hF.I 3 6 (by omega), hcs.1]
  simp (disch := omega) only [nI_le2, nI_ix]
  by_cases ck : k < D 324 32
  · obtain ⟨g1, g2, g3, g4, g5, g6, g7⟩ := hws.2 k ck
    obtain ⟨x1, x2, x3, x4, x5, x6⟩ := hcs.2.1 k ck
    have hsx : shaX k = 190 + k := rfl
    have s1 := std_lt (D := D) v g2
    have s2 := std_lt (D := D) v g3
    have up : ∀ x a b o, shp D v o x (k + 1) a b ↔ (shp D v o x k a b ∨ (sC D v k ∧ D 347 k = x ∧ D 344 k = o ∧ std D v (D 345 k) ≠ std D v (D 346 k) ∧ ab2 (std D v (D 345 k)) (std D v (D 346 k)) a b)) := by
      intro x a b o
      refine ⟨fun ⟨k', y1, y2⟩ => ?_, fun z => ?_⟩
      · rcases Nat.lt_or_ge k' k with w | w
        · exact Or.inl ⟨k', w, y2⟩
        · have : k' = k := by omega
          subst this
          exact Or.inr y2
      · rcases z with ⟨k', y1, y2⟩ | z
        · exact ⟨k', by omega, y2⟩
        · exact ⟨k, by omega, z⟩
    have go : (∀ x a b o, shp D v o x (k + 1) a b ↔ shp D v o x k a b) → ok (q (nI k + 1) τ) (fun _ τ => (∀ o, o < 2 → Adj τ (279 + o) (fun a b => L o a b ∨ shp D v o 1 (D 324 32) a b)) ∧ (∀ o, o < 2 → Adj τ (282 + o) (fun a b => shp D v o 0 (D 324 32) a b)) ∧ Fr (fun k _ => k = 279 ∨ k = 280 ∨ k = 282 ∨ k = 283) σ τ) := fun hz => hq (k + 1) _ _ (by omega) (by omega) ⟨nI_1 k, fun o ho => Adj_iff (hA o ho) (fun a b => or_congr Iff.rfl (hz 1 a b o).symm), fun o ho => Adj_iff (hB o ho) (fun a b => (hz 0 a b o).symm), hF⟩
    have hcs' : CDs D τ := CDs_eq hws rfl rfl rfl rfl rfl rfl rfl (hF.I _ _ (by omega)) (fun k j a b => hF.I _ _ (by omega)) hcs
    rw [if_neg (by omega), gd_n (by omega) (by omega), hF.I (shaX k) 3 (by omega), hF.I (shaX k) 4 (by omega), x2, x3]
    simp (disch := omega) only [gd_n, nI_ix]
    rw [hF.I 18 _ (by omega), hF.I 18 _ (by omega), h18 _ g2, h18 _ g3, ite_iff (nI_eq2 (by omega) (by omega)), hF.I 3 10 (by omega), h10, e_sC hws hcs' ck hv, bd_some, ite_bI]
    refine ok_ite (fun z => go (fun x a b o => (up x a b o).trans ⟨fun y => y.resolve_right (fun w => w.2.2.2.1 z), Or.inl⟩)) (fun z => ?_)
    refine ok_ite (fun z2 => ?_) (fun z2 => go (fun x a b o => (up x a b o).trans ⟨fun y => y.resolve_right (fun w => z2 w.1), Or.inl⟩))
    rw [hF.I (shaX k) 5 (by omega), x4, hF.I (shaX k) 2 (by omega), x1, ite_iff (eq0_n (by omega)), gd_n g1 (by omega)]
    simp (disch := omega) only [nI_ix]
    refine ok_ite (fun z3 => ?_) (fun z3 => ?_)
    · refine ok_bd (e_join (hB _ g1) s1 s2) (fun _ τ' h' => ?_)
      refine hq (k + 1) _ _ (by omega) (by omega) ⟨nI_1 k, fun o ho => Adj_iff (Adj_fr (hA o ho) (fun j => h'.2.L _ _ (by omega))) (fun a b => or_congr Iff.rfl ((up 1 a b o).trans ⟨fun y => y.resolve_right (fun w => by omega), Or.inl⟩).symm), fun o ho => ?_, hF.trans (h'.2.mono (fun k j e => by omega))⟩
      by_cases e : o = D 344 k
      · subst e
        refine Adj_iff h'.1 (fun a b => ⟨fun y => (up 0 a b _).mpr ?_, fun y => ?_⟩)
        · rcases y with y | ⟨rfl, rfl⟩ | ⟨rfl, rfl⟩
          · exact Or.inl y
          · exact Or.inr ⟨z2, z3, rfl, z, Or.inl ⟨rfl, rfl⟩⟩
          · exact Or.inr ⟨z2, z3, rfl, z, Or.inr ⟨rfl, rfl⟩⟩
        · rcases (up 0 a b _).mp y with y | ⟨-, -, -, -, y⟩
          · exact Or.inl y
          · rcases y with ⟨rfl, rfl⟩ | ⟨rfl, rfl⟩
            · exact Or.inr (Or.inl ⟨rfl, rfl⟩)
            · exact Or.inr (Or.inr ⟨rfl, rfl⟩)
      · exact Adj_iff (Adj_fr (hB o ho) (fun j => h'.2.L _ _ (by omega))) (fun a b => ((up 0 a b o).trans ⟨fun y => y.resolve_right (fun w => e w.2.2.1.symm), Or.inl⟩).symm)
    · rw [gd_n g1 (by omega)]
      refine ok_bd (e_join (hA _ g1) s1 s2) (fun _ τ' h' => ?_)
      refine hq (k + 1) _ _ (by omega) (by omega) ⟨nI_1 k, fun o ho => ?_, fun o ho => Adj_iff (Adj_fr (hB o ho) (fun j => h'.2.L _ _ (by omega))) (fun a b => ((up 0 a b o).trans ⟨fun y => y.resolve_right (fun w => z3 w.2.1), Or.inl⟩).symm), hF.trans (h'.2.mono (fun k j e => by omega))⟩
      by_cases e : o = D 344 k
      · subst e
        refine Adj_iff h'.1 (fun a b => ⟨fun y => ?_, fun y => ?_⟩)
        · rcases y with (y | y) | ⟨rfl, rfl⟩ | ⟨rfl, rfl⟩
          · exact Or.inl y
          · exact Or.inr ((up 1 a b _).mpr (Or.inl y))
          · exact Or.inr ((up 1 _ _ _).mpr (Or.inr ⟨z2, by omega, rfl, z, Or.inl ⟨rfl, rfl⟩⟩))
          · exact Or.inr ((up 1 _ _ _).mpr (Or.inr ⟨z2, by omega, rfl, z, Or.inr ⟨rfl, rfl⟩⟩))
        · rcases y with y | y
          · exact Or.inl (Or.inl y)
          · rcases (up 1 a b _).mp y with y | ⟨-, -, -, -, y⟩
            · exact Or.inl (Or.inr y)
            · rcases y with ⟨rfl, rfl⟩ | ⟨rfl, rfl⟩
              · exact Or.inr (Or.inl ⟨rfl, rfl⟩)
              · exact Or.inr (Or.inr ⟨rfl, rfl⟩)
      · exact Adj_iff (Adj_fr (hA o ho) (fun j => h'.2.L _ _ (by omega))) (fun a b => or_congr Iff.rfl ((up 1 a b o).trans ⟨fun y => y.resolve_right (fun w => e w.2.2.1.symm), Or.inl⟩).symm)
  · rw [if_pos (by omega)]
    have e : k = D 324 32 := by omega
    subst e
    exact ok_ret ⟨hA, hB, hF⟩
end GRID
