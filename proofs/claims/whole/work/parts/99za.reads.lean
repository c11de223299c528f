/-! reads -/
section RDS
variable {D : dD} {σ : jM} {v : Nat} {C B P : dD → Nat → jM → Prop}
def vl (x : Nat) : Nat := if x = 0 then 97 else if x = 1 then 101 else if x = 2 then 105 else if x = 3 then 111 else 117
/-- what is written for a cell -/
def wtc (c : Nat) : List Int32 := if c = 135 then [63] else if c < 5 then [nI (vl c)] else [nI (96 + c / 5), nI (vl (c % 5))]
theorem FO_ex (W : List (gF × gF)) (s : Nat) : ∃ c, c ≤ 135 ∧ FO W s (gz c) := by
  by_cases h : ∃ c, c < 135 ∧ lct s c W = W.length ∧ 0 < W.length
  · obtain ⟨c, h1, h2, h3⟩ := h
    exact ⟨c, by omega, Or.inl ⟨c, h1, h2, h3, gz_n (by omega)⟩⟩
  · exact ⟨135, by omega, Or.inr ⟨rfl, fun c hc z => h ⟨c, hc, z⟩⟩⟩
noncomputable def fo (W : List (gF × gF)) (s : Nat) : Nat := (FO_ex W s).choose
theorem fo_le (W : List (gF × gF)) (s : Nat) : fo W s ≤ 135 := (FO_ex W s).choose_spec.1
theorem fo_of {W : List (gF × gF)} {s : Nat} {r : Int32} (h : FO W s r) : r = gz (fo W s) := FO_uniq h (FO_ex W s).choose_spec.2
noncomputable def plc (D : dD) (v p : Nat) : Nat := if D 329 p = 99 then 135 else fo (WW D v 0) (std D v (D 329 p))
theorem plc_le (D : dD) (v p : Nat) : plc D v p ≤ 135 := by
  unfold plc
  split
  · exact Nat.le_refl _
  · exact fo_le _ _
noncomputable def rdl (D : dD) (v q : Nat) : Nat → List Int32 := Nat.rec [] (fun i L => L ++ wtc (plc D v (q + i)))
theorem rdl_s (D : dD) (v q i : Nat) : rdl D v q (i + 1) = rdl D v q i ++ wtc (plc D v (q + i)) := rfl
theorem wtc_len (c : Nat) : (wtc c).length ≤ 2 := by
  unfold wtc
  split
  · exact Nat.le_succ 1
  · split
    · exact Nat.le_succ 1
    · exact Nat.le_refl _
theorem rdl_len (D : dD) (v q i : Nat) : (rdl D v q i).length ≤ 2 * i := by
  induction i with
  | zero => exact Nat.le_refl _
  | succ i ih =>
    rw [rdl_s, List.length_append]
    have := wtc_len (plc D v (q + i))
    omega
def OU (ck cj k : Nat) (L : List Int32) (σ : jM) : Prop := rI σ ck cj = nI L.length ∧ ∀ j, j < L.length → rI σ k j = L.getD j 0
theorem OU_push {ck cj k : Nat} {L : List Int32} (h : OU ck cj k L σ) (hk : k ≠ ck) (b : Int32) : OU ck cj k (L ++ [b]) (wI (wI σ k L.length b) ck cj (nI L.length + 1)) := by
  refine ⟨by rw [rI_same, List.length_append, nI_1]; rfl, fun j hj => ?_⟩
  rw [List.length_append] at hj
  have hj : j < L.length + 1 := hj
  rw [rI_nk hk, List.getD_eq_getElem?_getD]
  by_cases e : j = L.length
  · subst e
    rw [rI_same, List.getElem?_append_right (Nat.le_refl _), Nat.sub_self]
    rfl
  · rw [rI_nj e, List.getElem?_append_left (by omega), ← List.getD_eq_getElem?_getD]
    exact h.2 j (by omega)
abbrev wou (k j : Nat) : Prop := (k = 0 ∧ j = 7) ∨ k = 1
theorem c_writeByte {b : Int32} {L : List Int32} (h : OU 0 7 1 L σ) (hl : L.length < 12) : f_X12_writeByte b σ = some ((), wI (wI σ 1 L.length b) 0 7 (nI L.length + 1)) := by
  unfold f_X12_writeByte f_X12_writeByte_32
  rw [h.1, o_n, ite_iff (nI_le2 (by omega) (by omega)), if_neg (by omega), gd_n hl (by omega), nI_ix (by omega), rI_nk (show 0 ≠ 1 by omega), h.1]
theorem str9 {x : Nat} (h : x < 5) : strAt 9 (nI x) = nI (vl x) := by
  rcases (by omega : x = 0 ∨ x = 1 ∨ x = 2 ∨ x = 3 ∨ x = 4) with rfl | rfl | rfl | rfl | rfl <;> decide +kernel
theorem c_writeCell {c : Nat} {L : List Int32} (hc : c ≤ 135) (h : OU 0 7 1 L σ) (hl : L.length ≤ 10) : ok (f_X12_writeCell (gz c) σ) (fun _ τ => OU 0 7 1 (L ++ wtc c) τ ∧ Fr wou σ τ) := by
  have h9 : jslen.getD 9 0 = 5 := by decide +kernel
  have tail : ∀ {L' : List Int32} {τ : jM}, c ≠ 135 → OU 0 7 1 L' τ → L'.length ≤ 11 → Fr wou σ τ → L' ++ [nI (vl (c % 5))] = L ++ wtc c → ok (f_X12_writeCell_30 (nI c) τ) (fun _ τ => OU 0 7 1 (L ++ wtc c) τ ∧ Fr wou σ τ) := by
    intro L' τ h5 hO hl' hF he
    unfold f_X12_writeCell_30
    rw [h9, li5]
    simp (disch := omega) only [div_n, rem_n]
    rw [gd_n (by omega) (by omega), str9 (by omega), c_writeByte hO (by omega), bd_some, ← he]
    exact ok_ret ⟨OU_push hO (by omega) _, Fr.w (Fr.w hF (by omega)) (by omega)⟩
  unfold f_X12_writeCell
  by_cases c5 : c = 135
  · subst c5
    rw [gz_0, if_pos rfl, c_writeByte h (by omega), bd_some]
    exact ok_ret ⟨OU_push h (by omega) _, Fr.w (Fr.w Fr.refl (by omega)) (by omega)⟩
  · rw [gz_n c5, if_neg (fun z => (nI_m1 (by omega)).mp z), li5, div_n (by omega) (by omega) (by omega), ite_iff (le0_n (by omega))]
    refine ok_ite (fun z => ?_) (fun z => ?_)
    · refine tail c5 h (by omega) Fr.refl ?_
      unfold wtc
      rw [if_neg c5, if_pos (by omega), Nat.mod_eq_of_lt (by omega)]
    · rw [show (97 : Int32) = nI 97 from rfl, nI_add, sub1_n (by omega), c_writeByte h (by omega), bd_some]
      refine tail c5 (OU_push h (by omega) _) (by rw [List.length_append]; show _ + 1 ≤ _; omega) (Fr.w (Fr.w Fr.refl (by omega)) (by omega)) ?_
      unfold wtc
      rw [if_neg c5, if_neg (by omega), List.append_assoc, show 97 + c / 5 - 1 = 96 + c / 5 by omega]
      rfl
theorem c_reads48 (hw : DW D) (hc : CDt D σ) (hW : WK D v σ) (h18 : ∀ s, s < 40 → rI σ 18 s = nI (std D v s)) {t w : Nat} (ht : t < D 324 2) (hwt : w < D 327 t) (h0 : rI σ 0 7 = 0) : ok (f_X12_reads_48 Fu (nI w) t 0 σ) (fun r τ => r = nI (rdl D v (6 * (8 * t + w)) (D 328 (8 * t + w))).length ∧ OU 0 7 1 (rdl D v (6 * (8 * t + w)) (D 328 (8 * t + w))) τ ∧ Fr wou σ τ) := by
  obtain ⟨b1, b2, b3, b4, b5⟩ := hw.1.2.1 t ht
  obtain ⟨b6, b7⟩ := b5 w hwt
  obtain ⟨c1, c2, c3, c4⟩ := hc.2.1 t ht
  obtain ⟨c5, c6⟩ := c4 w hwt
  have hT := hw.1.1
  have hx : 28 ≤ tabX t ∧ tabX t + 2 ≤ 99 := by unfold tabX; omega
  generalize hq : 6 * (8 * t + w) = q at *
  generalize hz : D 328 (8 * t + w) = z at *
  refine L_X12_reads_48 z (fun i l5 τ => l5 = nI i ∧ OU 0 7 1 (rdl D v q i) τ ∧ Fr wou σ τ) (by omega) (fun i p l5 τ hk hI hp => ?_) (Nat.zero_le _) ⟨rfl, ⟨h0, fun j hj => absurd hj (Nat.not_lt_zero _)⟩, Fr.refl⟩
  obtain ⟨rfl, hO, hF⟩ := hI
  unfold s_X12_reads_48 f_X12_reads_98
  have e1 : rI τ (tabX t + 1) w = nI z := (hF.I _ _ (by omega)).trans c5
  rw [gd_n (by omega) (by omega)]
  simp (disch := omega) only [nI_ix]
  rw [e1, ite_iff (nI_le2 (by omega) (by omega))]
  by_cases ci : i < z
  · have hx2 := rdl_len D v q i
    have e2 : rI τ (tabX t + 2) (6 * w + i) = pz (D 329 (q + i)) := (hF.I _ _ (by omega)).trans (c6 i ci)
    have e3 := hw.1.2.2 (q + i) (by omega)
    have go : ok (bd (f_X12_writeCell (gz (plc D v (q + i))) τ) (fun _ σ5 => p (nI w) t (nI i + 1) σ5)) (fun r τ => r = nI (rdl D v q z).length ∧ OU 0 7 1 (rdl D v q z) τ ∧ Fr wou σ τ) := by
      refine ok_bd (c_writeCell (plc_le _ _ _) hO (by omega)) (fun _ τ1 u => ?_)
      exact hp (i + 1) _ _ (by omega) (by omega) ⟨nI_1 i, by rw [rdl_s]; exact u.1, hF.trans u.2⟩
    rw [if_neg (by omega), e_signAt (by omega), bd_some, e2, ite_iff (pz_m1 (by omega))]
    refine ok_ite (fun y => ?_) (fun y => ?_)
    · have e4 : plc D v (q + i) = 135 := if_pos y
      rw [e4] at go
      exact go
    · have e4 : plc D v (q + i) = fo (WW D v 0) (std D v (D 329 (q + i))) := if_neg y
      rw [e4] at go
      rw [pz_n y, gd_n (by omega) (by omega)]
      simp (disch := omega) only [nI_ix]
      rw [show rI τ 18 (D 329 (q + i)) = nI (std D v (D 329 (q + i))) from (hF.I _ _ (by omega)).trans (h18 _ (by omega))]
      refine ok_bd (c_forcedCell hw (WK_St _ _ _ _ (fun k j hr => ⟨hF.I _ _ (by omega), hF.L _ _ (by omega)⟩) hW) (std_lt v (by omega))) (fun r τ2 u => ?_)
      obtain ⟨u1, rfl⟩ := u
      rw [fo_of u1]
      exact go
  · have e : i = z := by omega
    subst e
    rw [if_pos (by omega)]
    exact ok_ret ⟨hO.1, hO, hF⟩
abbrev wom (k j : Nat) : Prop := (k = 324 ∧ j = 75) ∨ k = 374
theorem m_vowelLetter {x : Nat} (h : x < 5) : f_X13_vowelLetter (nI x) σ = some (nI (vl x), σ) := by
  unfold f_X13_vowelLetter f_X13_vowelLetter_41
  rcases (by omega : x = 0 ∨ x = 1 ∨ x = 2 ∨ x = 3 ∨ x = 4) with rfl | rfl | rfl | rfl | rfl <;> rfl
theorem m_reads66 (hw : DW D) (hM : MD D σ) (hJ : J0 (WW D v 0) σ) (h43 : ∀ s, s < 40 → rI σ 343 s = nI (std D v s)) {t w : Nat} (ht : t < D 324 2) (hwt : w < D 327 t) (h0 : rI σ 324 75 = 0) : ok (f_X13_reads_66 Fu (nI (8 * t + w)) 0 σ) (fun r τ => r = nI (rdl D v (6 * (8 * t + w)) (D 328 (8 * t + w))).length ∧ OU 324 75 374 (rdl D v (6 * (8 * t + w)) (D 328 (8 * t + w))) τ ∧ Fr wom σ τ) := by
  obtain ⟨b1, b2, b3, b4, b5⟩ := hw.1.2.1 t ht
  obtain ⟨b6, b7⟩ := b5 w hwt
  have hT := hw.1.1
  have hlen := WW_len hw (v := v) 0
  have c5 : rI σ 328 (8 * t + w) = nI (D 328 (8 * t + w)) := hM.r (by omega) (by omega)
  have c6 : ∀ i, i < 6 → rI σ 329 (6 * (8 * t + w) + i) = pz (D 329 (6 * (8 * t + w) + i)) := fun i hi => (hM.2 _ (by omega)).1
  generalize hy : 8 * t + w = y at *
  generalize hz : D 328 y = z at *
  refine L_X13_reads_66 z (fun i l5 τ => l5 = nI i ∧ OU 324 75 374 (rdl D v (6 * y) i) τ ∧ Fr wom σ τ) (by omega) (fun i p l5 τ hk hI hp => ?_) (Nat.zero_le _) ⟨rfl, ⟨h0, fun j hj => absurd hj (Nat.not_lt_zero _)⟩, Fr.refl⟩
  obtain ⟨rfl, hO, hF⟩ := hI
  unfold s_X13_reads_66
  have e1 : rI τ 328 y = nI z := (hF.I _ _ (by omega)).trans c5
  rw [gd_n (by omega) (by omega), li6, pk_mul, nI_add]
  simp (disch := omega) only [nI_ix]
  rw [e1, ite_iff (nI_le2 (by omega) (by omega))]
  by_cases ci : i < z
  · have hx2 := rdl_len D v (6 * y) i
    have e2 : rI τ 329 (6 * y + i) = pz (D 329 (6 * y + i)) := (hF.I _ _ (by omega)).trans (c6 i (by omega))
    have e3 := hw.1.2.2 (6 * y + i) (by omega)
    have go : ok (f_X13_reads_114 p (nI y) (nI i) (gz (plc D v (6 * y + i))) τ) (fun r τ => r = nI (rdl D v (6 * y) z).length ∧ OU 324 75 374 (rdl D v (6 * y) z) τ ∧ Fr wom σ τ) := by
      have hpl := plc_le D v (6 * y + i)
      have hs := rdl_s D v (6 * y) i
      generalize plc D v (6 * y + i) = c at *
      unfold f_X13_reads_114 f_X13_reads_150 f_X13_reads_176
      have fin : ∀ {L : List Int32} {τ1 : jM} {b : Int32}, OU 324 75 374 L τ1 → L.length ≤ 11 → Fr wom σ τ1 → L ++ [b] = rdl D v (6 * y) (i + 1) → ok (gd (inb (rI τ1 324 75) 12) (p (nI y) (nI i + 1) (wI (wI τ1 374 (Int32.toNatClampNeg (rI τ1 324 75)) b) 324 75 (rI (wI τ1 374 (Int32.toNatClampNeg (rI τ1 324 75)) b) 324 75 + 1)))) (fun r τ => r = nI (rdl D v (6 * y) z).length ∧ OU 324 75 374 (rdl D v (6 * y) z) τ ∧ Fr wom σ τ) := by
        intro L τ1 b hO1 hl1 hF1 he
        rw [rI_nk (show 324 ≠ 374 by omega), hO1.1, gd_n (by omega) (by omega), nI_ix (by omega)]
        exact hp (i + 1) _ _ (by omega) (by omega) ⟨nI_1 i, by rw [← he]; exact OU_push hO1 (by omega) _, Fr.w (Fr.w hF1 (by omega)) (by omega)⟩
      by_cases c5 : c = 135
      · subst c5
        rw [gz_0, if_pos (by decide), if_pos rfl]
        exact fin hO (by omega) hF hs.symm
      · rw [gz_n c5, li5, ite_iff (nI_lt2 (by omega) (by omega)), ite_iff (nI_m1 (by omega))]
        simp (disch := omega) only [div_n, rem_n]
        rw [if_neg (fun z => z)]
        refine ok_ite (fun c4 => ?_) (fun c4 => ?_)
        · rw [m_vowelLetter (by omega), bd_some]
          refine fin hO (by omega) hF ?_
          rw [hs]
          unfold wtc
          rw [if_neg c5, if_pos c4, Nat.mod_eq_of_lt c4]
        · rw [show (97 : Int32) = nI 97 from rfl, nI_add, sub1_n (by omega)]
          have hO2 := OU_push hO (show 374 ≠ 324 by omega) (nI (97 + c / 5 - 1))
          rw [rI_nk (show 324 ≠ 374 by omega), hO.1, gd_n (by omega) (by omega), nI_ix (by omega), if_neg (show ¬ nI c = -1 from fun z => (nI_m1 (by omega)).mp z), m_vowelLetter (by omega), bd_some]
          refine fin hO2 (by rw [List.length_append]; show _ + 1 ≤ _; omega) (Fr.w (Fr.w hF (by omega)) (by omega)) ?_
          rw [hs]
          unfold wtc
          rw [if_neg c5, if_neg c4, List.append_assoc, show 97 + c / 5 - 1 = 96 + c / 5 by omega]
          rfl
    rw [if_neg (by omega), gd_n (by omega) (by omega), e2, ite_iff (pz_m1 (by omega))]
    refine ok_ite (fun y' => ?_) (fun y' => ?_)
    · have e4 : plc D v (6 * y + i) = 135 := if_pos y'
      rw [e4] at go
      exact go
    · have e4 : plc D v (6 * y + i) = fo (WW D v 0) (std D v (D 329 (6 * y + i))) := if_neg y'
      rw [e4] at go
      rw [pz_n y', gd_n (by omega) (by omega)]
      simp (disch := omega) only [nI_ix]
      rw [show rI τ 343 (D 329 (6 * y + i)) = nI (std D v (D 329 (6 * y + i))) from (hF.I _ _ (by omega)).trans (h43 _ (by omega))]
      refine ok_bd (m_forcedOf hlen ⟨(hF.I _ _ (by omega)).trans hJ.1, fun s hs c hc => (hF.I _ _ (by omega)).trans (hJ.2 s hs c hc)⟩ (std_lt v (by omega))) (fun r τ2 u => ?_)
      obtain ⟨u1, rfl⟩ := u
      rw [fo_of u1]
      exact go
  · have e : i = z := by omega
    subst e
    rw [if_pos (by omega)]
    exact ok_ret ⟨hO.1, hO, hF⟩
abbrev wrd (k j : Nat) : Prop := scr k j ∨ wou k j ∨ wom k j
theorem Inv_out {K : dD → Nat → jM → Prop} (hK : KX K) {σ τ : jM} (h : Inv K σ) (hF : Fr wrd σ τ) (hO : ∃ n, n ≤ 12 ∧ rI τ 324 75 = nI n ∧ rI τ 0 7 = nI n ∧ ∀ j, j < n → rI τ 1 j = rI τ 374 j) : Inv K τ := by
  have no : ∀ k j, (2 ≤ k ∧ k < 324) ∨ k = 336 ∨ (k = 0 ∧ j ≠ 7) ∨ (k = 324 ∧ (j = 1 ∨ j = 16 ∨ j = 23)) → ¬ wrd k j := fun k j hk z => by
    rcases z with z | z | z
    · have := scr_ge z; omega
    · omega
    · omega
  have pe : ∀ k j, pex k j → ¬ wrd k j := fun k j hp z => by
    have := pex_ge hp
    rcases z with z | z | z
    · exact scr_pex hp z
    · omega
    · omega
  have ce : ∀ k j, cdc k j → ¬ wrd k j := fun k j hp => no k j (Or.inl (by
    rcases hp with hp | hp | hp | hp | hp | hp | hp <;> omega))
  refine Inv_keep hK h (fun k j hp => hF.I k j (hp.elim (pe k j) (ce k j))) (fun k j a b => ⟨hF.I _ _ (no _ _ (by omega)), hF.L _ _ (no _ _ (by omega))⟩) (fun j => hF.I _ _ (no _ _ (by omega))) (hF.2.2 (no _ _ (by omega))) (hF.I _ _ (no _ _ (by omega))) ?_ (Int32.le_of_eq (hF.I _ _ (no _ _ (by omega))).symm)
  obtain ⟨⟨d, a1, a2, a3⟩, ⟨n, b1, b2, b3, b4⟩, c1, -⟩ := h.2.2.2.1
  refine ⟨⟨d, a1, (hF.I _ _ (no _ _ (by omega))).trans a2, (hF.I _ _ (no _ _ (by omega))).trans a3⟩, ⟨n, b1, (hF.I _ _ (no _ _ (by omega))).trans b2, (hF.I _ _ (no _ _ (by omega))).trans b3, fun j hj => ?_⟩, ?_, hO⟩
  · rw [hF.I 263 j (no _ _ (by omega)), hF.I 336 j (no _ _ (by omega))]
    exact b4 j hj
  · rw [hF.I 262 3 (no _ _ (by omega)), hF.I 324 23 (no _ _ (by omega))]
    exact c1
theorem op_reads (h : Inv (KK GK C WK B P) σ) (hS : SK GK C WK B P) (a1 a2 a3 a4 a5 : Int32) : ∃ σ', lw_op 24 a1 a2 a3 a4 a5 σ σ' ∧ Inv (KK GK C WK B P) σ' := by
  have hK := KK_KX hS
  show ∃ σ', (∃ (r : Int32) (σ1 : jM), f_X12_reads a1 a2 a3 σ = some (r, σ1) ∧ f_X13_reads a1 a2 a3 σ1 = some (r, σ')) ∧ Inv (KK GK C WK B P) σ'
  refine op_mk (Q := fun r τ => ∃ τ0, Inv (KK GK C WK B P) τ0 ∧ dm τ0 = dm σ ∧ rI τ0 3 0 = rI σ 3 0 ∧ ((∃ v t w, v ≤ 100000 ∧ a1 = nI v ∧ kn σ a1 ∧ t < dm σ 324 2 ∧ w < dm σ 327 t ∧ a2 = nI t ∧ a3 = nI w ∧ Fr wou τ0 τ ∧ OU 0 7 1 (rdl (dm σ) v (6 * (8 * t + w)) (dm σ 328 (8 * t + w))) τ ∧ r = nI (rdl (dm σ) v (6 * (8 * t + w)) (dm σ 328 (8 * t + w))).length) ∨ (r = -1 ∧ τ = τ0 ∧ ¬ (kn σ a1 ∧ ∃ t w, t < dm σ 324 2 ∧ w < dm σ 327 t ∧ a2 = nI t ∧ a3 = nI w)))) ?_ ?_
  · unfold f_X12_reads f_X12_reads_20
    obtain ⟨c, hdc, e1, e2⟩ := e_hasWord h a2 a3
    rw [e1, bd_some, ite_bI]
    refine ok_ite (fun c1 => ?_) (fun c1 => ok_ret ⟨σ, h, rfl, rfl, Or.inr ⟨rfl, rfl, fun z => c1 (e2.mpr z.2)⟩⟩)
    refine ok_bd (c_seeGrid hS h a1) (fun r τ hh => ?_)
    obtain ⟨rfl, h1, h2, h3, h4⟩ := hh
    have e30 : rI τ 3 0 = rI σ 3 0 := h3.I _ _ (fun z => by have := ccr_ge z; omega)
    rw [ite_bI]
    refine ok_ite (fun c3 => ?_) (fun c3 => ok_ret ⟨τ, h1, h2, e30, Or.inr ⟨rfl, rfl, fun z => c3 z.1⟩⟩)
    obtain ⟨v, rfl, hV, hG⟩ := h4 c3
    refine ok_bd (c_countWays hS hV hG) (fun _ τ1 t => ?_)
    obtain ⟨t1, t2, t3, t4⟩ := t
    rw [h2] at t4
    obtain ⟨t, w, ht, hwt, rfl, rfl⟩ := e2.mp c1
    have hT := h.2.1.1.1
    have hD1 : dm τ1 = dm σ := t2.trans h2
    rw [gd_n (by omega) (by omega), nI_ix (by omega)]
    have hF0 : Fr wou τ1 (wI τ1 0 7 0) := Fr.w Fr.refl (by omega)
    have hc1 := t1.1.2.2.1.1
    rw [hD1] at hc1
    refine ok_imp (c_reads48 h.2.1 (CDt_eq h.2.1.1 rfl rfl rfl rfl rfl rfl (hF0.I _ _ (by omega)) (fun k j a b => hF0.I _ _ (by omega)) hc1) (WK_St _ _ _ _ (fun k j hr => ⟨hF0.I _ _ (by omega), hF0.L _ _ (by omega)⟩) t4) (fun s hs => by rw [← hD1]; exact (hF0.I _ _ (by omega)).trans (t1.2.2.2.1.2 s hs)) ht hwt (rI_same _ _ _ _)) (fun r τ2 u => ?_)
    obtain ⟨u1, u2, u3⟩ := u
    exact ⟨τ1, t1.1, hD1, t3.trans e30, Or.inl ⟨v, t, w, hV.2.1, rfl, c3, ht, hwt, rfl, rfl, hF0.trans u3, u2, u1⟩⟩
  · intro r τ hq
    obtain ⟨τ0, hI, hD, e30, hR⟩ := hq
    unfold f_X13_reads f_X13_reads_43
    have hw := hI.2.1
    rw [hD] at hw
    have hT := hw.1.1
    rw [e_isKnown, bd_some, ite_bI]
    rcases hR with ⟨v, t, w, hv, rfl, c3, ht, hwt, rfl, rfl, hF, hO, rfl⟩ | ⟨rfl, rfl, hno⟩
    · have hM : MD (dm σ) (wI τ 324 0 0) := by
        have := MD_of hI.1
        rw [hD] at this
        exact MD_fr this (Fr.w (W := fun k j => wou k j ∨ (k = 324 ∧ j = 0)) (hF.mono (fun k j z => Or.inl z)) (Or.inr ⟨rfl, rfl⟩)) (fun k j hp z => by have := pers_ge hp; omega)
      obtain ⟨b1, b2, b3, b4, b5⟩ := hw.1.2.1 t ht
      have ek : rI (wI τ 324 0 0) 324 1 = rI σ 3 0 := by
        rw [rI_nj (by omega), hF.I _ _ (by omega), td_eq hI]; exact e30
      rw [ek, if_pos c3, e_within, bd_some, ite_bI, hM.r (k := 324) (j := 2) (by omega) (by omega), if_pos ((nI_sub1 (by omega)).mpr ⟨nI_pos' (by omega), (nI_lt2 (by omega) (by omega)).mpr ht⟩), gd_n (by omega) (by omega), e_within, bd_some, ite_bI]
      simp (disch := omega) only [nI_ix]
      rw [hM.r (k := 327) (j := t) (by omega) (by omega), if_pos ((nI_sub1 (by omega)).mpr ⟨nI_pos' (by omega), (nI_lt2 (by omega) (by omega)).mpr hwt⟩)]
      refine ok_bd (m_findAll hw hM hv) (fun _ τ1 t' => ?_)
      obtain ⟨t1, t2, t3, t4⟩ := t'
      have hF1 : Fr scr τ τ1 := thr_scr t4 (fun k j => wfa_scr)
      have hF2 : Fr wom τ1 (wI τ1 324 75 0) := Fr.w Fr.refl (by omega)
      rw [li8, pk_mul, nI_add]
      refine ok_imp (m_reads66 hw (MD_fr t2 hF2 (fun k j hp z => by have := pers_ge hp; omega)) ⟨(hF2.I _ _ (by omega)).trans t1.1, fun s hs c hc => (hF2.I _ _ (by omega)).trans (t1.2 s hs c hc)⟩ (fun s hs => (hF2.I _ _ (by omega)).trans (t3 s hs)) ht hwt (rI_same _ _ _ _)) (fun r τ2 u => ?_)
      obtain ⟨u1, u2, u3⟩ := u
      have hFa : Fr wrd τ0 τ2 := ((hF.mono (V := wrd) (fun k j z => Or.inr (Or.inl z))).trans (hF1.mono (fun k j z => Or.inl z))).trans ((hF2.trans u3).mono (fun k j z => Or.inr (Or.inr z)))
      have hl := rdl_len (dm σ) v (6 * (8 * t + w)) (dm σ 328 (8 * t + w))
      have hb := (b5 w hwt).2
      refine ⟨u1, Inv_out hK hI hFa ⟨_, by omega, u2.1, ?_, fun j hj => ?_⟩⟩
      · rw [(hF2.trans u3).I 0 7 (by omega), hF1.I 0 7 (scr_lo (by omega))]; exact hO.1
      · rw [(hF2.trans u3).I 1 j (by omega), hF1.I 1 j (scr_lo (by omega)), hO.2 j hj, u2.2 j hj]
    · have ek : rI (wI τ 324 0 0) 324 1 = rI σ 3 0 := by
        rw [rI_nj (by omega), td_eq hI]; exact e30
      have hM := MD_thr hI
      rw [hD] at hM
      have fin : ok (some ((-1 : Int32), wI τ 324 0 0)) (fun r' τ' => r' = -1 ∧ Inv (KK GK C WK B P) τ') := ok_ret ⟨rfl, Inv_thr hK hI 0⟩
      rw [ek]
      refine ok_ite (fun c3 => ?_) (fun c3 => fin)
      rw [e_within, bd_some, ite_bI, hM.r (k := 324) (j := 2) (by omega) (by omega), ite_iff (nI_sub1 (by omega))]
      refine ok_ite (fun c1 => ?_) (fun c1 => fin)
      obtain ⟨t, ht, rfl⟩ := i_lt c1.1 c1.2 (by omega)
      obtain ⟨b1, b2, b3, b4, b5⟩ := hw.1.2.1 t ht
      rw [gd_n (by omega) (by omega), e_within, bd_some, ite_bI]
      simp (disch := omega) only [nI_ix]
      rw [hM.r (k := 327) (j := t) (by omega) (by omega), ite_iff (nI_sub1 (by omega)), if_neg (fun z => ?_)]
      · exact fin
      · obtain ⟨w, hwt, rfl⟩ := i_lt z.1 z.2 (by omega)
        exact hno ⟨c3, t, w, ht, hwt, rfl, rfl⟩
end RDS
