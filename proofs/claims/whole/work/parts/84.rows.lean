/-! ROWS THAT CAN BE READ, each once -/
section ROWS
variable {D : dD} {σ : jM}
noncomputable def sg (D : dD) (v r i : Nat) : Nat := std D v (D 329 (6 * r + i))
abbrev full (D : dD) (r : Nat) : Prop := ∀ i, i < D 328 r → D 329 (6 * r + i) ≠ 99
abbrev alk (D : dD) (v q r : Nat) : Prop := D 328 q = D 328 r ∧ ∀ i, i < D 328 q → sg D v q i = sg D v r i
theorem alk_symm {v q r : Nat} (h : alk D v q r) : alk D v r q := ⟨h.1.symm, fun i hi => (h.2 i (by rw [h.1]; exact hi)).symm⟩
theorem alk_trans {v p q r : Nat} (h : alk D v p q) (g : alk D v q r) : alk D v p r := ⟨h.1.trans g.1, fun i hi => (h.2 i hi).trans (g.2 i (by rw [← h.1]; exact hi))⟩
noncomputable def wnew (D : dD) (v r : Nat) : Bool := @decide (rok D v r ∧ full D r ∧ ∀ q, q < r → rok D v q → full D q → ¬ alk D v q r) (Classical.propDecidable _)
theorem wnew_t {v r : Nat} : wnew D v r = true ↔ (rok D v r ∧ full D r ∧ ∀ q, q < r → rok D v q → full D q → ¬ alk D v q r) := by
  unfold wnew
  exact @decide_eq_true_iff _ (Classical.propDecidable _)
noncomputable def wct (D : dD) (v r : Nat) : Nat := cnt (wnew D v) r
noncomputable def wxr (D : dD) (v k : Nat) : Nat := lst (fun r => wnew D v r = true ∧ wct D v r = k)
theorem wxr_of {v r : Nat} (h : wnew D v r = true) : wxr D v (wct D v r) = r := lst_eq ⟨h, rfl⟩ (fun m hm => by rw [cnt_uniq h hm.1 hm.2.symm]; exact Nat.le_refl _)
theorem wxr_at {v k r : Nat} (h : k < wct D v r) : wxr D v k < r ∧ wnew D v (wxr D v k) = true ∧ wct D v (wxr D v k) = k := by
  obtain ⟨i, h1, h2, h3⟩ := cnt_at h
  have e : wxr D v k = i := by
    have := wxr_of h2
    rw [show wct D v i = k from h3] at this
    exact this
  rw [e]
  exact ⟨h1, h2, h3⟩
/-- an earlier row that is alike: then one that is kept -/
theorem alk_kept {v q r : Nat} (hq : q < r) (h1 : rok D v q) (h2 : full D q) (h3 : alk D v q r) : ∃ k, k < wct D v r ∧ alk D v (wxr D v k) r := by
  obtain ⟨p, ⟨p1, p2, p3, p4⟩, pm⟩ := ex_least (p := fun p => p < r ∧ rok D v p ∧ full D p ∧ alk D v p r) ⟨q, hq, h1, h2, h3⟩
  have hn : wnew D v p = true := wnew_t.mpr ⟨p2, p3, fun x hx x1 x2 x3 => by
    have := pm x ⟨by omega, x1, x2, alk_trans x3 p4⟩
    omega⟩
  refine ⟨wct D v p, ?_, by rw [wxr_of hn]; exact p4⟩
  have := cnt_up (p := wnew D v) (i := p + 1) (j := r) (by omega)
  rw [cnt_s, if_pos hn] at this
  show cnt (wnew D v) p < cnt (wnew D v) r
  omega
theorem wxr_dw (hw : DWt D) {v k r : Nat} (hr : r ≤ 8 * D 324 2) (h : k < wct D v r) : 1 ≤ D 328 (wxr D v k) ∧ D 328 (wxr D v k) ≤ 6 ∧ full D (wxr D v k) ∧ rok D v (wxr D v k) ∧ wxr D v k < r := by
  obtain ⟨h1, h2, h3⟩ := wxr_at h
  obtain ⟨g1, g2, -⟩ := wnew_t.mp h2
  obtain ⟨y1, y2⟩ := row_dw hw (by omega) g1.1
  exact ⟨y1, y2, g2, g1, h1⟩
theorem sg_lt (hw : DWt D) {v r i : Nat} (hr : r < 192) (hf : full D r) (hi : i < D 328 r) (h6 : D 328 r ≤ 6) : sg D v r i < 40 := by
  have := hw.2.2 (6 * r + i) (by omega)
  exact std_lt v (this.resolve_left (hf i hi))
/-- the reference's rows, so far -/
def MR (D : dD) (v r : Nat) (σ : jM) : Prop := rI σ 324 39 = nI (wct D v r) ∧ ∀ k, k < wct D v r → rI σ 350 k = nI (D 328 (wxr D v k)) ∧ ∀ i, i < D 328 (wxr D v k) → rI σ 351 (6 * k + i) = nI (sg D v (wxr D v k) i)
theorem m_isAlike {a b na nb : Nat} {A B : Nat → Nat} (ha : a < 192) (hb : b < 192) (hna : na ≤ 6) (hnb : nb ≤ 6) (h1 : rI σ 350 a = nI na) (h2 : rI σ 350 b = nI nb) (hA : ∀ i, i < na → rI σ 351 (6 * a + i) = nI (A i) ∧ A i < 1000) (hB : ∀ i, i < nb → rI σ 351 (6 * b + i) = nI (B i) ∧ B i < 1000) : f_X13_isAlike (nI a) (nI b) σ = some (bI (na = nb ∧ ∀ i, i < na → A i = B i), σ) := by
  refine ok_eq ?_
  have key : ∀ s0 : Int32, s0 = bI (na = nb) → ok (f_X13_isAlike_24 Fu (nI a) (nI b) s0 0 σ) (fun r s => r = bI (na = nb ∧ ∀ i, i < na → A i = B i) ∧ s = σ) := by
    intro s0 e0
    refine L_X13_isAlike_24 na (fun i l3 l4 τ => l3 = bI (na = nb ∧ ∀ j, j < i → A j = B j) ∧ l4 = nI i ∧ τ = σ) (by omega) (fun i q l3 l4 τ hk hI hq => ?_) (Nat.zero_le _) ⟨?_, rfl, rfl⟩
    · obtain ⟨rfl, rfl, rfl⟩ := hI
      unfold s_X13_isAlike_24 f_X13_isAlike_71 f_X13_isAlike_78
      rw [gd_bI, ite_bI, gd_n ha (by omega)]
      simp (disch := omega) only [nI_ix]
      rw [h1, li6, pk_mul, pk_mul, nI_add, nI_add]
      simp (disch := omega) only [nI_le2, nI_ix]
      by_cases c : i < na
      · rw [if_neg (by omega)]
        refine ok_ite (fun z => ?_) (fun z => ok_ret ⟨?_, rfl⟩)
        · obtain ⟨a1, a2⟩ := hA i c
          obtain ⟨b1, b2⟩ := hB i (by omega)
          rw [gd_n (by omega) (by omega), gd_n (by omega) (by omega), a1, b1, ite_iff (nI_eq2 (by omega) (by omega))]
          refine ok_ite (fun y => hq (i + 1) _ _ _ (by omega) (by omega) ⟨?_, nI_1 i, rfl⟩) (fun y => hq (i + 1) _ _ _ (by omega) (by omega) ⟨?_, nI_1 i, rfl⟩)
          · rw [bI_pos]
            refine ⟨z.1, fun j hj => ?_⟩
            by_cases e : j = i
            · subst e; exact y
            · exact z.2 j (by omega)
          · rw [bI_neg (fun w => y (w.2 i (by omega)))]
        · rw [bI_neg z, bI_neg (fun w => z ⟨w.1, fun j hj => w.2 j (by omega)⟩)]
      · rw [if_pos (by omega)]
        have e : i = na := by omega
        subst e
        exact ok_ret ⟨rfl, rfl⟩
    · rw [e0]
      exact bI_congr ⟨fun w => ⟨w, fun j hj => by omega⟩, fun w => w.1⟩
  unfold f_X13_isAlike f_X13_isAlike_20
  rw [gd_n ha (by omega), gd_n hb (by omega), nI_ix (by omega), nI_ix (by omega), h1, h2, ite_iff (nI_eq2 (by omega) (by omega))]
  exact ok_ite (fun z => key _ (by rw [bI_pos z])) (fun z => key _ (by rw [bI_neg z]))
abbrev wfw (k j : Nat) : Prop := (k = 324 ∧ j = 39) ∨ k = 350 ∨ k = 351
theorem m_addWhole (hw : DWt D) (hM : MD D σ) {v r : Nat} (hr : r < 8 * D 324 2) (hk : rok D v r) (h343 : ∀ s, s < 40 → rI σ 343 s = nI (std D v s)) (hR : MR D v r σ) : ok (f_X13_addWhole (nI r) σ) (fun _ τ => MR D v (r + 1) τ ∧ Fr wfw σ τ) := by
  have h24 := hw.1
  obtain ⟨g1, g2⟩ := row_dw hw hr hk.1
  have hn := cnt_le (wnew D v) r
  obtain ⟨hR1, hR2⟩ := hR
  have hn' : wct D v r ≤ r := hn
  -- a row that isn't kept
  have keep : ∀ τ, Fr (fun k j => wfw k j ∧ ¬ (k = 324) ∧ (k = 350 → wct D v r ≤ j) ∧ (k = 351 → 6 * wct D v r ≤ j)) σ τ → ¬ wnew D v r = true → MR D v (r + 1) τ ∧ Fr wfw σ τ := by
    intro τ hF hz
    have e : wct D v (r + 1) = wct D v r := by show cnt _ _ + _ = _; rw [if_neg hz]; rfl
    refine ⟨⟨by rw [e, hF.I _ _ (by omega)]; exact hR1, fun k hk => ?_⟩, hF.mono (fun k j z => z.1)⟩
    rw [e] at hk
    have := (wxr_dw hw (by omega) hk).2.1
    obtain ⟨y1, y2⟩ := hR2 k hk
    refine ⟨by rw [hF.I _ _ (by omega)]; exact y1, fun i hi => ?_⟩
    rw [hF.I _ _ (by omega)]
    exact y2 i hi
  unfold f_X13_addWhole
  rw [gd_n (by omega) (by omega), hR1, gd_n (by omega) (by omega), nI_ix (by omega), nI_ix (by omega), hM.r (k := 328) (j := r) (by omega) (by omega)]
  generalize hnn : wct D v r = n at *
  refine L_X13_addWhole_17 (D 328 r) (fun i l2 τ => l2 = nI i ∧ rI τ 350 n = nI (D 328 r) ∧ (∀ j, j < i → D 329 (6 * r + j) ≠ 99 ∧ rI τ 351 (6 * n + j) = nI (sg D v r j)) ∧ Fr (fun k j => wfw k j ∧ ¬ (k = 324) ∧ (k = 350 → n ≤ j) ∧ (k = 351 → 6 * n ≤ j)) σ τ) (by omega) (fun i q l2 τ hk2 hI hq => ?_) (Nat.zero_le _) ⟨rfl, rI_same _ _ _ _, fun j hj => by omega, Fr.refl.w ⟨by omega, by omega, by omega, by omega⟩⟩
  obtain ⟨rfl, f0, f1, hF⟩ := hI
  have hM' : MD D τ := MD_fr hM hF (fun k j hp z => by have := pers_ge hp; omega)
  have e39 : rI τ 324 39 = nI n := (hF.I _ _ (by omega)).trans hR1
  unfold s_X13_addWhole_17
  rw [gd_n (by omega) (by omega)]
  simp (disch := omega) only [nI_ix]
  rw [hM'.r (k := 328) (j := r) (by omega) (by omega), e39, li6, pk_mul, pk_mul, nI_add, nI_add]
  simp (disch := omega) only [nI_le2, nI_ix]
  by_cases c : i < D 328 r
  · obtain ⟨m9, m9'⟩ := hM'.2 (6 * r + i) (by omega)
    rw [if_neg (by omega), gd_n (by omega) (by omega), m9, ite_iff (pz_m1 (by omega))]
    refine ok_ite (fun z => ok_ret (keep τ hF (fun y => (wnew_t.mp y).2.1 i c z))) (fun z => ?_)
    have hu := m9'.resolve_left z
    rw [pz_n z, gd_n (by omega) (by omega), gd_n (by omega) (by omega)]
    simp (disch := omega) only [nI_ix]
    rw [hF.I 343 _ (by omega), h343 _ hu]
    refine hq (i + 1) _ _ (by omega) (by omega) ⟨nI_1 i, ?_, fun j hj => ?_, hF.w ⟨by omega, by omega, by omega, by omega⟩⟩
    · rw [rI_nk (by omega)]; exact f0
    · by_cases e : j = i
      · subst e; exact ⟨z, rI_same _ _ _ _⟩
      · rw [rI_nj (by omega)]; exact f1 j (by omega)
  · rw [if_pos (by omega)]
    have e : i = D 328 r := by omega
    subst e
    have hfull : full D r := fun j hj => (f1 j hj).1
    refine L_X13_addWhole_73 n (fun k l2 τ' => l2 = nI k ∧ τ' = τ ∧ ∀ j, j < k → ¬ alk D v (wxr D v j) r) (by omega) (fun k q2 l2 τ' hk3 hI3 hq3 => ?_) (Nat.zero_le _) ⟨rfl, rfl, fun j hj => by omega⟩
    obtain ⟨rfl, rfl, hno⟩ := hI3
    unfold s_X13_addWhole_73
    rw [e39]
    simp (disch := omega) only [nI_le2]
    by_cases c3 : k < n
    · obtain ⟨w1, w2, w3, w4, w5⟩ := wxr_dw hw (v := v) (k := k) (r := r) (by omega) (by rw [hnn]; exact c3)
      obtain ⟨y1, y2⟩ := hR2 k c3
      rw [if_neg (by omega), m_isAlike (a := k) (b := n) (na := D 328 (wxr D v k)) (nb := D 328 r) (A := sg D v (wxr D v k)) (B := sg D v r) (by omega) (by omega) w2 g2 ((hF.I _ _ (by omega)).trans y1) f0 (fun j hj => ⟨(hF.I _ _ (by omega)).trans (y2 j hj), by have := sg_lt hw (v := v) (by omega) w3 hj w2; omega⟩) (fun j hj => ⟨(f1 j hj).2, by have := sg_lt hw (v := v) (by omega) hfull hj g2; omega⟩), bd_some, ite_bI]
      refine ok_ite (fun z => ok_ret (keep τ' hF (fun y => ?_))) (fun z => hq3 (k + 1) _ _ (by omega) (by omega) ⟨nI_1 k, rfl, fun j hj => ?_⟩)
      · exact (wnew_t.mp y).2.2 _ w5 w4 w3 z
      · by_cases e : j = k
        · subst e; exact z
        · exact hno j (by omega)
    · rw [if_pos (by omega)]
      have hnew : wnew D v r = true := wnew_t.mpr ⟨hk, hfull, fun q hq1 hq2 hq3 hq4 => by
        obtain ⟨k', x1, x2⟩ := alk_kept hq1 hq2 hq3 hq4
        exact hno k' (by omega) x2⟩
      have e1 : wct D v (r + 1) = n + 1 := by show cnt _ _ + _ = _; rw [if_pos hnew]; show wct D v r + 1 = _; rw [hnn]
      have ex : wxr D v n = r := by rw [← hnn]; exact wxr_of hnew
      refine ok_ret ⟨⟨?_, fun k' hk' => ?_⟩, (hF.mono (fun k j z => z.1)).w (by omega)⟩
      · rw [rI_same, e1, nI_1]
      · rw [e1] at hk'
        by_cases e : k' = n
        · subst e
          rw [ex, rI_nk (by omega)]
          exact ⟨f0, fun i hi => by rw [rI_nk (by omega)]; exact (f1 i hi).2⟩
        · obtain ⟨y1, y2⟩ := hR2 k' (by omega)
          have := (wxr_dw hw (v := v) (k := k') (r := r) (by omega) (by omega)).2.1
          refine ⟨by rw [rI_nk (by omega), hF.I _ _ (by omega)]; exact y1, fun i hi => by rw [rI_nk (by omega), hF.I _ _ (by omega)]; exact y2 i hi⟩
theorem MR_skip {v r r' : Nat} (h : MR D v r σ) (hr : r ≤ r') (hz : ∀ q, r ≤ q → q < r' → ¬ rok D v q) : MR D v r' σ := by
  have e : wct D v r' = wct D v r := by
    have : ∀ d, r + d ≤ r' → wct D v (r + d) = wct D v r := by
      intro d
      induction d with
      | zero => intro _; rfl
      | succ d ih =>
        intro hd
        show cnt (wnew D v) (r + d) + (if wnew D v (r + d) = true then 1 else 0) = _
        rw [if_neg (fun y => hz (r + d) (by omega) (by omega) (wnew_t.mp y).1)]
        exact ih (by omega)
    have := this (r' - r) (by omega)
    rw [show r + (r' - r) = r' by omega] at this
    exact this
  unfold MR at h ⊢
  rw [e]
  exact h
theorem m_findWholes (hw : DWt D) (hM : MD D σ) {v : Nat} (hv : v ≤ 100000) (h343 : ∀ s, s < 40 → rI σ 343 s = nI (std D v s)) : ok (f_X13_findWholes (nI v) σ) (fun _ τ => MR D v (8 * D 324 2) τ ∧ Fr wfw σ τ) := by
  have h24 := hw.1
  have np : ∀ k j, pers k j → ¬ wfw k j := fun k j hp z => by have := pers_ge hp; omega
  unfold f_X13_findWholes
  refine L_X13_findWholes_7 (D 324 2) (fun t l2 τ => l2 = nI t ∧ MR D v (8 * t) τ ∧ Fr wfw σ τ) (by omega) (fun t q l2 τ hk hI hq => ?_) (Nat.zero_le _) ⟨rfl, ⟨rI_same _ _ _ _, fun k hk => absurd hk (Nat.not_lt_zero k)⟩, Fr.refl.w (by omega)⟩
  obtain ⟨rfl, hR, hF⟩ := hI
  have hM' : MD D τ := MD_fr hM hF np
  unfold s_X13_findWholes_7
  rw [hM'.r (k := 324) (j := 2) (by omega) (by omega)]
  simp (disch := omega) only [nI_le2]
  by_cases c : t < D 324 2
  · have hrows := (hw.2.1 t c).2.2.2.1
    rw [if_neg (by omega)]
    refine L_X13_findWholes_17 (D 327 t) (fun w l3 τ => l3 = nI w ∧ MR D v (8 * t + w) τ ∧ Fr wfw σ τ) (by omega) (fun w q2 l3 τ hk2 hI2 hq2 => ?_) (Nat.zero_le _) ⟨rfl, hR, hF⟩
    obtain ⟨rfl, hR, hF⟩ := hI2
    have hM' : MD D τ := MD_fr hM hF np
    unfold s_X13_findWholes_17 f_X13_findWholes_52
    rw [gd_n (by omega) (by omega)]
    simp (disch := omega) only [nI_ix]
    rw [hM'.r (k := 327) (j := t) (by omega) (by omega)]
    simp (disch := omega) only [nI_le2]
    have fin : (∀ x, 8 * t + w ≤ x → x < 8 * (t + 1) → ¬ rok D v x) → ok (q (nI v) (nI t + 1) τ) (fun _ τ => MR D v (8 * D 324 2) τ ∧ Fr wfw σ τ) := fun hz => hq (t + 1) _ _ (by omega) (by omega) ⟨nI_1 t, MR_skip hR (by omega) hz, hF⟩
    by_cases c2 : w < D 327 t
    · rw [if_neg (by omega), m_tC hw hM' c hv, bd_some, ite_bI]
      refine ok_ite (fun z => ?_) (fun z => fin (fun x h1 h2 h3 => ?_))
      · rw [li8, pk_mul, nI_add]
        have er : (8 * t + w) / 8 = t ∧ (8 * t + w) % 8 = w := by omega
        refine ok_bd (m_addWhole hw hM' (r := 8 * t + w) (by omega) (by show (8 * t + w) % 8 < D 327 ((8 * t + w) / 8) ∧ tC D v ((8 * t + w) / 8); rw [er.1, er.2]; exact ⟨c2, z⟩) (fun s hs => (hF.I _ _ (by omega)).trans (h343 s hs)) hR) (fun _ τ' h' => ?_)
        exact hq2 (w + 1) _ _ (by omega) (by omega) ⟨nI_1 w, h'.1, hF.trans h'.2⟩
      · have := h3.2
        rw [show x / 8 = t by omega] at this
        exact z this
    · rw [if_pos (by omega)]
      refine fin (fun x h1 h2 h3 => ?_)
      have := h3.1
      rw [show x / 8 = t by omega] at this
      omega
  · rw [if_pos (by omega)]
    have e : t = D 324 2 := by omega
    subst e
    exact ok_ret ⟨hR, hF⟩
end ROWS
