/-! the class's rows: a number each -/
section KEYS
variable {D : dD} {σ : jM}
theorem bt_lN (n : Nat) {j : Nat} (h : j < 64) : bt (lN n) j = n.testBit j := by
  unfold bt
  rw [show (lN n).toBitVec = BitVec.ofNat 64 n from rfl, BitVec.getLsbD_ofNat, decide_eq_true h, Bool.true_and]
theorem tb_hi {n j k : Nat} (h : n < 2 ^ k) (hj : k ≤ j) : n.testBit j = false := Nat.testBit_lt_two_pow (Nat.lt_of_lt_of_le h (Nat.pow_le_pow_right (by omega) hj))
def KeyB (D : dD) (v r : Nat) (x : Int64) : Prop := ∀ j, j < 64 → bt x j = (decide (j / 6 < D 328 r) && (sg D v r (j / 6) + 1).testBit (j % 6))
theorem c_keyOf (hw : DWt D) (hc : CDt D σ) {v t w : Nat} (ht : t < D 324 2) (hwr : w < D 327 t) (h18 : ∀ s, s < 40 → rI σ 18 s = nI (std D v s)) : ok (f_X4_keyOf t (nI w) σ) (fun x τ => τ = σ ∧ ((full D (8 * t + w) ∧ KeyB D v (8 * t + w) x) ∨ (¬ full D (8 * t + w) ∧ x = -1))) := by
  have h24 := hw.1
  obtain ⟨b1, b2, b3, b4, b5⟩ := hw.2.1 t ht
  obtain ⟨z1, z2⟩ := b5 w hwr
  obtain ⟨x1, x2, x3, x4⟩ := hc.2.1 t ht
  obtain ⟨y1, y2⟩ := x4 w hwr
  unfold f_X4_keyOf
  refine L_X4_keyOf_5 (D 328 (8 * t + w)) (fun i l3 l5 τ => τ = σ ∧ l5 = nI i ∧ (∀ j, j < i → D 329 (6 * (8 * t + w) + j) ≠ 99) ∧ ∀ j, j < 64 → bt l3 j = (decide (j / 6 < i) && (sg D v (8 * t + w) (j / 6) + 1).testBit (j % 6))) (by omega) (fun i q l3 l5 τ hk hI hq => ?_) (Nat.zero_le _) ⟨rfl, rfl, fun j hj => by omega, fun j hj => ?_⟩
  · obtain ⟨rfl, rfl, hf, hb⟩ := hI
    unfold s_X4_keyOf_5
    rw [gd_n (by omega) (by omega)]
    simp (disch := omega) only [nI_ix]
    rw [y1]
    simp (disch := omega) only [nI_le2]
    by_cases c : i < D 328 (8 * t + w)
    · have hp9 := hw.2.2 (6 * (8 * t + w) + i) (by omega)
      rw [if_neg (by omega), e_signAt (by omega), bd_some, y2 i c, ite_iff (pz_m1 (by omega))]
      refine ok_ite (fun z => ok_ret ⟨rfl, Or.inr ⟨fun y => y i c z, rfl⟩⟩) (fun z => ?_)
      have hu := hp9.resolve_left z
      have hS := std_lt (D := D) v hu
      rw [pz_n z, gd_n (by omega) (by omega), nI_ix (by omega), h18 _ hu, nI_l (by omega), lN_1, li6, pk_mul]
      refine hq (i + 1) _ _ _ (by omega) (by omega) ⟨rfl, nI_1 i, fun j hj => ?_, fun j hj => ?_⟩
      · by_cases e : j = i
        · subst e; exact z
        · exact hf j (by omega)
      · rw [bt_or, hb j hj, bt_shl _ (by omega) hj, bt_lN _ (by omega)]
        have hsg : sg D v (8 * t + w) i = std D v (D 329 (6 * (8 * t + w) + i)) := rfl
        rw [← hsg] at hS ⊢
        rcases Nat.lt_trichotomy (j / 6) i with g | g | g
        · rw [decide_eq_true g, decide_eq_true (show j / 6 < i + 1 by omega), decide_eq_false (show ¬ 6 * i ≤ j by omega), Bool.false_and, Bool.or_false]
        · rw [decide_eq_false (show ¬ j / 6 < i by omega), decide_eq_true (show j / 6 < i + 1 by omega), decide_eq_true (show 6 * i ≤ j by omega), g, show j - 6 * i = j % 6 by omega, Bool.false_and, Bool.false_or]
        · rw [decide_eq_false (show ¬ j / 6 < i by omega), decide_eq_false (show ¬ j / 6 < i + 1 by omega), tb_hi (k := 6) (show sg D v (8 * t + w) i + 1 < 2 ^ 6 by omega) (by omega), Bool.false_and, Bool.and_false]
          rfl
    · rw [if_pos (by omega)]
      have e : i = D 328 (8 * t + w) := by omega
      subst e
      exact ok_ret ⟨rfl, Or.inl ⟨hf, hb⟩⟩
  · rw [bt_0, decide_eq_false (by omega), Bool.false_and]
theorem tb_ext {a b : Nat} (ha : a < 64) (hb : b < 64) (h : ∀ j, j < 6 → a.testBit j = b.testBit j) : a = b := by
  refine Nat.eq_of_testBit_eq (fun j => ?_)
  rcases Nat.lt_or_ge j 6 with g | g
  · exact h j g
  · rw [tb_hi (k := 6) ha g, tb_hi (k := 6) hb g]
theorem key_place {v r i j : Nat} {x : Int64} (h : KeyB D v r x) (hi : i < D 328 r) (h6 : D 328 r ≤ 6) (hj : j < 6) : bt x (6 * i + j) = (sg D v r i + 1).testBit j := by
  rw [h (6 * i + j) (by omega), show (6 * i + j) / 6 = i by omega, show (6 * i + j) % 6 = j by omega, decide_eq_true hi, Bool.true_and]
theorem key_hi {v r j : Nat} {x : Int64} (h : KeyB D v r x) (hj : 6 * D 328 r ≤ j) : bt x j = false := by
  rcases Nat.lt_or_ge j 64 with g | g
  · rw [h j g, decide_eq_false (by omega), Bool.false_and]
  · exact bt_ge x g
theorem key_eq (hw : DWt D) {v q r : Nat} {x y : Int64} (hq : q < 192) (hr : r < 192) (h6q : D 328 q ≤ 6) (h6r : D 328 r ≤ 6) (fq : full D q) (fr : full D r) (hx : KeyB D v q x) (hy : KeyB D v r y) : x = y ↔ alk D v q r := by
  have nz : ∀ n : Nat, n < 63 → ∃ j, j < 6 ∧ (n + 1).testBit j = true := by decide +kernel
  refine ⟨fun e => ?_, fun h => bt_ext (fun j hj => ?_)⟩
  · subst e
    have hl : ∀ p p', p < 192 → D 328 p' ≤ 6 → D 328 p ≤ 6 → full D p → KeyB D v p x → KeyB D v p' x → D 328 p ≤ D 328 p' := by
      intro p p' h1 h2 h3 h4 h5 h6
      rcases Nat.lt_or_ge (D 328 p') (D 328 p) with g | g
      · have hs := sg_lt hw (v := v) h1 h4 g h3
        obtain ⟨j, hj, hb⟩ := nz (sg D v p (D 328 p')) (by omega)
        have e1 := key_place h5 g h3 hj
        rw [key_hi h6 (by omega), hb] at e1
        cases e1
      · exact g
    have e : D 328 q = D 328 r := Nat.le_antisymm (hl q r hq h6r h6q fq hx hy) (hl r q hr h6q h6r fr hy hx)
    refine ⟨e, fun i hi => ?_⟩
    have s1 := sg_lt hw (v := v) hq fq hi h6q
    have s2 := sg_lt hw (v := v) hr fr (by rw [← e]; exact hi) h6r
    have := tb_ext (a := sg D v q i + 1) (b := sg D v r i + 1) (by omega) (by omega) (fun j hj => by rw [← key_place hx hi h6q hj, ← key_place hy (by rw [← e]; exact hi) h6r hj])
    omega
  · rw [hx j hj, hy j hj, h.1]
    by_cases g : j / 6 < D 328 r
    · rw [h.2 (j / 6) (by rw [h.1]; exact g)]
    · rw [decide_eq_false g, Bool.false_and, Bool.false_and]
theorem key_m1 {v r : Nat} {x : Int64} (h6 : D 328 r ≤ 6) (h : KeyB D v r x) : ¬ x = -1 := by
  intro e
  have := key_hi h (j := 63) (by omega)
  rw [e, bt_m1 (by omega)] at this
  cases this
def CR (D : dD) (v r : Nat) (σ : jM) : Prop := rI σ 264 8 = nI (wct D v r) ∧ ∀ k, k < wct D v r → KeyB D v (wxr D v k) (rL σ 287 k) ∧ rI σ 288 k = nI (D 328 (wxr D v k))
abbrev wgr (k j : Nat) : Prop := (k = 264 ∧ j = 8) ∨ k = 287 ∨ k = 288
theorem c_isThere {n : Nat} (hn : n ≤ 192) (h : rI σ 264 8 = nI n) (x : Int64) : ok (f_X4_isThere x σ) (fun r τ => τ = σ ∧ ((r = 1 ∧ ∃ k, k < n ∧ rL σ 287 k = x) ∨ (r = 0 ∧ ∀ k, k < n → ¬ rL σ 287 k = x))) := by
  unfold f_X4_isThere
  refine L_X4_isThere_2 n (fun k l3 τ => τ = σ ∧ l3 = nI k ∧ ∀ i, i < k → ¬ rL σ 287 i = x) (by omega) (fun k q l3 τ hk hI hq => ?_) (Nat.zero_le _) ⟨rfl, rfl, fun i hi => by omega⟩
  obtain ⟨rfl, rfl, hno⟩ := hI
  unfold s_X4_isThere_2
  rw [h]
  simp (disch := omega) only [nI_le2, nI_ix]
  by_cases c : k < n
  · rw [if_neg (by omega), gd_n (by omega) (by omega), ite_iff lgc0]
    refine ok_ite (fun z => ok_ret ⟨rfl, Or.inl ⟨rfl, k, c, z⟩⟩) (fun z => hq (k + 1) _ _ (by omega) (by omega) ⟨rfl, nI_1 k, fun i hi => ?_⟩)
    by_cases e : i = k
    · subst e; exact z
    · exact hno i (by omega)
  · rw [if_pos (by omega)]
    exact ok_ret ⟨rfl, Or.inr ⟨rfl, fun i hi => hno i (by omega)⟩⟩
theorem CR_skip {v r r' : Nat} (h : CR D v r σ) (hr : r ≤ r') (hz : ∀ q, r ≤ q → q < r' → ¬ wnew D v q = true) : CR D v r' σ := by
  have e : wct D v r' = wct D v r := by
    have : ∀ d, r + d ≤ r' → wct D v (r + d) = wct D v r := by
      intro d
      induction d with
      | zero => intro _; rfl
      | succ d ih =>
        intro hd
        show cnt (wnew D v) (r + d) + (if wnew D v (r + d) = true then 1 else 0) = _
        rw [if_neg (hz (r + d) (by omega) (by omega))]
        exact ih (by omega)
    have := this (r' - r) (by omega)
    rw [show r + (r' - r) = r' by omega] at this
    exact this
  unfold CR at h ⊢
  rw [e]
  exact h
theorem c_gatherRowsOf (hw : DWt D) (hc : CDt D σ) {v t : Nat} (ht : t < D 324 2) (hct : tC D v t) (h18 : ∀ s, s < 40 → rI σ 18 s = nI (std D v s)) (hR : CR D v (8 * t) σ) : ok (f_X4_gatherRowsOf t σ) (fun _ τ => CR D v (8 * (t + 1)) τ ∧ Fr wgr σ τ) := by
  have h24 := hw.1
  obtain ⟨b1, b2, b3, b4, b5⟩ := hw.2.1 t ht
  obtain ⟨x1, x2, x3, x4⟩ := hc.2.1 t ht
  have htx : tabX t = 28 + 3 * t := rfl
  unfold f_X4_gatherRowsOf
  refine L_X4_gatherRowsOf_2 (D 327 t) (fun w l2 τ => l2 = nI w ∧ CR D v (8 * t + w) τ ∧ Fr wgr σ τ) (by omega) (fun w q l2 τ hk hI hq => ?_) (Nat.zero_le _) ⟨rfl, hR, Fr.refl⟩
  obtain ⟨rfl, hR, hF⟩ := hI
  have hc' : CDt D τ := CDt_eq hw rfl rfl rfl rfl rfl rfl (hF.I _ _ (by omega)) (fun k j a b => hF.I _ _ (by omega)) hc
  rw [q_s_X4_gatherRowsOf_2]
  unfold f_X4_gatherRowsOf_68
  rw [hF.I (tabX t) 2 (by omega), x3]
  simp (disch := omega) only [nI_le2]
  by_cases c : w < D 327 t
  · obtain ⟨z1, z2⟩ := b5 w c
    obtain ⟨y1, -⟩ := x4 w c
    have er : (8 * t + w) / 8 = t ∧ (8 * t + w) % 8 = w := by omega
    have hrok : rok D v (8 * t + w) := by show (8 * t + w) % 8 < D 327 ((8 * t + w) / 8) ∧ tC D v ((8 * t + w) / 8); rw [er.1, er.2]; exact ⟨c, hct⟩
    have hn : wct D v (8 * t + w) ≤ 8 * t + w := cnt_le _ _
    have skip : ¬ wnew D v (8 * t + w) = true → ok (q t (nI w + 1) τ) (fun _ τ => CR D v (8 * (t + 1)) τ ∧ Fr wgr σ τ) := fun hz => hq (w + 1) _ _ (by omega) (by omega) ⟨nI_1 w, CR_skip hR (by omega) (fun q h1 h2 => by rw [show q = 8 * t + w by omega]; exact hz), hF⟩
    rw [if_neg (by omega)]
    refine ok_bd (c_keyOf hw hc' ht c (fun s hs => (hF.I _ _ (by omega)).trans (h18 s hs))) (fun x τ1 hx => ?_)
    obtain ⟨rfl, hx⟩ := hx
    rw [ite_iff lgc0]
    rcases hx with ⟨hf, hx⟩ | ⟨hf, rfl⟩
    · rw [if_neg (key_m1 z2 hx)]
      refine ok_bd (c_isThere (by omega) hR.1 x) (fun r τ2 h2 => ?_)
      obtain ⟨rfl, h2⟩ := h2
      have iff_ : ∀ k, k < wct D v (8 * t + w) → (rL τ2 287 k = x ↔ alk D v (wxr D v k) (8 * t + w)) := fun k hk => by
        obtain ⟨g1, g2, g3, g4, g5⟩ := wxr_dw hw (v := v) (k := k) (r := 8 * t + w) (by omega) hk
        exact key_eq hw (by omega) (by omega) g2 z2 g3 hf (hR.2 k hk).1 hx
      rcases h2 with ⟨rfl, k, hk, hkx⟩ | ⟨rfl, hno⟩
      · rw [if_neg (by decide)]
        obtain ⟨g1, g2, g3, g4, g5⟩ := wxr_dw hw (v := v) (k := k) (r := 8 * t + w) (by omega) hk
        exact skip (fun y => (wnew_t.mp y).2.2 _ g5 g4 g3 ((iff_ k hk).mp hkx))
      · rw [if_pos rfl, hR.1, gd_n (by omega) (by omega), gd_n (by omega) (by omega), gd_n (by omega) (by omega)]
        simp (disch := omega) only [nI_ix]
        rw [hF.I (tabX t + 1) w (by omega), y1]
        have hnew : wnew D v (8 * t + w) = true := wnew_t.mpr ⟨hrok, hf, fun q' a1 a2 a3 a4 => by
          obtain ⟨k', w1, w2⟩ := alk_kept a1 a2 a3 a4
          exact hno k' w1 ((iff_ k' w1).mpr w2)⟩
        have e1 : wct D v (8 * t + (w + 1)) = wct D v (8 * t + w) + 1 := by show cnt (wnew D v) (8 * t + w) + (if wnew D v (8 * t + w) = true then 1 else 0) = _; rw [if_pos hnew]; rfl
        have ex : wxr D v (wct D v (8 * t + w)) = 8 * t + w := wxr_of hnew
        refine hq (w + 1) _ _ (by omega) (by omega) ⟨nI_1 w, ⟨?_, fun k hk => ?_⟩, ((hF.wl (by omega)).w (by omega)).w (by omega)⟩
        · rw [rI_same, e1, nI_1]
        · rw [e1] at hk
          by_cases e : k = wct D v (8 * t + w)
          · subst e
            rw [ex, rI_nk (by omega), rI_same]
            refine ⟨?_, rfl⟩
            rw [rL_wI, rL_wI, rL_same]
            exact hx
          · rw [rI_nk (by omega), rI_nj (by omega), rL_wI, rL_wI, rL_ne (by omega)]
            exact hR.2 k (by omega)
    · rw [if_pos rfl]
      exact skip (fun y => hf (wnew_t.mp y).2.1)
  · rw [if_pos (by omega)]
    refine ok_ret ⟨CR_skip hR (by omega) (fun x h1 h2 h3 => ?_), hF⟩
    have := (wnew_t.mp h3).1.1
    rw [show x / 8 = t by omega] at this
    omega
theorem c_gatherRows (hw : DWt D) (hc : CDt D σ) {v : Nat} (hv : v ≤ 100000) (h10 : rI σ 3 10 = nI v) (h18 : ∀ s, s < 40 → rI σ 18 s = nI (std D v s)) : ok (f_X4_gatherRows σ) (fun _ τ => CR D v (8 * D 324 2) τ ∧ Fr wgr σ τ) := by
  have h24 := hw.1
  unfold f_X4_gatherRows
  refine L_X4_gatherRows_7 (D 324 2) (fun t l1 τ => l1 = nI t ∧ CR D v (8 * t) τ ∧ Fr wgr σ τ) (by omega) (fun t q l1 τ hk hI hq => ?_) (Nat.zero_le _) ⟨rfl, ⟨rI_same _ _ _ _, fun k hk => absurd hk (Nat.not_lt_zero k)⟩, Fr.refl.w (by omega)⟩
  obtain ⟨rfl, hR, hF⟩ := hI
  have hc' : CDt D τ := CDt_eq hw rfl rfl rfl rfl rfl rfl (hF.I _ _ (by omega)) (fun k j a b => hF.I _ _ (by omega)) hc
  unfold s_X4_gatherRows_7 f_X4_gatherRows_42
  rw [hF.I 3 2 (by omega), hc.1]
  simp (disch := omega) only [nI_le2]
  by_cases c : t < D 324 2
  · rw [if_neg (by omega), c_tC hw hc' c hv ((hF.I _ _ (by omega)).trans h10), bd_some, ite_bI]
    refine ok_ite (fun z => ?_) (fun z => ?_)
    · rw [gd_n (by omega) (by omega), nI_ix (by omega)]
      refine ok_bd (c_gatherRowsOf hw hc' c z (fun s hs => (hF.I _ _ (by omega)).trans (h18 s hs)) hR) (fun _ τ' h' => ?_)
      exact hq (t + 1) _ _ (by omega) (by omega) ⟨nI_1 t, h'.1, hF.trans h'.2⟩
    · refine hq (t + 1) _ _ (by omega) (by omega) ⟨nI_1 t, CR_skip hR (by omega) (fun x h1 h2 h3 => ?_), hF⟩
      have := (wnew_t.mp h3).1.2
      rw [show x / 8 = t by omega] at this
      exact z this
  · rw [if_pos (by omega)]
    have e : t = D 324 2 := by omega
    subst e
    exact ok_ret ⟨hR, hF⟩
end KEYS
