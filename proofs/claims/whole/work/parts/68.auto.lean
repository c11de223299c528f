/-! NUMBERS FOR simp; the data as held by both, with the data fixed; frames of either side -/
theorem gd_n {α : Type} {a n : Nat} {x : Option α} (h : a < n) (hn : n < 2147483648) : gd (inb (nI a) n) x = x := gd_pos (nI_inb h hn)
theorem div_n {a b : Nat} (ha : a < 2147483648) (h0 : 0 < b) (hb : b < 2147483648) : nI a / nI b = nI (a / b) := pk_div (by omega) h0 (by omega)
theorem rem_n {a b : Nat} (ha : a < 2147483648) (h0 : 0 < b) (hb : b < 2147483648) : nI a - nI (a / b) * nI b = nI (a % b) := by
  rw [← div_n ha h0 hb]
  exact pk_rem (by omega) h0 (by omega)
theorem sub1_n {a : Nat} (h : 1 ≤ a) : nI a - 1 = nI (a - 1) := pk_sub (b := 1) h
theorem subm_n {a : Nat} (h : 1 ≤ a) : nI a + (-1) = nI (a - 1) := sb_m1 h
theorem eq0_n {a : Nat} (h : a < 2147483648) : nI a = 0 ↔ a = 0 := nI_eq2 (b := 0) h (by omega)
theorem gt0_n {a : Nat} (h : a < 2147483648) : 0 < nI a ↔ 0 < a := nI_lt2 (a := 0) (by omega) h
theorem le0_n {a : Nat} (h : a < 2147483648) : nI a ≤ 0 ↔ a = 0 := by
  rw [show (0 : Int32) = nI 0 from rfl, nI_le2 h (by omega)]
  omega
theorem ite_iff {α : Type} {c d : Prop} [Decidable c] [Decidable d] {x y : α} (h : c ↔ d) : (if c then x else y) = if d then x else y := by
  by_cases hc : c
  · rw [if_pos hc, if_pos (h.mp hc)]
  · rw [if_neg hc, if_neg (fun z => hc (h.mpr z))]
theorem li2 : (2 : Int32) = nI 2 := rfl
theorem li3 : (3 : Int32) = nI 3 := rfl
theorem li4 : (4 : Int32) = nI 4 := rfl
theorem li5 : (5 : Int32) = nI 5 := rfl
theorem li6 : (6 : Int32) = nI 6 := rfl
theorem li7 : (7 : Int32) = nI 7 := rfl
theorem li8 : (8 : Int32) = nI 8 := rfl
theorem li12 : (12 : Int32) = nI 12 := rfl
theorem li24 : (24 : Int32) = nI 24 := rfl
theorem li39 : (39 : Int32) = nI 39 := rfl
theorem li40 : (40 : Int32) = nI 40 := rfl
theorem li120 : (120 : Int32) = nI 120 := rfl
theorem li135 : (135 : Int32) = nI 135 := rfl
theorem li136 : (136 : Int32) = nI 136 := rfl
theorem li192 : (192 : Int32) = nI 192 := rfl
theorem li1600 : (1600 : Int32) = nI 1600 := rfl
theorem li3200 : (3200 : Int32) = nI 3200 := rfl
theorem li6n : (1000000 : Int32) = nI 1000000 := rfl
theorem o_n (n : Nat) : Int32.ofNat n = nI n := rfl
theorem nar_0 : vp_nar .boolean 0 = 0 := by decide
theorem nar_1 : vp_nar .boolean 1 = 1 := by decide
/-! the data as the reference's cells hold it -/
def MD (D : dD) (σ : jM) : Prop := (∀ k j, pers k j → k ≠ 329 → rI σ k j = nI (D k j) ∧ D k j < 2147483648) ∧ (∀ j, j < 1152 → rI σ 329 j = pz (D 329 j) ∧ (D 329 j = 99 ∨ D 329 j < 40))
theorem MD_of {σ : jM} (h : MI σ) : MD (dm σ) σ := ⟨fun _ _ hp h9 => md h hp h9, fun _ hj => md9 h hj⟩
theorem MD_fr {D : dD} {σ τ : jM} {W : Nat → Nat → Prop} (h : MD D σ) (hF : Fr W σ τ) (hW : ∀ k j, pers k j → ¬ W k j) : MD D τ :=
  ⟨fun k j hp h9 => by rw [hF.I k j (hW k j hp)]; exact h.1 k j hp h9, fun j hj => by rw [hF.I 329 j (hW 329 j (by omega))]; exact h.2 j hj⟩
theorem MD.r {D : dD} {σ : jM} (h : MD D σ) {k j : Nat} (hp : pers k j) (h9 : k ≠ 329) : rI σ k j = nI (D k j) := (h.1 k j hp h9).1
theorem MD.lt {D : dD} {σ : jM} (h : MD D σ) {k j : Nat} (hp : pers k j) (h9 : k ≠ 329) : D k j < 2147483648 := (h.1 k j hp h9).2
theorem CD_fr {D : dD} {σ τ : jM} {W : Nat → Nat → Prop} (hw : DW D) (h : CD D σ) (hF : Fr W σ τ) (hW : ∀ k j, cdc k j → ¬ W k j) : CD D τ := CD_eq hw (fun k j hp => hF.I k j (hW k j hp)) h
/-- what the reference's queries may write -/
abbrev scr (k j : Nat) : Prop := (k = 324 ∧ j ≠ 1 ∧ j ≠ 2 ∧ j ≠ 8 ∧ j ≠ 16 ∧ j ≠ 23 ∧ j ≠ 25 ∧ j ≠ 32 ∧ j ≠ 55 ∧ j ≠ 75) ∨ (k = 327 ∧ 24 ≤ j) ∨ (k = 328 ∧ 200 ≤ j) ∨ (k = 329 ∧ 1200 ≤ j) ∨ (k = 331 ∧ 10 ≤ j) ∨ (332 ≤ k ∧ k ≤ 335 ∧ 132 ≤ j) ∨ k = 343 ∨ (350 ≤ k ∧ k ≤ 358) ∨ (k = 359 ∧ 6 ≤ j) ∨ (k = 360 ∧ 48 ≤ j) ∨ (k = 361 ∧ 6 ≤ j) ∨ (364 ≤ k ∧ k ≤ 373)
/-- what the class's queries may write -/
abbrev ccr (k j : Nat) : Prop := k = 2 ∨ (k = 3 ∧ (j = 10 ∨ j = 12)) ∨ (15 ≤ k ∧ k ≤ 18) ∨ k = 26 ∨ k = 27 ∨ (100 ≤ k ∧ k ≤ 189 ∧ 7 ≤ (k - 100) % 9) ∨ (264 ≤ k ∧ k ≤ 323)
theorem scr_ge {k j : Nat} (h : scr k j) : 324 ≤ k ∧ k ≤ 373 ∧ k ≠ 336 ∧ (k = 324 → j ≠ 1 ∧ j ≠ 16 ∧ j ≠ 23 ∧ j ≠ 75) := by
  rcases h with h | h | h | h | h | h | h | h | h | h | h | h <;> omega
theorem scr_pers {k j : Nat} (hp : pers k j) (h : scr k j) : False := by
  rcases hp with hp | hp | hp | hp | hp | hp | hp | hp | hp | hp | hp
  all_goals (rcases h with h | h | h | h | h | h | h | h | h | h | h | h <;> omega)
theorem scr_pex {k j : Nat} (hp : pex k j) (h : scr k j) : False := by
  rcases hp with hp | hp
  · exact scr_pers hp h
  · rcases h with h | h | h | h | h | h | h | h | h | h | h | h <;> omega
theorem scr_lo {k j : Nat} (h : k < 324 ∨ 373 < k ∨ k = 336) : ¬ scr k j := fun z => by have := scr_ge z; omega
theorem scr_td {j : Nat} (h : j = 1 ∨ j = 16 ∨ j = 23 ∨ j = 75) : ¬ scr 324 j := fun z => by have := scr_ge z; omega
theorem ccr_ge {k j : Nat} (h : ccr k j) : (2 ≤ k ∧ k ≤ 323) ∧ k ≠ 262 ∧ k ≠ 263 ∧ (k = 3 → j ≠ 0 ∧ j ≠ 2 ∧ j ≠ 4 ∧ j ≠ 6 ∧ j ≠ 8) := by
  rcases h with h | h | h | h | h | h | h <;> omega
theorem ccr_cdc {k j : Nat} (hp : cdc k j) (h : ccr k j) : False := by
  rcases hp with hp | hp | hp | hp | hp | hp | hp
  all_goals (rcases h with h | h | h | h | h | h | h <;> omega)
theorem cdc_lt {k j : Nat} (hp : cdc k j) : k < 262 := by
  rcases hp with hp | hp | hp | hp | hp | hp | hp <;> omega
theorem pers_ge {k j : Nat} (hp : pers k j) : 324 ≤ k ∧ k ≤ 363 ∧ k ≠ 336 ∧ k ≠ 343 ∧ (k = 324 → j = 2 ∨ j = 8 ∨ j = 25 ∨ j = 32 ∨ j = 55) := by
  rcases hp with hp | hp | hp | hp | hp | hp | hp | hp | hp | hp | hp <;> omega
theorem pex_ge {k j : Nat} (hp : pex k j) : 324 ≤ k ∧ k ≤ 363 ∧ k ≠ 336 ∧ k ≠ 343 ∧ (k = 324 → j = 2 ∨ j = 8 ∨ j = 25 ∨ j = 32 ∨ j = 55) := by
  rcases hp with hp | hp
  · exact pers_ge hp
  · omega
theorem TD_w {σ τ : jM} (h : TD σ) {W : Nat → Nat → Prop} (hF : Fr W σ τ) (w1 : ¬ W 324 1) (w2 : ¬ W 3 0) (w3 : ¬ W 324 16) (w4 : ¬ W 262 1) (w5 : ∀ j, ¬ W 263 j) (w6 : ∀ j, ¬ W 336 j) (w7 : ¬ W 262 3) (w8 : ¬ W 324 23) (w9 : ¬ W 324 75) (wa : ¬ W 0 7) (wb : ∀ j, ¬ W 1 j) (wc : ∀ j, ¬ W 374 j) : TD τ := by
  obtain ⟨⟨d, a1, a2, a3⟩, ⟨n, b1, b2, b3, b4⟩, c1, m, d1, d2, d3, d4⟩ := h
  refine ⟨⟨d, a1, (hF.I _ _ w1).trans a2, (hF.I _ _ w2).trans a3⟩, ⟨n, b1, (hF.I _ _ w3).trans b2, (hF.I _ _ w4).trans b3, fun j hj => ?_⟩, ?_, m, d1, (hF.I _ _ w9).trans d2, (hF.I _ _ wa).trans d3, fun j hj => ?_⟩
  · rw [hF.I 263 j (w5 j), hF.I 336 j (w6 j)]
    exact b4 j hj
  · rw [hF.I 262 3 w7, hF.I 324 23 w8]
    exact c1
  · rw [hF.I 1 j (wb j), hF.I 374 j (wc j)]
    exact d4 j hj
theorem Inv_scr {K : dD → Nat → jM → Prop} (hK : KX K) {σ τ : jM} (h : Inv K σ) (hF : Fr scr σ τ) : Inv K τ := by
  have lo : ∀ k j, k < 324 → rI τ k j = rI σ k j := fun k j hk => hF.I k j (scr_lo (Or.inl hk))
  refine Inv_keep hK h (fun k j hp => ?_) (fun k j a b => ⟨lo k j (by omega), hF.L k j (scr_lo (by omega))⟩) (fun j => lo _ _ (by omega)) (hF.2.2 (scr_lo (by omega))) (lo _ _ (by omega)) ?_ (Int32.le_of_eq (lo _ _ (by omega)).symm)
  · rcases hp with hp | hp
    · exact hF.I k j (scr_pex hp)
    · exact lo k j (by have := cdc_lt hp; omega)
  · exact TD_w h.2.2.2.1 hF (scr_td (by omega)) (scr_lo (by omega)) (scr_td (by omega)) (scr_lo (by omega)) (fun j => scr_lo (by omega)) (fun j => scr_lo (by omega)) (scr_lo (by omega)) (scr_td (by omega)) (scr_td (by omega)) (scr_lo (by omega)) (fun j => scr_lo (by omega)) (fun j => scr_lo (by omega))
/-- all but the view stays where the class's queries write -/
theorem Inv_ccr {K : dD → Nat → jM → Prop} {σ τ : jM} (h : Inv K σ) (hF : Fr ccr σ τ) (hV : VV K (dm σ) τ) : Inv K τ ∧ dm τ = dm σ := by
  have hi : ∀ k j, 324 ≤ k ∨ k < 2 ∨ k = 262 ∨ k = 263 → ¬ ccr k j := fun k j hk z => by have := ccr_ge z; omega
  have hp' : ∀ k j, pex k j → rI τ k j = rI σ k j := fun k j hp => hF.I k j (hi k j (by have := pex_ge hp; omega))
  have hD : dm τ = dm σ := dm_eq (fun k j hp => hp' k j (Or.inl hp))
  have h30 : ¬ ccr 3 0 := fun z => by have := ccr_ge z; omega
  exact ⟨⟨MI_eq hp' h.1, by rw [hD]; exact h.2.1, by rw [hD]; exact CD_fr h.2.1 h.2.2.1 hF (fun k j hp => ccr_cdc hp), TD_w h.2.2.2.1 hF (hi _ _ (by omega)) h30 (hi _ _ (by omega)) (hi _ _ (by omega)) (fun j => hi _ _ (by omega)) (fun j => hi _ _ (by omega)) (hi _ _ (by omega)) (hi _ _ (by omega)) (hi _ _ (by omega)) (hi _ _ (by omega)) (fun j => hi _ _ (by omega)) (fun j => hi _ _ (by omega)), by rw [hD]; exact hV⟩, hD⟩
/-! what counts -/
theorem cOn {g c : Int32} {m w v : Nat} (h1 : c = nI m) (hm : m ≤ 100000) (h2 : gone g w) (hv : v ≤ 100000) : (c ≤ nI v ∧ (g = -1 ∨ nI v < g)) ↔ (m ≤ v ∧ v < w) := by
  subst h1
  rw [nI_le2 (by omega) (by omega)]
  rcases h2 with ⟨h3, h4⟩ | ⟨h3, h4⟩
  · subst h4
    exact ⟨fun z => ⟨z.1, by omega⟩, fun z => ⟨z.1, Or.inl rfl⟩⟩
  · subst h4
    rw [nI_m1 (by omega), nI_lt2 (by omega) (by omega), false_or]
theorem e_tC {D : dD} {σ : jM} (hw : DWt D) (hc : CDt D σ) {t v : Nat} (ht : t < D 324 2) (hv : v ≤ 100000) : f_countsOn_9 (tabX t) (nI v) σ = some (bI (tC D v t), σ) := by
  rw [e_countsOn9, bI_congr (cOn (hc.2.1 t ht).1 (hw.2.1 t ht).1 (hc.2.1 t ht).2.1 hv)]
theorem e_nC {D : dD} {σ : jM} (hw : DWn D) (hc : CDn D σ) {n v : Nat} (hn : n < D 324 55) (hv : v ≤ 100000) : f_countsOn_5 (namX n) (nI v) σ = some (bI (D 362 n ≤ v ∧ v < D 363 n), σ) := by
  rw [e_countsOn5, bI_congr (cOn (hc.2.1 n hn).2.2.1 (hw.2 n hn).2.2.2.1 (hc.2.1 n hn).2.2.2.1 hv)]
theorem e_sC {D : dD} {σ : jM} (hw : DWs D) (hc : CDs D σ) {k v : Nat} (hk : k < D 324 32) (hv : v ≤ 100000) : f_countsOn_8 (shaX k) (nI v) σ = some (bI (sC D v k), σ) := by
  rw [e_countsOn8, bI_congr (cOn (hc.2.1 k hk).2.2.2.2.1 (hw.2 k hk).2.2.2.2.2.1 (hc.2.1 k hk).2.2.2.2.2 hv)]
theorem m_tC {D : dD} {σ : jM} (hw : DWt D) (hM : MD D σ) {t v : Nat} (ht : t < D 324 2) (hv : v ≤ 100000) : f_X13_tabletCounts (nI t) (nI v) σ = some (bI (tC D v t), σ) := by
  have h0 := hw.1
  have h1 := hM.lt (k := 325) (j := t) (by omega) (by omega)
  have h2 := hM.lt (k := 326) (j := t) (by omega) (by omega)
  rw [e_tabletCounts (by omega), hM.r (by omega) (by omega), hM.r (by omega) (by omega), bI_congr (and_congr (nI_le2 h1 (by omega)) (nI_lt2 (by omega) h2))]
