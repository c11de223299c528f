/-! THE GRID MADE; pairs, classOf, links -/
section MAKE
variable {D : dD} {σ : jM}
def GK (D : dD) (v : Nat) (σ : jM) : Prop := (∀ c, c < ncl D v → c < 12 → ∀ a b, a < b → b < 40 → rI σ (266 + c) (pr a b) = nI (pc D v c a b)) ∧ (∀ o, o < 2 → Adj σ (279 + o) (lk D v o)) ∧ (∀ o, o < 2 → Adj σ (282 + o) (pt D v o)) ∧ (∀ o, o < 2 → ∀ s, s < 40 → ∀ t, t < 64 → (bt (rL σ (285 + o) s) t = true ↔ Rc (lk D v o) s t))
theorem GK_St : St RG GK := fun D v σ τ he h => ⟨fun c hc h12 a b h1 h2 => (he _ _ (by omega)).1.trans (h.1 c hc h12 a b h1 h2), fun o ho => Adj_fr (h.2.1 o ho) (fun j => (he _ _ (by omega)).2), fun o ho => Adj_fr (h.2.2.1 o ho) (fun j => (he _ _ (by omega)).2), fun o ho s hs t ht => by rw [(he (285 + o) s (by omega)).2]; exact h.2.2.2 o ho s hs t ht⟩
abbrev wmk (k j : Nat) : Prop := (k = 264 ∧ (j = 0 ∨ j = 8)) ∨ (265 ≤ k ∧ k ≤ 288)
theorem c_make0 (hw : DW D) (hc : CD D σ) {v : Nat} (hv : v ≤ 100000) (h10 : rI σ 3 10 = nI v) (hV : VF D v σ) (h0 : rI σ 264 0 = 0) : ok (f_X4_make σ) (fun _ τ => GK D v τ ∧ rI τ 264 0 = 1 ∧ Fr wmk σ τ) := by
  obtain ⟨hwt, hwr, hwh, hws, hwn⟩ := id hw
  have hcd : ∀ τ, Fr wmk σ τ → CD D τ := fun τ hF => CD_fr hw hc hF (fun k j hp z => by have := cdc_lt hp; omega)
  have h3 : ∀ τ, Fr wmk σ τ → rI τ 3 10 = nI v ∧ VF D v τ := fun τ hF => ⟨(hF.I _ _ (by omega)).trans h10, ⟨(hF.2.2 (by omega)).trans hV.1, fun s hs => (hF.I _ _ (by omega)).trans (hV.2 s hs)⟩⟩
  have A60 : ∀ τ, Fr wmk σ τ → rI τ 264 0 = 1 → (∀ c, c < ncl D v → c < 12 → ∀ a b, a < b → b < 40 → rI τ (266 + c) (pr a b) = nI (pc D v c a b)) → (∀ o, o < 2 → Adj τ (279 + o) (lk D v o)) → (∀ o, o < 2 → Adj τ (282 + o) (pt D v o)) → ok (f_X4_make_60 Fu 0 τ) (fun _ τ => GK D v τ ∧ rI τ 264 0 = 1 ∧ Fr wmk σ τ) := by
    intro τ hF e1 hT hL hP
    refine L_X4_make_60 2 (fun o l1 τ => l1 = nI o ∧ Fr wmk σ τ ∧ rI τ 264 0 = 1 ∧ (∀ c, c < ncl D v → c < 12 → ∀ a b, a < b → b < 40 → rI τ (266 + c) (pr a b) = nI (pc D v c a b)) ∧ (∀ o, o < 2 → Adj τ (279 + o) (lk D v o)) ∧ (∀ o, o < 2 → Adj τ (282 + o) (pt D v o)) ∧ ∀ o', o' < o → ∀ s, s < 40 → ∀ t, t < 64 → (bt (rL τ (285 + o') s) t = true ↔ Rc (lk D v o') s t)) (by omega) (fun o q l1 τ hk hI hq => ?_) (Nat.zero_le _) ⟨rfl, hF, e1, hT, hL, hP, fun o' ho' => by omega⟩
    obtain ⟨rfl, hF, e1, hT, hL, hP, hC⟩ := hI
    unfold s_X4_make_60
    rw [li2]
    simp (disch := omega) only [nI_le2]
    by_cases co : o < 2
    · rw [if_neg (by omega)]
      refine L_X4_make_67 40 (fun s l2 τ => l2 = nI s ∧ Fr wmk σ τ ∧ rI τ 264 0 = 1 ∧ (∀ c, c < ncl D v → c < 12 → ∀ a b, a < b → b < 40 → rI τ (266 + c) (pr a b) = nI (pc D v c a b)) ∧ (∀ o, o < 2 → Adj τ (279 + o) (lk D v o)) ∧ (∀ o, o < 2 → Adj τ (282 + o) (pt D v o)) ∧ (∀ o', o' < o → ∀ s, s < 40 → ∀ t, t < 64 → (bt (rL τ (285 + o') s) t = true ↔ Rc (lk D v o') s t)) ∧ ∀ s', s' < s → ∀ t, t < 64 → (bt (rL τ (285 + o) s') t = true ↔ Rc (lk D v o) s' t)) (by omega) (fun s q2 l2 τ hk2 hI2 hq2 => ?_) (Nat.zero_le _) ⟨rfl, hF, e1, hT, hL, hP, hC, fun s hs => by omega⟩
      obtain ⟨rfl, hF, e1, hT, hL, hP, hC, hS⟩ := hI2
      unfold s_X4_make_67
      rw [li40]
      simp (disch := omega) only [nI_le2, nI_ix]
      by_cases cs : s < 40
      · rw [if_neg (by omega), gd_n co (by omega), gd_n co (by omega)]
        obtain ⟨y, ey, hy⟩ := e_reachOf (hL o co) cs
        rw [ey, bd_some, gd_n cs (by omega)]
        refine hq2 (s + 1) _ _ (by omega) (by omega) ⟨nI_1 s, hF.wl (by omega), e1, hT, fun o' ho' => Adj_fr (hL o' ho') (fun j => rL_nk (by omega)), fun o' ho' => Adj_fr (hP o' ho') (fun j => rL_nk (by omega)), fun o' ho' s2 hs2 t ht => ?_, fun s' hs' t ht => ?_⟩
        · rw [rL_nk (by omega)]; exact hC o' ho' s2 hs2 t ht
        · by_cases e : s' = s
          · subst e; rw [rL_same]; exact hy t ht
          · rw [rL_ne (fun _ z => e z)]; exact hS s' (by omega) t ht
      · rw [if_pos (by omega)]
        refine hq (o + 1) _ _ (by omega) (by omega) ⟨nI_1 o, hF, e1, hT, hL, hP, fun o' ho' s2 hs2 t ht => ?_⟩
        by_cases e : o' = o
        · subst e; exact hS s2 (by omega) t ht
        · exact hC o' (by omega) s2 hs2 t ht
    · rw [if_pos (by omega)]
      exact ok_ret ⟨⟨hT, hL, hP, fun o' ho' => hC o' (by omega)⟩, e1, hF⟩
  unfold f_X4_make
  rw [if_pos h0]
  refine L_X4_make_15 2 (fun o l1 τ => l1 = nI o ∧ Fr wmk σ τ ∧ rI τ 264 0 = 1 ∧ ∀ o', o' < o → (∀ j, j < 40 → rL τ (279 + o') j = 0) ∧ (∀ j, j < 40 → rL τ (282 + o') j = 0)) (by omega) (fun o q l1 τ hk hI hq => ?_) (Nat.zero_le _) ⟨rfl, Fr.refl.w (by omega), rI_same _ _ _ _, fun o' ho' => by omega⟩
  obtain ⟨rfl, hF, e1, hZ⟩ := hI
  unfold s_X4_make_15
  rw [li2]
  simp (disch := omega) only [nI_le2, nI_ix]
  by_cases co : o < 2
  · obtain ⟨w1, w2, w3⟩ := shf_lnk o co
    rw [if_neg (by omega), gd_n co (by omega)]
    refine ok_bd (e_fillL (279 + o) 0 τ (by rw [w1]; omega)) (fun _ τ1 h1 => ?_)
    rw [w1] at h1
    rw [gd_n co (by omega)]
    refine ok_bd (e_fillL (282 + o) 0 τ1 (by rw [w2]; omega)) (fun _ τ2 h2 => ?_)
    rw [w2] at h2
    refine hq (o + 1) _ _ (by omega) (by omega) ⟨nI_1 o, (hF.trans (h1.2.mono (fun k j e => by omega))).trans (h2.2.mono (fun k j e => by omega)), (h2.2.I _ _ (by omega)).trans ((h1.2.I _ _ (by omega)).trans e1), fun o' ho' => ?_⟩
    by_cases e : o' = o
    · subst e
      exact ⟨fun j hj => (h2.2.L _ _ (by omega)).trans (h1.1 j hj), h2.1⟩
    · exact ⟨fun j hj => (h2.2.L _ _ (by omega)).trans ((h1.2.L _ _ (by omega)).trans ((hZ o' (by omega)).1 j hj)), fun j hj => (h2.2.L _ _ (by omega)).trans ((h1.2.L _ _ (by omega)).trans ((hZ o' (by omega)).2 j hj))⟩
  · rw [if_pos (by omega)]
    have hA : ∀ o, o < 2 → Adj τ (279 + o) (fun _ _ => False) := fun o' ho' => Adj_0 (shf_lnk o' ho').1 (hZ o' (by omega)).1
    have hB : ∀ o, o < 2 → Adj τ (282 + o) (fun _ _ => False) := fun o' ho' => Adj_0 (shf_lnk o' ho').2.1 (hZ o' (by omega)).2
    refine ok_bd (c_gatherRows hwt (hcd τ hF).1 hv (h3 τ hF).1 (h3 τ hF).2.2) (fun _ τ1 h1 => ?_)
    have hF1 : Fr wmk σ τ1 := hF.trans (h1.2.mono (fun k j e => by omega))
    refine ok_bd (c_linkByClauses hwt hwr (hcd τ1 hF1).2.1 (h3 τ1 hF1).2.1 h1.1 (fun o' ho' => Adj_fr (hA o' ho') (fun j => h1.2.L _ _ (by omega)))) (fun _ τ2 h2 => ?_)
    obtain ⟨t1, t2, t3⟩ := h2
    have hF2 : Fr wmk σ τ2 := hF1.trans (t3.mono (fun k j e => by omega))
    refine ok_bd (c_linkByShares hws (hcd τ2 hF2).2.2.2.1 hv (h3 τ2 hF2).1 (h3 τ2 hF2).2.2 t2 (fun o' ho' => Adj_fr (hB o' ho') (fun j => (t3.L _ _ (by omega)).trans (h1.2.L _ _ (by omega))))) (fun _ τ3 h4 => ?_)
    obtain ⟨u1, u2, u3⟩ := h4
    exact A60 τ3 (hF2.trans (u3.mono (fun k j e => by omega))) ((u3.I _ _ (by omega)).trans ((t3.I _ _ (by omega)).trans ((h1.2.I _ _ (by omega)).trans e1))) (fun c hcc h12 a b g1 g2 => (u3.I _ _ (by omega)).trans (t1 c hcc a b g1 g2)) u1 u2
variable {C W B P : dD → Nat → jM → Prop}
theorem c_gridMake {v : Nat} (hS : SK GK C W B P) (h : Vw (KK GK C W B P) v σ) : ok (f_X4_make σ) (fun _ τ => Vw (KK GK C W B P) v τ ∧ dm τ = dm σ ∧ rI τ 3 0 = rI σ 3 0 ∧ GK (dm σ) v τ ∧ Fr wmk σ τ) := by
  obtain ⟨k1, k2, k3, k4, k5⟩ := h.2.2.2.2.1
  by_cases c : rI σ 264 0 = 0
  · refine ok_imp (c_make0 h.1.2.1 h.1.2.2.1 h.2.1 h.2.2.1 h.2.2.2.1 c) (fun _ τ hh => ?_)
    obtain ⟨h1, h2, h3⟩ := hh
    have hk : KK GK C W B P (dm σ) v τ := ⟨Or.inr h1, k2.imp (fun z => (h3.I _ _ (by omega)).trans z) (hS.2.1 _ _ _ _ (fun k j hr => ⟨h3.I _ _ (by omega), h3.L _ _ (by omega)⟩)), k3.imp (fun z => (h3.I _ _ (by omega)).trans z) (hS.2.2.1 _ _ _ _ (fun k j hr => ⟨h3.I _ _ (by omega), h3.L _ _ (by omega)⟩)), k4.imp (fun z => (h3.I _ _ (by omega)).trans z) (hS.2.2.2.1 _ _ _ _ (fun k j hr => ⟨h3.I _ _ (by omega), h3.L _ _ (by omega)⟩)), k5.imp (fun z => (h3.I _ _ (by omega)).trans z) (hS.2.2.2.2 _ _ _ _ (fun k j hr => ⟨h3.I _ _ (by omega), h3.L _ _ (by omega)⟩))⟩
    obtain ⟨i1, i2, i3⟩ := Vw_upd h h3 (fun k j z => ⟨ccr_hi (by omega), by omega, by omega⟩) hk
    exact ⟨i1, i2, i3, h1, h3⟩
  · unfold f_X4_make
    rw [if_neg c]
    exact ok_ret ⟨h, rfl, rfl, k1.resolve_left c, Fr.refl⟩
theorem c_seeGrid (hS : SK GK C W B P) (h : Inv (KK GK C W B P) σ) (a : Int32) : ok (f_X12_seeGrid a σ) (fun r τ => r = bI (0 ≤ a ∧ a ≤ rI σ 3 0) ∧ Inv (KK GK C W B P) τ ∧ dm τ = dm σ ∧ Fr ccr σ τ ∧ ((0 ≤ a ∧ a ≤ rI σ 3 0) → ∃ v, a = nI v ∧ Vw (KK GK C W B P) v τ ∧ GK (dm τ) v τ)) := by
  unfold f_X12_seeGrid
  refine ok_bd (c_see h KK_KC a) (fun r τ hh => ?_)
  obtain ⟨rfl, h1, h2, h3, h4⟩ := hh
  rw [ite_bI]
  refine ok_ite (fun z => ?_) (fun z => ok_ret ⟨by rw [bI_neg z], h1, h2, h3, fun y => absurd y z⟩)
  obtain ⟨v, rfl, hV⟩ := h4 z
  refine ok_bd (c_gridMake hS hV) (fun _ τ' hh => ?_)
  obtain ⟨g1, g2, g3, g4, g5⟩ := hh
  refine ok_ret ⟨by rw [bI_pos z], g1.1, g2.trans h2, h3.trans (g5.mono (fun k j e => ccr_hi (by omega))), fun _ => ⟨v, rfl, g1, by rw [g2]; exact g4⟩⟩
end MAKE
