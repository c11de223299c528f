/-! rules -/
section ORL
variable {K : dD → Nat → jM → Prop} {σ : jM} {D : dD}
abbrev wrx (t k j : Nat) : Prop := (k = 262 ∧ 1 ≤ j ∧ j ≤ 7) ∨ (k = rulX t ∧ (j = 0 ∨ j = 1)) ∨ (rulX t + 1 ≤ k ∧ k ≤ rulX t + 6)
abbrev wrxs (t k j : Nat) : Prop := wrx t k j ∨ (k = 3 ∧ (j = 4 ∨ j = 10))
theorem CDr_new {τ : jM} (hw : DWr D) (h : CDr D σ) (h10 : D 324 8 < 10) (h3 : rI τ 3 4 = rI σ 3 4) (h19 : rI τ 19 1 = rI σ 19 1) (hc : ∀ k j, 100 ≤ k → k ≤ 189 → ¬ wrx (D 324 8) k j → rI τ k j = rI σ k j) : CDr D τ := by
  unfold CDr at h ⊢
  rw [h3, h19]
  refine ⟨h.1, h.2.1, fun k hk => ?_⟩
  have e := rulX_lt (k := k) (by omega)
  have e' := rulX_lt h10
  have h := h.2.2 k hk
  rw [hc _ 0 (by omega) (by omega) (by omega), hc _ 1 (by omega) (by omega) (by omega)]
  refine ⟨h.1, h.2.1, fun c hcl => ?_⟩
  have h := h.2.2 c hcl
  rw [hc (rulX k + 1) c (by omega) (by omega) (by omega), hc (rulX k + 2) c (by omega) (by omega) (by omega), hc (rulX k + 3) c (by omega) (by omega) (by omega), hc (rulX k + 4) c (by omega) (by omega) (by omega), hc (rulX k + 5) c (by omega) (by omega) (by omega), hc (rulX k + 6) c (by omega) (by omega) (by omega)]
  exact h
def HR (n : Nat) (T : Nat → Nat) (t d : Nat) (σ : jM) (r : Int32) (τ : jM) : Prop := rI τ 262 1 = 0 ∧ (((rulR n T 13 0 0).1 = 0 ∧ r = nI (rulR n T 13 0 0).2 ∧ rI τ (rulX t) 0 = nI d ∧ rI τ (rulX t) 1 = nI (rulR n T 13 0 0).2 ∧ (∀ c, c < (rulR n T 13 0 0).2 → cdat n T t c τ) ∧ rI τ 262 3 = -1 ∧ rI τ 3 4 = nI (t + 1) ∧ rI τ 3 10 = -1 ∧ Fr (wrxs t) σ τ) ∨ ((rulR n T 13 0 0).1 ≠ 0 ∧ r = -1 - nI (rulR n T 13 0 0).1 ∧ rI τ 262 3 = nI (rulR n T 13 0 0).2 ∧ Fr (wrx t) σ τ))
theorem c_rules {n d t : Nat} {T : Nat → Nat} (hT : TPc n T σ) (ht : t < 10) (e2 : rI σ 3 4 = nI t) (e0 : rI σ 3 0 = nI d) : ok (f_X12_rules σ) (HR n T t d σ) := by
  have hx : rulX t = 100 + 9 * t := rulX_lt ht
  rw [q_X12_rules, e2, if_pos (show nI t < 10 from (nI_lt2 (b := 10) (by omega) (by omega)).mpr ht), gd_n (by omega) (by omega)]
  simp (disch := omega) only [nI_ix]
  refine ok_bd (c_readRules hT ht) (fun r τ u => ?_)
  obtain ⟨uF, u⟩ := u
  rcases u with ⟨u1, rfl, u3, u4, u5⟩ | ⟨u1, rfl, u3, u4⟩
  · rw [if_neg (by decide)]
    unfold f_X12_forgetView
    have e30 : rI τ 3 0 = nI d := (uF.I _ _ (by omega)).trans e0
    have e32 : rI (wI (wI τ 262 1 0) (rulX t) 0 (nI d)) 3 4 = nI t := by rw [rI_nk (by omega), rI_nk (by omega)]; exact (uF.I _ _ (by omega)).trans e2
    rw [e30, e32, nI_1, bd_some]
    have hF : Fr (wrxs t) σ (wI (wI (wI (wI τ 262 1 0) (rulX t) 0 (nI d)) 3 4 (nI (t + 1))) 3 10 (-1)) := Fr.w (Fr.w (Fr.w (Fr.w (uF.mono (fun k j z => by omega)) (by omega)) (by omega)) (by omega)) (by omega)
    have e1 : rI (wI (wI (wI (wI τ 262 1 0) (rulX t) 0 (nI d)) 3 4 (nI (t + 1))) 3 10 (-1)) (rulX t) 1 = nI (rulR n T 13 0 0).2 := by rw [rI_nk (by omega), rI_nk (by omega), rI_nj (by omega), rI_nk (by omega)]; exact u3
    refine ok_ret ⟨by rw [rI_nk (by omega), rI_nk (by omega), rI_nk (by omega), rI_same], Or.inl ⟨u1, e1, by rw [rI_nk (by omega), rI_nk (by omega), rI_same], e1, fun c hc => ?_, by rw [rI_nk (by omega), rI_nk (by omega), rI_nk (by omega), rI_nj (by omega)]; exact u5, by rw [rI_nj (by omega), rI_same], rI_same _ _ _ _, hF⟩⟩
    exact cdat_fr (u4 c hc) (fun k a b => by rw [rI_nk (by omega), rI_nk (by omega), rI_nk (by omega), rI_nk (by omega)])
  · rw [if_pos rfl, u3]
    exact ok_ret ⟨rI_same _ _ _ _, Or.inr ⟨u1, rfl, by rw [rI_nj (by omega)]; exact u4, Fr.w (uF.mono (fun k j z => by omega)) (by omega)⟩⟩
theorem op_rules (h : Inv K σ) (hK : KX K) (a1 a2 a3 a4 a5 : Int32) : ∃ σ', lw_op 4 a1 a2 a3 a4 a5 σ σ' ∧ Inv K σ' := by
  show ∃ σ', (∃ (r : Int32) (σ1 : jM), f_X12_rules σ = some (r, σ1) ∧ f_X13_rules σ1 = some (r, σ')) ∧ Inv K σ'
  obtain ⟨n, T, hT⟩ := TP_of h.2.2.2.1
  obtain ⟨d, hd, ed1, ed2⟩ := h.2.2.2.1.1
  have h24 := (gR h).1.1
  have e2 := (gR h).2.1
  have m2 : rI σ 324 8 = nI (dm σ 324 8) := (md h.1 (by omega) (by omega)).1
  by_cases c : dm σ 324 8 < 10
  · generalize hm : dm σ 324 8 = t at *
    have hxt : rulX t = 100 + 9 * t := rulX_lt c
    refine op_mk (c_rules (d := d) hT.c c e2 ed2) (fun r τ hq => ?_)
    obtain ⟨q1, hq⟩ := hq
    have hFs : Fr (wrxs t) σ τ := by
      rcases hq with ⟨-, -, -, -, -, -, -, -, hF⟩ | ⟨-, -, -, hF⟩
      · exact hF
      · exact hF.mono (fun k j z => Or.inl z)
    have hi : ∀ k j, 264 ≤ k → rI τ k j = rI σ k j ∧ rL τ k j = rL σ k j := fun k j hk => ⟨hFs.I _ _ (by omega), hFs.L _ _ (by omega)⟩
    have hTm : TPm n T τ := TPm_fr hT.m hFs (by omega) (fun j => by omega)
    have hSG : SG τ := SG_fr (SG_of h.1) hFs (fun k j z => by omega)
    refine ok_imp (m_rules hTm hSG c ((hi _ _ (by omega)).1.trans m2)) (fun r' υ u => ?_)
    obtain ⟨u1, u2, u3⟩ := u
    rcases hq with ⟨v1, v2, v3, v4, v5, v6, v7, v8, v9⟩ | ⟨v1, v2, v3, v4⟩
    · rcases u3 with ⟨w1, w2, w3, w4, w5, w7, w8, w9, w10⟩ | ⟨w1, -⟩
      · refine ⟨w2.trans v2.symm, ?_⟩
        have r3 : (rulR n T 13 0 0).2 ≤ 12 := rulR_le (n := n) (T := T) (k := 13) (i := 0) (R := rulR n T 13 0 0) rfl w1 (by omega)
        generalize rulR n T 13 0 0 = R at *
        have lo : ∀ k j, k < 324 → rI υ k j = rI τ k j := fun k j hk => w10.I _ _ (by omega)
        have hi2 : ∀ k j, 324 ≤ k → ¬ wRs t k j → rI υ k j = rI σ k j := fun k j hk hw => (w10.I _ _ hw).trans (hi _ _ (by omega)).1
        have x1 : dm υ 324 8 = t + 1 := md_val (by omega) (by omega) (by omega) w4
        have x5 : dm υ 330 t = d := md_val (by omega) (by omega) (by omega) (by rw [w5, (hi _ _ (by omega)).1]; exact ed1)
        have x7 : dm υ 331 t = R.2 := md_val (by omega) (by omega) (by omega) w7
        have x2 : ∀ c, c < R.2 → dm υ 332 (12 * t + c) = knd n T (cbg n T c) := fun c hc => by
          obtain ⟨p0, p1, p2⟩ := w8 c hc
          have := p0.2.1
          exact md_val (by omega) (by omega) (by omega) p1
        have x3 : ∀ c, c < R.2 → dm υ 333 (12 * t + c) = (cR n T (cbg n T c)).2.2.1 := fun c hc => by
          obtain ⟨p0, p1, p2⟩ := w8 c hc
          obtain ⟨-, g1, g2, g3⟩ := cgd_ok p0
          have := p0.2.1
          have hb : (cR n T (cbg n T c)).2.2.1 ≤ 122 := by
            rcases Nat.lt_or_ge (knd n T (cbg n T c)) 2 with z | z
            · have := g1 z; omega
            · have := g2 (by omega); omega
          exact md_val (by omega) (by omega) (by omega) p2.1
        have x4 : ∀ c, c < R.2 → knd n T (cbg n T c) ≤ 2 → dm υ 334 (12 * t + c) = (cR n T (cbg n T c)).2.2.2.1 := fun c hc hk => by
          obtain ⟨p0, p1, p2⟩ := w8 c hc
          obtain ⟨-, g1, g2, g3⟩ := cgd_ok p0
          rcases Nat.lt_or_ge (knd n T (cbg n T c)) 2 with z | z
          · have := g1 z
            exact md_val (by omega) (by omega) (by omega) (p2.2.1 z).1
          · have := g3 (by omega)
            exact md_val (by omega) (by omega) (by omega) (p2.2.2 (by omega))
        have x6 : ∀ c, c < R.2 → knd n T (cbg n T c) < 2 → dm υ 335 (12 * t + c) = (cR n T (cbg n T c)).2.2.2.2 := fun c hc hk => by
          obtain ⟨p0, p1, p2⟩ := w8 c hc
          obtain ⟨-, g1, g2, g3⟩ := cgd_ok p0
          have := g1 hk
          exact md_val (by omega) (by omega) (by omega) (p2.2.1 hk).2
        have xo : ∀ k i, i ≠ t → (k = 330 ∨ k = 331) → i < 10 → dm υ k i = dm σ k i := fun k i hi' hk h24 => dm_pt (hi2 _ _ (by omega) (by omega))
        have xoc : ∀ x c k, x < t → c < 12 → 332 ≤ k → k ≤ 335 → dm υ k (12 * x + c) = dm σ k (12 * x + c) := fun x c k hx hc a b => dm_pt (hi2 _ _ (by omega) (by omega))
        have hMI : MI υ := by
          intro k j hp
          by_cases z0 : scx k j
          · exact u1 k j z0
          have hp := hp.resolve_right z0
          by_cases z1 : k = 324 ∧ j = 8
          · obtain ⟨rfl, rfl⟩ := z1; rw [w4]; exact ⟨fun _ => nI_pos' (by omega), fun z => absurd z (by decide)⟩
          by_cases z2 : k = 330 ∧ j = t
          · obtain ⟨rfl, rfl⟩ := z2; rw [w5, (hi _ _ (by omega)).1, ed1]; exact ⟨fun _ => nI_pos' (by omega), fun z => absurd z (by decide)⟩
          by_cases z4 : k = 331 ∧ j = t
          · obtain ⟨rfl, rfl⟩ := z4; rw [w7]; exact ⟨fun _ => nI_pos' (by omega), fun z => absurd z (by decide)⟩
          by_cases z5 : 332 ≤ k ∧ k ≤ 335 ∧ 12 * t ≤ j ∧ j < 12 * t + 12
          · obtain ⟨za, zb, zc, zd⟩ := z5
            have := w9 (j - 12 * t) (by omega) k za zb
            rw [show 12 * t + (j - 12 * t) = j by omega] at this
            exact ⟨fun _ => this, fun z => by omega⟩
          rw [hi2 k j (pers_ge hp).1 (fun z => ?_)]
          · exact h.1 k j (Or.inl hp)
          · have := pers_ge hp
            rcases z with z | z | z
            · rcases z with z | z | z
              · omega
              · rcases hp with hp | hp | hp | hp | hp | hp | hp | hp | hp | hp | hp <;> omega
              · rcases hp with hp | hp | hp | hp | hp | hp | hp | hp | hp | hp | hp <;> omega
            · rcases z with z | z | z
              · exact z5 z
              · exact z2 z
              · exact z1 z
            · exact z4 z
        refine Inv_mut hMI (keepT (fun k j hp => ?_) (gT h)) ⟨?_, ?_⟩ (keepH (fun k j hp => ?_) (gH h)) (keepS (fun k j hp => ?_) (gS h)) (keepN (fun k j hp => ?_) (Nat.le_of_eq (dm_pt (hi2 _ _ (by omega) (by omega))).symm) (gN h)) ?_ ((lo _ _ (by omega)).trans v8)
        · rcases Nat.lt_or_ge k 324 with y | y
          · rw [lo _ _ y]; exact v9.I _ _ (by rcases hp with z | z | z | z | z | z <;> omega)
          · exact hi2 _ _ y (by rcases hp with z | z | z | z | z | z <;> omega)
        · obtain ⟨o1, o2⟩ := (gR h).1
          rw [hm] at o2
          unfold DWr
          rw [x1]
          refine ⟨by omega, fun x hx => ?_⟩
          by_cases e : x = t
          · subst e
            rw [x5, x7]
            refine ⟨hd, r3, fun c hc => ?_⟩
            obtain ⟨p0, -, -⟩ := w8 c hc
            obtain ⟨-, g1, g2, g3⟩ := cgd_ok p0
            have hk3 := p0.2.1
            rw [x2 c hc, x3 c hc]
            refine ⟨hk3, fun z => ?_, fun z => g2 (by omega), fun z => ?_⟩
            · rw [x4 c hc (by omega), x6 c hc z]
              exact g1 z
            · rw [x4 c hc (by omega)]
              exact g3 z
          · rw [xo 330 x e (by omega) (by omega), xo 331 x e (by omega) (by omega)]
            obtain ⟨b1, b2, b3⟩ := o2 x (by omega)
            refine ⟨b1, b2, fun c hc => ?_⟩
            rw [xoc x c 332 (by omega) (by omega) (by omega) (by omega), xoc x c 333 (by omega) (by omega) (by omega) (by omega), xoc x c 334 (by omega) (by omega) (by omega) (by omega), xoc x c 335 (by omega) (by omega) (by omega) (by omega)]
            exact b3 c hc
        · obtain ⟨o1, o2, o3⟩ := (gR h).2
          have ow := (gR h).1.2
          rw [hm] at o3 ow
          unfold CDr
          rw [x1]
          refine ⟨(lo _ _ (by omega)).trans v7, (lo _ _ (by omega)).trans ((v9.I _ _ (by omega)).trans o2), fun x hx => ?_⟩
          have hxx : rulX x = 100 + 9 * x := rulX_lt (by omega)
          by_cases e : x = t
          · subst e
            rw [x5, x7, lo _ _ (by omega), lo _ _ (by omega)]
            refine ⟨v3, v4, fun c hc => ?_⟩
            obtain ⟨p0, p1, p2, p3, p4⟩ := v5 c hc
            have hk3 := p0.2.1
            rw [x2 c hc, x3 c hc, lo _ _ (by omega)]
            refine ⟨p1, fun z => ?_, fun z => ?_, fun z => ?_⟩
            · rw [x4 c hc (by omega), x6 c hc z, lo _ _ (by omega), lo _ _ (by omega), lo _ _ (by omega)]
              exact p2 z
            · rw [lo _ _ (by omega)]; exact p3 (by omega)
            · rw [x4 c hc (by omega), lo _ _ (by omega)]; exact p4 z
          · rw [xo 330 x e (by omega) (by omega), xo 331 x e (by omega) (by omega), lo _ _ (by omega), lo _ _ (by omega), v9.I _ _ (by omega), v9.I _ _ (by omega)]
            obtain ⟨b1, b2, b3⟩ := o3 x (by omega)
            obtain ⟨y1, y2, y3⟩ := ow x (by omega)
            refine ⟨b1, b2, fun c hc => ?_⟩
            have := b3 c hc
            rw [xoc x c 332 (by omega) (by omega) (by omega) (by omega), xoc x c 333 (by omega) (by omega) (by omega) (by omega), xoc x c 334 (by omega) (by omega) (by omega) (by omega), xoc x c 335 (by omega) (by omega) (by omega) (by omega), lo _ _ (by omega), lo _ _ (by omega), lo _ _ (by omega), lo _ _ (by omega), lo _ _ (by omega), lo _ _ (by omega), v9.I (rulX x + 1) c (by omega), v9.I (rulX x + 2) c (by omega), v9.I (rulX x + 3) c (by omega), v9.I (rulX x + 4) c (by omega), v9.I (rulX x + 5) c (by omega), v9.I (rulX x + 6) c (by omega)]
            exact this
        · rcases Nat.lt_or_ge k 324 with y | y
          · rw [lo _ _ y]; exact v9.I _ _ (by rcases hp with z | z | z | z | z <;> omega)
          · exact hi2 _ _ y (by rcases hp with z | z | z | z | z <;> omega)
        · rcases Nat.lt_or_ge k 324 with y | y
          · rw [lo _ _ y]; exact v9.I _ _ (by rcases hp with z | z | z | z <;> omega)
          · exact hi2 _ _ y (by rcases hp with z | z | z | z <;> omega)
        · rcases Nat.lt_or_ge k 324 with y | y
          · rw [lo _ _ y]; exact v9.I _ _ (by rcases hp with z | z | z | z | z <;> omega)
          · exact hi2 _ _ y (by rcases hp with z | z | z | z | z <;> omega)
        · obtain ⟨⟨d', a1', a2', a3'⟩, -, -, y, z2, z3, z4, z5⟩ := h.2.2.2.1
          refine ⟨⟨d', a1', (hi2 _ _ (by omega) (by omega)).trans a2', (lo _ _ (by omega)).trans ((v9.I _ _ (by omega)).trans a3')⟩, ⟨0, by omega, u2, (lo _ _ (by omega)).trans q1, fun j hj => by omega⟩, ?_, y, z2, (hi2 _ _ (by omega) (by omega)).trans z3, (lo _ _ (by omega)).trans ((v9.I _ _ (by omega)).trans z4), fun j hj => ?_⟩
          · rw [lo _ _ (by omega), v6, w3]
          · rw [lo _ _ (by omega), v9.I _ _ (by omega), hi2 _ _ (by omega) (by omega)]; exact z5 j hj
      · exact absurd v1 w1
    · rcases u3 with ⟨w1, -⟩ | ⟨w1, w2, w3, w4⟩
      · exact absurd w1 v1
      · refine ⟨w2.trans v2.symm, ?_⟩
        have lo : ∀ k j, k < 324 → rI υ k j = rI τ k j := fun k j hk => w4.I _ _ (by omega)
        have hi2 : ∀ k j, 324 ≤ k → ¬ wRf k j → rI υ k j = rI σ k j := fun k j hk hw => (w4.I _ _ hw).trans (hi _ _ (by omega)).1
        have hpe : ∀ k j, pers k j → rI υ k j = rI σ k j := fun k j hp => hi2 k j (pers_ge hp).1 (fun z => by rcases hp with hp | hp | hp | hp | hp | hp | hp | hp | hp | hp | hp <;> omega)
        refine Inv_fail hK h ?_ hpe ?_ ?_ (fun k j hk => ?_) (fun k j a b => ⟨(lo _ _ (by omega)).trans (v4.I _ _ (by omega)), (w4.L _ _ (by omega)).trans (v4.L _ _ (by omega))⟩) ((w4.2.2 (by omega)).trans (v4.2.2 (by omega))) ?_
        · intro k j hp
          by_cases z0 : scx k j
          · exact u1 k j z0
          · have hp := hp.resolve_right z0
            rw [hpe k j hp]
            exact h.1 k j (Or.inl hp)
        · exact CDt_eq (gT h).1 rfl rfl rfl rfl rfl rfl ((lo _ _ (by omega)).trans (v4.I _ _ (by omega))) (fun k j a b => (lo _ _ (by omega)).trans (v4.I _ _ (by omega))) (gT h).2
        · refine CDr_new (gR h).1 (gR h).2 (by rw [hm]; exact c) ((lo _ _ (by omega)).trans (v4.I _ _ (by omega))) ((lo _ _ (by omega)).trans (v4.I _ _ (by omega))) (fun k j a b hw => ?_)
          rw [hm] at hw
          exact (lo _ _ (by omega)).trans (v4.I _ _ hw)
        · exact (lo _ _ (by omega)).trans (v4.I _ _ (by omega))
        · obtain ⟨⟨d', a1', a2', a3'⟩, -, -, y, z2, z3, z4, z5⟩ := h.2.2.2.1
          refine ⟨⟨d', a1', (hi2 _ _ (by omega) (by omega)).trans a2', (lo _ _ (by omega)).trans ((v4.I _ _ (by omega)).trans a3')⟩, ⟨0, by omega, u2, (lo _ _ (by omega)).trans q1, fun j hj => by omega⟩, ?_, y, z2, (hi2 _ _ (by omega) (by omega)).trans z3, (lo _ _ (by omega)).trans ((v4.I _ _ (by omega)).trans z4), fun j hj => ?_⟩
          · rw [lo _ _ (by omega), v3, w3]
          · rw [lo _ _ (by omega), v4.I _ _ (by omega), hi2 _ _ (by omega) (by omega)]; exact z5 j hj
  · have e24 : dm σ 324 8 = 10 := by omega
    refine ⟨_, ⟨-1, σ, ?_, ?_⟩, Inv_thr hK h 0⟩
    · rw [q_X12_rules, e2, if_neg (show ¬ nI (dm σ 324 8) < 10 from fun z => c ((nI_lt2 (b := 10) (by omega) (by omega)).mp z))]
    · rw [q_X13_rules, m2, e24, if_pos (show nI 10 = 10 from rfl)]
end ORL
