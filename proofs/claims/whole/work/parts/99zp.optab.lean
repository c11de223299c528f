/-! tablet -/
section OTB
variable {K : dD → Nat → jM → Prop} {σ : jM} {D : dD}
theorem md_val9 {σ : jM} {j x : Nat} (hj : j < 1152) (hx : x = 99 ∨ x < 40) (e : rI σ 329 j = pz x) : dm σ 329 j = x := by
  have hp : pers 329 j := by omega
  unfold dm
  rw [if_pos hp, e]
  by_cases c : x = 99
  · subst c
    rw [if_pos ⟨rfl, rfl⟩]
  · rw [pz_n c, if_neg (fun z => (nI_m1 (by omega)).mp z.2), nI_ix (by omega)]
/-- a reading that failed: what was told stays -/
theorem Inv_fail (hK : KX K) {τ : jM} (h : Inv K σ) (hM : MI τ) (hD : ∀ k j, pers k j → rI τ k j = rI σ k j) (hct : CDt (dm σ) τ) (hcr : CDr (dm σ) τ) (hc : ∀ k j, k = 3 ∨ (8 ≤ k ∧ k ≤ 18) ∨ (190 ≤ k ∧ k ≤ 261) → rI τ k j = rI σ k j) (h2 : ∀ k j, 264 ≤ k → k ≤ 323 → rI τ k j = rI σ k j ∧ rL τ k j = rL σ k j) (h4 : τ.2.2 = σ.2.2) (hT : TD τ) : Inv K τ := by
  obtain ⟨a, b, c, d, e⟩ := h
  have hE : dm τ = dm σ := dm_eq hD
  refine ⟨hM, by rw [hE]; exact b, ?_, hT, ?_⟩
  · rw [hE]
    exact ⟨hct, hcr, CDh_eq rfl rfl rfl rfl rfl rfl rfl (hc _ _ (by omega)) (fun k j a b => hc _ _ (by omega)) c.2.2.1, CDs_eq b.2.2.2.1 rfl rfl rfl rfl rfl rfl rfl (hc _ _ (by omega)) (fun k j a b => hc _ _ (by omega)) c.2.2.2.1, CDn_eq b.2.2.2.2 rfl rfl rfl rfl rfl rfl (hc _ _ (by omega)) (fun k j a b => hc _ _ (by omega)) c.2.2.2.2⟩
  · rw [hE]
    rcases e with e | ⟨v, x, e1, e2, e3, e4, e5, e6⟩
    · exact Or.inl ((hc _ _ (by omega)).trans e)
    · exact Or.inr ⟨v, x, e1, e2, (hc _ _ (by omega)).trans e3, (hc _ _ (by omega)).trans e4, ⟨h4.trans e5.1, fun s hs => (hc _ _ (by omega)).trans (e5.2 s hs)⟩, hK _ _ _ _ h2 e6⟩
/-- the cells of the tablet that is read -/
abbrev wtx3 (t k j : Nat) : Prop := (k = 262 ∧ 1 ≤ j ∧ j ≤ 7) ∨ (k = tabX t ∧ (j = 2 ∨ j = 0)) ∨ k = tabX t + 1 ∨ k = tabX t + 2
theorem CDt_new {τ : jM} (hw : DWt D) (h : CDt D σ) (h3 : rI τ 3 2 = rI σ 3 2) (hc : ∀ k j, 28 ≤ k → k ≤ 99 → ¬ wtx3 (D 324 2) k j → rI τ k j = rI σ k j) : CDt D τ := by
  have hT := hw.1
  unfold CDt at h ⊢
  rw [h3]
  refine ⟨h.1, fun t ht => ?_, fun t h1 h2 => ?_⟩
  · have a : tabX t = 28 + 3 * t := rfl
    have b : tabX (D 324 2) = 28 + 3 * D 324 2 := rfl
    rw [hc _ 0 (by omega) (by omega) (by omega), hc _ 1 (by omega) (by omega) (by omega), hc _ 2 (by omega) (by omega) (by omega)]
    obtain ⟨b1, b2, b3, b4⟩ := h.2.1 t ht
    refine ⟨b1, b2, b3, fun w hw => ?_⟩
    rw [hc _ w (by omega) (by omega) (by omega)]
    refine ⟨(b4 w hw).1, fun i hi => ?_⟩
    rw [hc _ _ (by omega) (by omega) (by omega)]
    exact (b4 w hw).2 i hi
  · have a : tabX t = 28 + 3 * t := rfl
    have b : tabX (D 324 2) = 28 + 3 * D 324 2 := rfl
    rw [hc _ 1 (by omega) (by omega) (by omega)]
    exact h.2.2 t h1 h2
abbrev wtxs (t k j : Nat) : Prop := wtx3 t k j ∨ (k = 3 ∧ (j = 2 ∨ j = 10))
/-- between the two halves -/
def HB (n : Nat) (T : Nat → Nat) (t d : Nat) (σ : jM) (r : Int32) (τ : jM) : Prop := rI τ 262 1 = 0 ∧ (((tabR n T 9 0 0).1 = 0 ∧ r = nI t ∧ rI τ (tabX t) 0 = nI d ∧ rI τ (tabX t) 2 = nI (tabR n T 9 0 0).2 ∧ (∀ w, w < (tabR n T 9 0 0).2 → rwd n T t w τ) ∧ rI τ 262 3 = -1 ∧ rI τ 3 2 = nI (t + 1) ∧ rI τ 3 10 = -1 ∧ Fr (wtxs t) σ τ) ∨ ((tabR n T 9 0 0).1 ≠ 0 ∧ r = -1 - nI (tabR n T 9 0 0).1 ∧ rI τ 262 3 = nI (tabR n T 9 0 0).2 ∧ Fr (wtx3 t) σ τ))
theorem c_tablet {n d t : Nat} {T : Nat → Nat} (hT : TPc n T σ) (ht : t < 24) (e2 : rI σ 3 2 = nI t) (e0 : rI σ 3 0 = nI d) : ok (f_X12_tablet σ) (HB n T t d σ) := by
  have hx : 28 ≤ tabX t ∧ tabX t + 2 ≤ 99 := by unfold tabX; omega
  rw [q_X12_tablet, e2, if_pos (show nI t < 24 from (nI_lt2 (b := 24) (by omega) (by omega)).mpr ht), gd_n (by omega) (by omega)]
  simp (disch := omega) only [nI_ix]
  refine ok_bd (c_readTablet hT ht) (fun r τ u => ?_)
  obtain ⟨uF, u⟩ := u
  rcases u with ⟨u1, rfl, u3, u4, u5⟩ | ⟨u1, rfl, u3, u4⟩
  · rw [if_neg (by decide), gd_n (by omega) (by omega)]
    unfold f_X12_forgetView
    have e30 : rI τ 3 0 = nI d := (uF.I _ _ (by omega)).trans e0
    have e32 : rI (wI (wI τ 262 1 0) (tabX t) 0 (nI d)) 3 2 = nI t := by rw [rI_nk (by omega), rI_nk (by omega)]; exact (uF.I _ _ (by omega)).trans e2
    rw [e30, e32, nI_1, bd_some]
    have hF : Fr (wtxs t) σ (wI (wI (wI (wI τ 262 1 0) (tabX t) 0 (nI d)) 3 2 (nI (t + 1))) 3 10 (-1)) := Fr.w (Fr.w (Fr.w (Fr.w (uF.mono (fun k j z => by omega)) (by omega)) (by omega)) (by omega)) (by omega)
    refine ok_ret ⟨by rw [rI_nk (by omega), rI_nk (by omega), rI_nk (by omega), rI_same], Or.inl ⟨u1, rfl, by rw [rI_nk (by omega), rI_nk (by omega), rI_same], by rw [rI_nk (by omega), rI_nk (by omega), rI_nj (by omega), rI_nk (by omega)]; exact u3, fun w hw => ?_, by rw [rI_nk (by omega), rI_nk (by omega), rI_nk (by omega), rI_nj (by omega)]; exact u5, by rw [rI_nj (by omega), rI_same], rI_same _ _ _ _, hF⟩⟩
    obtain ⟨p0, p1, p2⟩ := u4 w hw
    exact ⟨p0, by rw [rI_nk (by omega), rI_nk (by omega), rI_nk (by omega), rI_nk (by omega)]; exact p1, fun j hj => by rw [rI_nk (by omega), rI_nk (by omega), rI_nk (by omega), rI_nk (by omega)]; exact p2 j hj⟩
  · rw [if_pos rfl, u3]
    exact ok_ret ⟨rI_same _ _ _ _, Or.inr ⟨u1, rfl, by rw [rI_nj (by omega)]; exact u4, Fr.w (uF.mono (fun k j z => by omega)) (by omega)⟩⟩
theorem op_tablet (h : Inv K σ) (hK : KX K) (a1 a2 a3 a4 a5 : Int32) : ∃ σ', lw_op 3 a1 a2 a3 a4 a5 σ σ' ∧ Inv K σ' := by
  show ∃ σ', (∃ (r : Int32) (σ1 : jM), f_X12_tablet σ = some (r, σ1) ∧ f_X13_tablet σ1 = some (r, σ')) ∧ Inv K σ'
  obtain ⟨n, T, hT⟩ := TP_of h.2.2.2.1
  obtain ⟨d, hd, ed1, ed2⟩ := h.2.2.2.1.1
  have h24 := (gT h).1.1
  have e2 := (gT h).2.1
  have m2 : rI σ 324 2 = nI (dm σ 324 2) := (md h.1 (by omega) (by omega)).1
  by_cases c : dm σ 324 2 < 24
  · generalize hm : dm σ 324 2 = t at *
    have hxt : tabX t = 28 + 3 * t := rfl
    refine op_mk (c_tablet (d := d) hT.c c e2 ed2) (fun r τ hq => ?_)
    obtain ⟨q1, hq⟩ := hq
    have hFs : Fr (wtxs t) σ τ := by
      rcases hq with ⟨-, -, -, -, -, -, -, -, hF⟩ | ⟨-, -, -, hF⟩
      · exact hF
      · exact hF.mono (fun k j z => Or.inl z)
    have hi : ∀ k j, 264 ≤ k → rI τ k j = rI σ k j ∧ rL τ k j = rL σ k j := fun k j hk => ⟨hFs.I _ _ (by omega), hFs.L _ _ (by omega)⟩
    have hTm : TPm n T τ := TPm_fr hT.m hFs (by omega) (fun j => by omega)
    have hSG : SG τ := SG_fr (SG_of h.1) hFs (fun k j z => by omega)
    refine ok_imp (m_tablet hTm hSG c ((hi _ _ (by omega)).1.trans m2)) (fun r' υ u => ?_)
    obtain ⟨u1, u2, u3⟩ := u
    rcases hq with ⟨v1, v2, v3, v4, v5, v6, v7, v8, v9⟩ | ⟨v1, v2, v3, v4⟩
    · rcases u3 with ⟨w1, w2, w3, w4, w5, w6, w7, w8, w9, w10⟩ | ⟨w1, -⟩
      · refine ⟨w2.trans v2.symm, ?_⟩
        obtain ⟨-, r2, r3, -⟩ := tabR_ok (n := n) (T := T) (k := 9) (i := 0) (R := tabR n T 9 0 0) rfl w1 (by omega)
        generalize tabR n T 9 0 0 = R at *
        have lo : ∀ k j, k < 324 → rI υ k j = rI τ k j := fun k j hk => w10.I _ _ (by omega)
        have hi2 : ∀ k j, 324 ≤ k → ¬ wTs t k j → rI υ k j = rI σ k j := fun k j hk hw => (w10.I _ _ hw).trans (hi _ _ (by omega)).1
        have x1 : dm υ 324 2 = t + 1 := md_val (by omega) (by omega) (by omega) w4
        have x5 : dm υ 325 t = d := md_val (by omega) (by omega) (by omega) (by rw [w5, (hi _ _ (by omega)).1]; exact ed1)
        have x6 : dm υ 326 t = 1000000 := md_val (by omega) (by omega) (by omega) w6
        have x7 : dm υ 327 t = R.2 := md_val (by omega) (by omega) (by omega) w7
        have x8 : ∀ w, w < R.2 → dm υ 328 (8 * t + w) = (rowR n T 7 (rst n T w) 0).2.1 := fun w hw => by
          obtain ⟨p0, p1, p2⟩ := w8 w hw
          have := (row_ok p0).2.1
          exact md_val (by omega) (by omega) (by omega) p1
        have x9 : ∀ w, w < R.2 → ∀ j, j < (rowR n T 7 (rst n T w) 0).2.1 → dm υ 329 (6 * (8 * t + w) + j) = plv n T (cu n T (rst n T w) j) := fun w hw j hj => by
          obtain ⟨p0, p1, p2⟩ := w8 w hw
          have h6 := (row_ok p0).2.1
          exact md_val9 (by omega) ((row_ok p0).2.2.2 j hj) (p2 j hj)
        have xo : ∀ k i, i ≠ t → (k = 325 ∨ k = 326 ∨ k = 327) → i < 24 → dm υ k i = dm σ k i := fun k i hi' hk h24 => dm_pt (hi2 _ _ (by omega) (by omega))
        have xo8 : ∀ x w, x < t → w < 8 → dm υ 328 (8 * x + w) = dm σ 328 (8 * x + w) := fun x w hx hw => dm_pt (hi2 _ _ (by omega) (by omega))
        have xo9 : ∀ x w j, x < t → w < 8 → j < 6 → dm υ 329 (6 * (8 * x + w) + j) = dm σ 329 (6 * (8 * x + w) + j) := fun x w j hx hw hj => dm_pt (hi2 _ _ (by omega) (by omega))
        have hMI : MI υ := by
          intro k j hp
          by_cases z0 : scx k j
          · exact u1 k j z0
          have hp := hp.resolve_right z0
          by_cases z1 : k = 324 ∧ j = 2
          · obtain ⟨rfl, rfl⟩ := z1; rw [w4]; exact ⟨fun _ => nI_pos' (by omega), fun z => absurd z (by decide)⟩
          by_cases z2 : k = 325 ∧ j = t
          · obtain ⟨rfl, rfl⟩ := z2; rw [w5, (hi _ _ (by omega)).1, ed1]; exact ⟨fun _ => nI_pos' (by omega), fun z => absurd z (by decide)⟩
          by_cases z3 : k = 326 ∧ j = t
          · obtain ⟨rfl, rfl⟩ := z3; rw [w6]; exact ⟨fun _ => nI_pos' (by omega), fun z => absurd z (by decide)⟩
          by_cases z4 : k = 327 ∧ j = t
          · obtain ⟨rfl, rfl⟩ := z4; rw [w7]; exact ⟨fun _ => nI_pos' (by omega), fun z => absurd z (by decide)⟩
          by_cases z5 : k = 328 ∧ 8 * t ≤ j ∧ j < 8 * t + 8
          · obtain ⟨rfl, z5, z6⟩ := z5
            have := (w9 (j - 8 * t) (by omega)).1
            rw [show 8 * t + (j - 8 * t) = j by omega] at this
            exact ⟨fun _ => this, fun z => absurd z (by decide)⟩
          by_cases z7 : k = 329 ∧ 48 * t ≤ j ∧ j < 48 * t + 48
          · obtain ⟨rfl, z5, z6⟩ := z7
            have := (w9 ((j - 48 * t) / 6) (by omega)).2 ((j - 48 * t) % 6) (by omega)
            rw [show 6 * (8 * t + (j - 48 * t) / 6) + (j - 48 * t) % 6 = j by omega] at this
            exact ⟨fun z => absurd rfl z, fun _ => this⟩
          rw [hi2 k j (pers_ge hp).1 (fun z => ?_)]
          · exact h.1 k j (Or.inl hp)
          · have := pers_ge hp
            rcases z with z | z | z
            · rcases z with z | z | z | z
              · omega
              · rcases hp with hp | hp | hp | hp | hp | hp | hp | hp | hp | hp | hp <;> omega
              · rcases hp with hp | hp | hp | hp | hp | hp | hp | hp | hp | hp | hp <;> omega
              · rcases hp with hp | hp | hp | hp | hp | hp | hp | hp | hp | hp | hp <;> omega
            · rcases z with z | z | z | z | z
              · exact z5 z
              · exact z7 z
              · exact z2 z
              · exact z3 z
              · exact z1 z
            · exact z4 z
        refine Inv_mut hMI ⟨?_, ?_⟩ (keepR (fun k j hp => ?_) (gR h)) (keepH (fun k j hp => ?_) (gH h)) (keepS (fun k j hp => ?_) (gS h)) (keepN (fun k j hp => ?_) (by rw [x1, hm]; omega) (gN h)) ?_ ((lo _ _ (by omega)).trans v8)
        · obtain ⟨o1, o2, o3⟩ := (gT h).1
          rw [hm] at o2
          unfold DWt
          rw [x1]
          refine ⟨by omega, fun x hx => ?_, fun p hp => (md9 hMI hp).2⟩
          by_cases e : x = t
          · subst e
            rw [x5, x6, x7]
            refine ⟨hd, Or.inl rfl, r2, r3, fun w hw => ?_⟩
            obtain ⟨p0, -, -⟩ := w8 w hw
            rw [x8 w hw]
            exact ⟨(row_ok p0).1, (row_ok p0).2.1⟩
          · rw [xo 325 x e (by omega) (by omega), xo 326 x e (by omega) (by omega), xo 327 x e (by omega) (by omega)]
            obtain ⟨b1, b2, b3, b4, b5⟩ := o2 x (by omega)
            exact ⟨b1, b2, b3, b4, fun w hw => by rw [xo8 x w (by omega) (by omega)]; exact b5 w hw⟩
        · obtain ⟨o1, o2, o3⟩ := (gT h).2
          have ow := (gT h).1.2.1
          rw [hm] at o2 o3 ow
          unfold CDt
          rw [x1]
          refine ⟨(lo _ _ (by omega)).trans v7, fun x hx => ?_, fun x h1 h2 => ?_⟩
          · have hxx : tabX x = 28 + 3 * x := rfl
            by_cases e : x = t
            · subst e
              rw [x5, x6, x7, lo _ _ (by omega), lo _ _ (by omega), lo _ _ (by omega)]
              refine ⟨v3, Or.inl ⟨rfl, ?_⟩, v4, fun w hw => ?_⟩
              · rw [v9.I _ _ (by omega)]
                exact o3 x c (Nat.le_refl _)
              · obtain ⟨p0, p1, p2⟩ := v5 w hw
                rw [x8 w hw, lo _ _ (by omega)]
                exact ⟨p1, fun i hi' => by rw [lo _ _ (by omega), x9 w hw i hi']; exact p2 i hi'⟩
            · rw [xo 325 x e (by omega) (by omega), xo 326 x e (by omega) (by omega), xo 327 x e (by omega) (by omega), lo _ _ (by omega), lo _ _ (by omega), lo _ _ (by omega), v9.I _ _ (by omega), v9.I _ _ (by omega), v9.I _ _ (by omega)]
              obtain ⟨b1, b2, b3, b4⟩ := o2 x (by omega)
              obtain ⟨y1, y2, y3, y4, y5⟩ := ow x (by omega)
              refine ⟨b1, b2, b3, fun w hw => ?_⟩
              have := y5 w hw
              rw [xo8 x w (by omega) (by omega), lo _ _ (by omega), v9.I _ _ (by omega)]
              exact ⟨(b4 w hw).1, fun i hi' => by rw [xo9 x w i (by omega) (by omega) (by omega), lo _ _ (by omega), v9.I _ _ (by omega)]; exact (b4 w hw).2 i hi'⟩
          · have hxx : tabX x = 28 + 3 * x := rfl
            rw [lo _ _ (by omega), v9.I _ _ (by omega)]
            exact o3 x h1 (by omega)
        · rcases Nat.lt_or_ge k 324 with y | y
          · rw [lo _ _ y]; exact v9.I _ _ (by rcases hp with z | z | z | z | z | z <;> omega)
          · exact hi2 _ _ y (by rcases hp with z | z | z | z | z | z <;> omega)
        · rcases Nat.lt_or_ge k 324 with y | y
          · rw [lo _ _ y]; exact v9.I _ _ (by rcases hp with z | z | z | z | z <;> omega)
          · exact hi2 _ _ y (by rcases hp with z | z | z | z | z <;> omega)
        · rcases Nat.lt_or_ge k 324 with y | y
          · rw [lo _ _ y]; exact v9.I _ _ (by rcases hp with z | z | z | z <;> omega)
          · exact hi2 _ _ y (by rcases hp with z | z | z | z <;> omega)
        · rcases Nat.lt_or_ge k 324 with y | y
          · rw [lo _ _ y]; exact v9.I _ _ (by rcases hp with z | z | z | z | z <;> omega)
          · exact hi2 _ _ y (by rcases hp with z | z | z | z | z <;> omega)
        · obtain ⟨⟨d', a1', a2', a3'⟩, -, -, y, x2, x3, x4, x5'⟩ := h.2.2.2.1
          refine ⟨⟨d', a1', (hi2 _ _ (by omega) (by omega)).trans a2', (lo _ _ (by omega)).trans ((v9.I _ _ (by omega)).trans a3')⟩, ⟨0, by omega, u2, (lo _ _ (by omega)).trans q1, fun j hj => by omega⟩, ?_, y, x2, (hi2 _ _ (by omega) (by omega)).trans x3, (lo _ _ (by omega)).trans ((v9.I _ _ (by omega)).trans x4), fun j hj => ?_⟩
          · rw [lo _ _ (by omega), v6, w3]
          · rw [lo _ _ (by omega), v9.I _ _ (by omega), hi2 _ _ (by omega) (by omega)]; exact x5' j hj
      · exact absurd v1 w1
    · rcases u3 with ⟨w1, -⟩ | ⟨w1, w2, w3, w4⟩
      · exact absurd w1 v1
      · refine ⟨w2.trans v2.symm, ?_⟩
        have lo : ∀ k j, k < 324 → rI υ k j = rI τ k j := fun k j hk => w4.I _ _ (by omega)
        have hi2 : ∀ k j, 324 ≤ k → ¬ wTf k j → rI υ k j = rI σ k j := fun k j hk hw => (w4.I _ _ hw).trans (hi _ _ (by omega)).1
        have hpe : ∀ k j, pers k j → rI υ k j = rI σ k j := fun k j hp => hi2 k j (pers_ge hp).1 (fun z => by rcases hp with hp | hp | hp | hp | hp | hp | hp | hp | hp | hp | hp <;> omega)
        refine Inv_fail hK h ?_ hpe ?_ ?_ (fun k j hk => ?_) (fun k j a b => ⟨(lo _ _ (by omega)).trans (v4.I _ _ (by omega)), (w4.L _ _ (by omega)).trans (v4.L _ _ (by omega))⟩) ((w4.2.2 (by omega)).trans (v4.2.2 (by omega))) ?_
        · intro k j hp
          by_cases z0 : scx k j
          · exact u1 k j z0
          · have hp := hp.resolve_right z0
            rw [hpe k j hp]
            exact h.1 k j (Or.inl hp)
        · refine CDt_new (gT h).1 (gT h).2 ((lo _ _ (by omega)).trans (v4.I _ _ (by omega))) (fun k j a b hw => ?_)
          rw [hm] at hw
          exact (lo _ _ (by omega)).trans (v4.I _ _ hw)
        · exact CDr_eq (gR h).1 rfl rfl rfl rfl rfl rfl rfl ((lo _ _ (by omega)).trans (v4.I _ _ (by omega))) ((lo _ _ (by omega)).trans (v4.I _ _ (by omega))) (fun k j a b i => (lo _ _ (by omega)).trans (v4.I _ _ (by omega))) (gR h).2
        · exact (lo _ _ (by omega)).trans (v4.I _ _ (by omega))
        · obtain ⟨⟨d', a1', a2', a3'⟩, -, -, y, x2, x3, x4, x5'⟩ := h.2.2.2.1
          refine ⟨⟨d', a1', (hi2 _ _ (by omega) (by omega)).trans a2', (lo _ _ (by omega)).trans ((v4.I _ _ (by omega)).trans a3')⟩, ⟨0, by omega, u2, (lo _ _ (by omega)).trans q1, fun j hj => by omega⟩, ?_, y, x2, (hi2 _ _ (by omega) (by omega)).trans x3, (lo _ _ (by omega)).trans ((v4.I _ _ (by omega)).trans x4), fun j hj => ?_⟩
          · rw [lo _ _ (by omega), v3, w3]
          · rw [lo _ _ (by omega), v4.I _ _ (by omega), hi2 _ _ (by omega) (by omega)]; exact x5' j hj
  · have e24 : dm σ 324 2 = 24 := by omega
    refine ⟨_, ⟨-1, σ, ?_, ?_⟩, Inv_thr hK h 0⟩
    · rw [q_X12_tablet, e2, if_neg (show ¬ nI (dm σ 324 2) < 24 from fun z => c ((nI_lt2 (b := 24) (by omega) (by omega)).mp z))]
    · rw [q_X13_tablet, m2, e24, if_pos (show nI 24 = 24 from rfl)]
end OTB
