/-! clash, reason -/
section OPC
variable {σ : jM} {W B P : dD → Nat → jM → Prop} {D : dD}
theorem c_clash {v : Nat} (hS : SK GK CK W B P) (h : Vw (KK GK CK W B P) v σ) (hG : GK (dm σ) v σ) : ok (f_X2_make σ) (fun _ τ => Vw (KK GK CK W B P) v τ ∧ dm τ = dm σ ∧ rI τ 3 0 = rI σ 3 0 ∧ CK (dm σ) v τ) := by
  obtain ⟨k1, k2, k3, k4, k5⟩ := h.2.2.2.2.1
  by_cases c : rI σ 289 0 = 0
  · refine ok_imp (c_clash0 h.1.2.1 hG c) (fun _ τ hh => ?_)
    obtain ⟨h1, h3⟩ := hh
    have hk : KK GK CK W B P (dm σ) v τ := ⟨k1.imp (fun z => (h3.I _ _ (by omega)).trans z) (hS.1 _ _ _ _ (fun k j hr => ⟨h3.I _ _ (by omega), h3.L _ _ (by omega)⟩)), Or.inr h1, k3.imp (fun z => (h3.I _ _ (by omega)).trans z) (hS.2.2.1 _ _ _ _ (fun k j hr => ⟨h3.I _ _ (by omega), h3.L _ _ (by omega)⟩)), k4.imp (fun z => (h3.I _ _ (by omega)).trans z) (hS.2.2.2.1 _ _ _ _ (fun k j hr => ⟨h3.I _ _ (by omega), h3.L _ _ (by omega)⟩)), k5.imp (fun z => (h3.I _ _ (by omega)).trans z) (hS.2.2.2.2 _ _ _ _ (fun k j hr => ⟨h3.I _ _ (by omega), h3.L _ _ (by omega)⟩))⟩
    obtain ⟨i1, i2, i3⟩ := Vw_upd h h3 (fun k j z => ⟨ccr_hi (by omega), by omega, by omega⟩) hk
    exact ⟨i1, i2, i3, h1⟩
  · unfold f_X2_make
    rw [if_neg c]
    exact ok_ret ⟨h, rfl, rfl, k2.resolve_left c⟩
/-! the reference walks -/
def TM (D : dD) (v o a b n0 d : Nat) (σ : jM) : Prop := ∀ i, i < d → rI σ 358 (3 * (n0 + i)) = nI o ∧ rI σ 358 (3 * (n0 + i) + 1) = nI (pth D v o a b i) ∧ rI σ 358 (3 * (n0 + i) + 2) = nI (pth D v o a b (i + 1))
abbrev wwk (k j : Nat) : Prop := k = 356 ∨ k = 358 ∨ (k = 324 ∧ j = 53)
theorem nI_prd {a b : Nat} (hb : b < 2147483647) (ha : a < 2147483647) : nI a = nI (b + 1) - 1 ↔ a = b := by
  rw [show nI (b + 1) - 1 = nI b from by rw [nI_zi, nI_zi, show (1 : Int32) = zi 1 from rfl, zi_sub]; congr 1; omega, nI_eq2 (by omega) (by omega)]
theorem m_walks (hw : DW D) {v o a b n0 : Nat} (ho : o < 2) (ha : a < 40) (hb : b < 40) (h : Rc (lk D v o) b a) (hn0 : n0 ≤ 40) (hA : AM σ 352 (lk D v)) (h5 : rI σ 324 53 = nI n0) : ok (f_X13_walks (nI o) (nI a) (nI b) σ) (fun _ τ => rI τ 324 53 = nI (n0 + ds D v o b a) ∧ TM D v o a b n0 (ds D v o b a) τ ∧ (∀ j, j < 3 * n0 → rI τ 358 j = rI σ 358 j) ∧ Fr wwk σ τ) := by
  have hd := (ds_cases hw (v := v) (o := o) ho hb a).resolve_right (fun w => w.1 h)
  unfold f_X13_walks
  refine ok_bd (m_findFar hA (fun o a b ho z => lk_b hw ho a b z) ho hb) (fun _ τ1 g1 => ?_)
  refine L_X13_walks_9 (ds D v o b a) (fun i l4 τ => l4 = nI (pth D v o a b i) ∧ rI τ 324 53 = nI (n0 + i) ∧ TM D v o a b n0 i τ ∧ (∀ j, j < 3 * n0 → rI τ 358 j = rI σ 358 j) ∧ Fr (fun k j => k = 358 ∨ (k = 324 ∧ j = 53)) τ1 τ) (by omega) (fun i q l4 τ hk hI hq => ?_) (Nat.zero_le _) ⟨rfl, (g1.2.I _ _ (by omega)).trans h5, fun i hi => by omega, fun j hj => g1.2.I _ _ (by omega), Fr.refl⟩
  obtain ⟨rfl, e5, hT, hO, hF⟩ := hI
  obtain ⟨p1, p2, p3⟩ := pth_spec hw ho ha h (i := i) hk
  unfold s_X13_walks_9
  rw [ite_iff (nI_eq2 (by omega) (by omega))]
  refine ok_ite (fun z => ?_) (fun z => ?_)
  · rw [z] at p2
    have : ds D v o b b = 0 := dst_self _ _
    have e : i = ds D v o b a := by omega
    subst e
    exact ok_ret ⟨e5, hT, hO, (g1.2.mono (fun k j e => by omega)).trans (hF.mono (fun k j e => by omega))⟩
  · have hi : i < ds D v o b a := by
      rcases Nat.lt_or_ge i (ds D v o b a) with w | w
      · exact w
      · exact absurd (dst_0 p1 (show ds D v o b (pth D v o a b i) = 0 by omega)).symm z
    obtain ⟨g2, g3, g4, g5⟩ := nx_spec hw ho p1 (n := ds D v o b a - i - 1) (by omega)
    have hlt := (lk_b hw ho _ _ g2).2
    have ef : ∀ s, s < 40 → rI τ 356 s = nI (ds D v o b s) := fun s hs => (hF.I _ _ (by omega)).trans (g1.1 s hs)
    have hA' : AM τ 352 (lk D v) := fun o' ho' s hs t ht => (hF.I _ _ (by omega)).trans ((g1.2.I _ _ (by omega)).trans (hA o' ho' s hs t ht))
    refine L_X13_walks_18 (nx D v o b (pth D v o a b i)) (fun t l5 τ' => l5 = nI t ∧ τ' = τ) (by omega) (fun t q2 l5 τ' hk2 hI2 hq2 => ?_) (Nat.zero_le _) ⟨rfl, rfl⟩
    obtain ⟨rfl, rfl⟩ := hI2
    unfold s_X13_walks_18 f_X13_walks_59
    rw [li1600, li40, pk_mul, pk_mul, nI_add, nI_add, gd_n (by omega) (by omega)]
    simp (disch := omega) only [nI_ix]
    rw [hA' o ho _ p3 t (by omega)]
    have no : ¬ (lk D v o (pth D v o a b i) t ∧ ds D v o b t = ds D v o b a - i - 1) → ok (q2 (nI o) (nI b) (nI (pth D v o a b i)) (nI t + 1) τ') (fun _ τ => rI τ 324 53 = nI (n0 + ds D v o b a) ∧ TM D v o a b n0 (ds D v o b a) τ ∧ (∀ j, j < 3 * n0 → rI τ 358 j = rI σ 358 j) ∧ Fr wwk σ τ) := fun y => by
      refine hq2 (t + 1) _ _ (by omega) ?_ ⟨nI_1 t, rfl⟩
      rcases Nat.lt_or_ge t (nx D v o b (pth D v o a b i)) with w | w
      · exact w
      · have e : t = nx D v o b (pth D v o a b i) := by omega
        rw [e] at y
        exact absurd ⟨g2, g3⟩ y
    refine ok_ite (fun z1 => no (fun y => bJ_0.mp z1 y.1)) (fun z1 => ?_)
    have z1 : lk D v o (pth D v o a b i) t := Classical.byContradiction (fun w => z1 (bJ_0.mpr w))
    have hdt := ds_cases hw (v := v) (o := o) ho hb t
    rw [gd_n (by omega) (by omega), gd_n p3 (by omega), ef t (by omega), ef _ p3, p2, show ds D v o b a - i = (ds D v o b a - i - 1) + 1 by omega, ite_iff (nI_prd (by omega) (by omega))]
    refine ok_ite (fun z2 => ?_) (fun z2 => no (fun y => z2 y.2))
    have e : t = nx D v o b (pth D v o a b i) := by have := g5 t z1 z2; omega
    rw [show (3 : Int32) = nI 3 from rfl, show (2 : Int32) = nI 2 from rfl]
    simp (disch := omega) only [rI_nk, e5, pk_mul, nI_add, nI_1, gd_n, nI_ix]
    subst e
    refine hq (i + 1) _ _ (by omega) (by omega) ⟨rfl, ?_, fun i' hi' => ?_, fun j hj => ?_, Fr.w (Fr.w (Fr.w (Fr.w hF (Or.inl rfl)) (Or.inl rfl)) (Or.inl rfl)) (Or.inr ⟨rfl, rfl⟩)⟩
    · rw [rI_same, Nat.add_assoc]
    · by_cases e : i' = i
      · subst e
        refine ⟨?_, ?_, ?_⟩
        · rw [rI_nk (by omega), rI_nj (by omega), rI_nj (by omega), rI_same]
        · rw [rI_nk (by omega), rI_nj (by omega), rI_same]
        · rw [rI_nk (by omega), rI_same]; rfl
      · obtain ⟨q1, q2, q3⟩ := hT i' (by omega)
        refine ⟨?_, ?_, ?_⟩
        · rw [rI_nk (by omega), rI_nj (by omega), rI_nj (by omega), rI_nj (by omega)]; exact q1
        · rw [rI_nk (by omega), rI_nj (by omega), rI_nj (by omega), rI_nj (by omega)]; exact q2
        · rw [rI_nk (by omega), rI_nj (by omega), rI_nj (by omega), rI_nj (by omega)]; exact q3
    · rw [rI_nk (by omega), rI_nj (by omega), rI_nj (by omega), rI_nj (by omega)]; exact hO j hj
theorem rlen_le (hw : DW D) {v : Nat} {x : cT} (h1 : cok x) (h2 : crc D v x) : rlen D v x ≤ 78 := by
  unfold rlen
  by_cases c : x.2.2.2.1 = 1000000
  · rw [if_pos c]; omega
  · rw [if_neg c]
    obtain ⟨x1, x2, x3, x4⟩ := h1.resolve_left c
    have h2 := h2.resolve_left c
    rcases x4 with ⟨k, s⟩ | ⟨k, s⟩
    · rw [if_pos k]
      have d0 := (ds_cases hw (v := v) (o := 0) (by omega) x2 x.1).resolve_right (fun w => w.1 (h2 0 (by omega) (Or.inl k)))
      have d1 := (ds_cases hw (v := v) (o := 1) (by omega) x2 x.1).resolve_right (fun w => w.1 (h2 1 (by omega) (Or.inl k)))
      omega
    · rw [if_neg (by omega)]
      have d0 := (ds_cases hw (v := v) (o := x.2.2.2.2) (by omega) x2 x.1).resolve_right (fun w => w.1 (h2 _ (by omega) (Or.inr rfl)))
      omega
abbrev wrs (k j : Nat) : Prop := wfc k j ∨ wwk k j
theorem wfc_scr {k j : Nat} (h : wrs k j) : scr k j := by
  rcases h with (h | h | h | h) | h | h | h
  · exact wlks_scr h
  · exact Or.inr (Or.inr (Or.inr (Or.inr (Or.inr (Or.inr (Or.inr (Or.inl (by omega))))))))
  · exact Or.inr (Or.inr (Or.inr (Or.inr (Or.inr (Or.inr (Or.inr (Or.inl (by omega))))))))
  · exact Or.inl (by omega)
  · exact Or.inr (Or.inr (Or.inr (Or.inr (Or.inr (Or.inr (Or.inr (Or.inl (by omega))))))))
  · exact Or.inr (Or.inr (Or.inr (Or.inr (Or.inr (Or.inr (Or.inr (Or.inl (by omega))))))))
  · exact Or.inl (by omega)
/-- what of the clash is asked for -/
def cfld (x : cT) (a : Int32) : Int32 := if a = 0 then nI x.1 else if a = 1 then nI x.2.1 else if a = 2 then nI x.2.2.1 else if a = 3 then nI x.2.2.2.1 else -1
theorem op_clash (h : Inv (KK GK CK W B P) σ) (hS : SK GK CK W B P) (a1 a2 a3 a4 a5 : Int32) : ∃ σ', lw_op 15 a1 a2 a3 a4 a5 σ σ' ∧ Inv (KK GK CK W B P) σ' := by
  have hK := KK_KX hS
  show ∃ σ', (∃ (r : Int32) (σ1 : jM), f_X12_clash a1 a2 σ = some (r, σ1) ∧ f_X13_clash a1 a2 σ1 = some (r, σ')) ∧ Inv (KK GK CK W B P) σ'
  refine op_q (σ := σ) hK (R := fun r => (∃ v, v ≤ 100000 ∧ a1 = nI v ∧ kn σ a1 ∧ r = (if (cst (dm σ) v 1600).2.2.2.1 = 1000000 then -1 else cfld (cst (dm σ) v 1600) a2)) ∨ (r = -1 ∧ ¬ kn σ a1)) ?_ ?_
  · unfold f_X12_clash
    refine ok_bd (c_seeGrid hS h a1) (fun r τ hh => ?_)
    obtain ⟨rfl, h1, h2, h3, h4⟩ := hh
    have e30 : rI τ 3 0 = rI σ 3 0 := h3.I _ _ (fun z => by have := ccr_ge z; omega)
    rw [ite_bI]
    refine ok_ite (fun c3 => ?_) (fun c3 => ok_ret ⟨h1, h2, e30, Or.inr ⟨rfl, c3⟩⟩)
    obtain ⟨v, rfl, hV, hG⟩ := h4 c3
    refine ok_bd (c_clash hS hV hG) (fun _ τ1 hh => ?_)
    obtain ⟨j1, j2, j3, j4⟩ := hh
    rw [h2] at j4
    have hok := cst_ok h.2.1 v 1600
    have e30' := j3.trans e30
    have hD' := j2.trans h2
    unfold CK at j4
    generalize hx : cst (dm σ) v 1600 = x at j4 hok
    rw [j4.1]
    by_cases c : x.2.2.2.1 = 1000000
    · rw [if_pos c, if_pos rfl]
      exact ok_ret ⟨j1.1, hD', e30', Or.inl ⟨v, hV.2.1, rfl, c3, by rw [hx, if_pos c]⟩⟩
    · obtain ⟨x1, x2, x3, x4⟩ := hok.resolve_left c
      obtain ⟨y1, y2, y3⟩ := j4.2.1 (by omega)
      rw [if_neg c, if_neg (show ¬ nI x.2.2.1 = -1 from fun z => (nI_m1 (by omega)).mp z), y1, y2, y3]
      have fin : ∀ r, r = cfld x a2 → ok (some (r, τ1)) (fun r τ => Inv (KK GK CK W B P) τ ∧ dm τ = dm σ ∧ rI τ 3 0 = rI σ 3 0 ∧ ((∃ v', v' ≤ 100000 ∧ nI v = nI v' ∧ kn σ (nI v) ∧ r = (if (cst (dm σ) v' 1600).2.2.2.1 = 1000000 then -1 else cfld (cst (dm σ) v' 1600) a2)) ∨ (r = -1 ∧ ¬ kn σ (nI v)))) := fun r hr => ok_ret ⟨j1.1, hD', e30', Or.inl ⟨v, hV.2.1, rfl, c3, by rw [hx, if_neg c]; exact hr⟩⟩
      unfold cfld at fin
      refine ok_ite (fun z => fin _ (by rw [if_pos z])) (fun z0 => ok_ite (fun z => fin _ (by rw [if_neg z0, if_pos z])) (fun z1 => ok_ite (fun z => fin _ (by rw [if_neg z0, if_neg z1, if_pos z])) (fun z2 => ok_ite (fun z => fin _ (by rw [if_neg z0, if_neg z1, if_neg z2, if_pos z])) (fun z3 => fin _ (by rw [if_neg z0, if_neg z1, if_neg z2, if_neg z3])))))
  · intro r τ hI hD e30 hR
    unfold f_X13_clash f_X13_clash_30 f_X13_clash_71
    have hM := MD_thr hI
    rw [hD] at hM
    have hw := hI.2.1
    rw [hD] at hw
    have fin : ok (some ((-1 : Int32), wI τ 324 0 0)) (fun r' τ' => r' = -1 ∧ Fr scr τ τ') := ok_ret ⟨rfl, Fr_thr τ 0⟩
    rw [m_known hI, bd_some, ite_bI, e30]
    rcases hR with ⟨v, hv, rfl, c3, rfl⟩ | ⟨rfl, hno⟩
    · rw [if_pos c3, e_within, bd_some, ite_bI]
      refine ok_ite (fun c2 => ?_) (fun c2 => ?_)
      · refine ok_bd (m_findClash hw hM hv) (fun r τ1 g => ?_)
        obtain ⟨rfl, g2, -, g4⟩ := g
        have hok := cst_ok hw v 1600
        generalize hx : cst (dm σ) v 1600 = x at *
        rw [ite_bI]
        have hF : Fr scr τ τ1 := thr_scr g4 (fun k j z => wfc_scr (Or.inl z))
        by_cases c : x.2.2.2.1 = 1000000
        · rw [if_neg (by omega), if_pos c]
          exact ok_ret ⟨rfl, hF⟩
        · obtain ⟨x1, x2, x3, x4⟩ := hok.resolve_left c
          obtain ⟨y1, y2, y3, y4⟩ := g2.2 (by omega)
          rw [if_pos (by omega), if_neg c, y1, y2, y3, g2.1]
          obtain ⟨f, hf, rfl⟩ := i_le (n := 3) c2.1 c2.2 (by omega)
          unfold cfld
          refine ok_ite (fun z => ok_ret ⟨by rw [if_pos z], hF⟩) (fun z0 => ok_ite (fun z => ok_ret ⟨by rw [if_neg z0, if_pos z], hF⟩) (fun z1 => ok_ite (fun z => ok_ret ⟨by rw [if_neg z0, if_neg z1, if_pos z], hF⟩) (fun z2 => ok_ret ⟨?_, hF⟩)))
          rw [if_neg z0, if_neg z1, if_neg z2, if_pos]
          rcases (by omega : f = 0 ∨ f = 1 ∨ f = 2 ∨ f = 3) with rfl | rfl | rfl | rfl
          · exact absurd rfl z0
          · exact absurd rfl z1
          · exact absurd rfl z2
          · rfl
      · have e : cfld (cst (dm σ) v 1600) a2 = -1 := by
          unfold cfld
          rw [if_neg (fun z => c2 (by subst z; decide)), if_neg (fun z => c2 (by subst z; decide)), if_neg (fun z => c2 (by subst z; decide)), if_neg (fun z => c2 (by subst z; decide))]
        rw [e]
        refine ok_ret ⟨?_, Fr_thr τ 0⟩
        split <;> rfl
    · rw [if_neg hno]
      exact fin
/-- what of a link of the reason is asked for -/
noncomputable def rfld (D : dD) (v : Nat) (x : cT) (n : Nat) (a : Int32) : Int32 := if a = 0 then nI (rsn D v x n).1 else if a = 1 then nI (rsn D v x n).2.1 else if a = 2 then nI (rsn D v x n).2.2 else -1
theorem m_reason (hw : DW D) {v : Nat} {x : cT} (hok : cok x) (hrc : crc D v x) (hx : x.2.2.2.1 < 1000000) (hC : MC x σ) (hL : ML D v σ) {Q : Int32 → jM → Prop} {a2 a3 : Int32} (hq : ∀ τ, Fr wwk σ τ → rI τ 324 53 = nI (rlen D v x) → (∀ i, i < rlen D v x → rI τ 358 (3 * i) = nI (rsn D v x i).1 ∧ rI τ 358 (3 * i + 1) = nI (rsn D v x i).2.1 ∧ rI τ 358 (3 * i + 2) = nI (rsn D v x i).2.2) → ok (f_X13_reason_94 a2 a3 τ) Q) : ok (if (rI σ 324 49) = 1 then f_X13_reason_52 a2 a3 (wI σ 324 53 0) else (if (rI σ 324 51) = 0 then f_X13_reason_52 a2 a3 (wI σ 324 53 0) else f_X13_reason_65 a2 a3 (wI σ 324 53 0))) Q := by
  obtain ⟨x1, x2, x3, x4⟩ := hok.resolve_left (by omega)
  have hrc := hrc.resolve_left (by omega)
  obtain ⟨y1, y2, y3, y4⟩ := hC.2 hx
  have hA : ∀ τ, Fr wwk σ τ → AM τ 352 (lk D v) := fun τ hF o' ho' s hs t ht => (hF.I _ _ (by omega)).trans (hL.2.2.1 o' ho' s hs t ht)
  have z1 : ∀ τ, Fr wwk σ τ → rI τ 324 47 = nI x.1 := fun τ hF => (hF.I _ _ (by omega)).trans y1
  have z2 : ∀ τ, Fr wwk σ τ → rI τ 324 48 = nI x.2.1 := fun τ hF => (hF.I _ _ (by omega)).trans y2
  have z3 : ∀ τ, Fr wwk σ τ → rI τ 324 49 = nI x.2.2.1 := fun τ hF => (hF.I _ _ (by omega)).trans y3
  have z4 : ∀ τ, Fr wwk σ τ → rI τ 324 51 = nI x.2.2.2.2 := fun τ hF => (hF.I _ _ (by omega)).trans y4
  have hF0 : Fr wwk σ (wI σ 324 53 0) := Fr.w Fr.refl (by omega)
  rw [y3, y4, ite_iff (show nI x.2.2.1 = 1 ↔ x.2.2.1 = 1 from nI_eq2 (b := 1) (by omega) (by omega)), ite_iff (show nI x.2.2.2.2 = 0 ↔ x.2.2.2.2 = 0 from nI_eq2 (b := 0) (by omega) (by omega))]
  unfold f_X13_reason_52 f_X13_reason_65 f_X13_reason_81
  rw [z1 _ hF0, z2 _ hF0, z3 _ hF0, z4 _ hF0]
  by_cases ck : x.2.2.1 = 1
  · have r0 := hrc 0 (by omega) (Or.inl ck)
    have r1 := hrc 1 (by omega) (Or.inl ck)
    have d0 := (ds_cases hw (v := v) (o := 0) (by omega) x2 x.1).resolve_right (fun w => w.1 r0)
    have el : rlen D v x = ds D v 0 x.2.1 x.1 + ds D v 1 x.2.1 x.1 := by unfold rlen; rw [if_neg (by omega), if_pos ck]
    rw [if_pos ck]
    refine ok_bd (m_walks hw (o := 0) (n0 := 0) (by omega) (by omega) x2 r0 (by omega) (hA _ hF0) (rI_same _ _ _ _)) (fun _ τ1 g => ?_)
    obtain ⟨g1, g2, g3, g4⟩ := g
    have hF1 : Fr wwk σ τ1 := hF0.trans g4
    rw [Nat.zero_add] at g1
    rw [z1 _ hF1, z2 _ hF1, z3 _ hF1, ite_iff (show nI x.2.2.1 = 1 ↔ x.2.2.1 = 1 from nI_eq2 (b := 1) (by omega) (by omega)), if_pos ck]
    refine ok_bd (m_walks hw (o := 1) (by omega) (by omega) x2 r1 (by omega) (hA _ hF1) g1) (fun _ τ2 t => ?_)
    obtain ⟨t1, t2, t3, t4⟩ := t
    refine hq τ2 (hF1.trans t4) (by rw [el]; exact t1) (fun i hi => ?_)
    rw [el] at hi
    unfold rsn
    rw [if_pos ck]
    by_cases ci : i < ds D v 0 x.2.1 x.1
    · rw [if_pos ci]
      have := g2 i ci
      rw [Nat.zero_add] at this
      exact ⟨(t3 _ (by omega)).trans this.1, (t3 _ (by omega)).trans this.2.1, (t3 _ (by omega)).trans this.2.2⟩
    · rw [if_neg ci]
      have := t2 (i - ds D v 0 x.2.1 x.1) (by omega)
      rw [show ds D v 0 x.2.1 x.1 + (i - ds D v 0 x.2.1 x.1) = i by omega] at this
      exact this
  · have hs2 : x.2.2.2.2 < 2 := by omega
    have r0 := hrc x.2.2.2.2 hs2 (Or.inr rfl)
    have el : rlen D v x = ds D v x.2.2.2.2 x.2.1 x.1 := by unfold rlen; rw [if_neg (by omega), if_neg ck]
    have fin : ∀ o τ1, o = x.2.2.2.2 → rI τ1 324 53 = nI (0 + ds D v o x.2.1 x.1) → TM D v o x.1 x.2.1 0 (ds D v o x.2.1 x.1) τ1 → Fr wwk σ τ1 → ok (f_X13_reason_94 a2 a3 τ1) Q := by
      intro o τ1 e g1 g2 g4
      subst e
      rw [Nat.zero_add] at g1
      refine hq τ1 g4 (by rw [el]; exact g1) (fun i hi => ?_)
      rw [el] at hi
      unfold rsn
      rw [if_neg ck]
      have := g2 i hi
      rw [Nat.zero_add] at this
      exact this
    rw [if_neg ck]
    rcases (by omega : x.2.2.2.2 = 0 ∨ x.2.2.2.2 = 1) with e | e
    · rw [if_pos e]
      rw [e] at r0
      refine ok_bd (m_walks hw (o := 0) (n0 := 0) (by omega) (by omega) x2 r0 (by omega) (hA _ hF0) (rI_same _ _ _ _)) (fun _ τ1 g => ?_)
      obtain ⟨g1, g2, g3, g4⟩ := g
      have hF1 : Fr wwk σ τ1 := hF0.trans g4
      rw [z3 _ hF1, z4 _ hF1, ite_iff (show nI x.2.2.1 = 1 ↔ x.2.2.1 = 1 from nI_eq2 (b := 1) (by omega) (by omega)), if_neg ck, ite_iff (show nI x.2.2.2.2 = 1 ↔ x.2.2.2.2 = 1 from nI_eq2 (b := 1) (by omega) (by omega)), if_neg (by omega)]
      exact fin 0 τ1 e.symm g1 g2 hF1
    · rw [if_neg (by omega), ite_iff (show nI x.2.2.1 = 1 ↔ x.2.2.1 = 1 from nI_eq2 (b := 1) (by omega) (by omega)), if_neg ck, ite_iff (show nI x.2.2.2.2 = 1 ↔ x.2.2.2.2 = 1 from nI_eq2 (b := 1) (by omega) (by omega)), if_pos e]
      rw [e] at r0
      refine ok_bd (m_walks hw (o := 1) (n0 := 0) (by omega) (by omega) x2 r0 (by omega) (hA _ hF0) (rI_same _ _ _ _)) (fun _ τ1 g => ?_)
      obtain ⟨g1, g2, g3, g4⟩ := g
      exact fin 1 τ1 e.symm g1 g2 (hF0.trans g4)
theorem op_reason (h : Inv (KK GK CK W B P) σ) (hS : SK GK CK W B P) (a1 a2 a3 a4 a5 : Int32) : ∃ σ', lw_op 16 a1 a2 a3 a4 a5 σ σ' ∧ Inv (KK GK CK W B P) σ' := by
  have hK := KK_KX hS
  show ∃ σ', (∃ (r : Int32) (σ1 : jM), f_X12_reason a1 a2 a3 σ = some (r, σ1) ∧ f_X13_reason a1 a2 a3 σ1 = some (r, σ')) ∧ Inv (KK GK CK W B P) σ'
  refine op_q (σ := σ) hK (R := fun r => (∃ v, v ≤ 100000 ∧ a1 = nI v ∧ kn σ a1 ∧ ((∃ n, n < rlen (dm σ) v (cst (dm σ) v 1600) ∧ a2 = nI n ∧ r = rfld (dm σ) v (cst (dm σ) v 1600) n a3) ∨ (r = -1 ∧ ¬ (0 ≤ a2 ∧ a2 < nI (rlen (dm σ) v (cst (dm σ) v 1600)))))) ∨ (r = -1 ∧ ¬ kn σ a1)) ?_ ?_
  · unfold f_X12_reason f_X12_reason_32
    refine ok_bd (c_seeGrid hS h a1) (fun r τ hh => ?_)
    obtain ⟨rfl, h1, h2, h3, h4⟩ := hh
    have e30 : rI τ 3 0 = rI σ 3 0 := h3.I _ _ (fun z => by have := ccr_ge z; omega)
    rw [ite_bI]
    refine ok_ite (fun c3 => ?_) (fun c3 => ok_ret ⟨h1, h2, e30, Or.inr ⟨rfl, c3⟩⟩)
    obtain ⟨v, rfl, hV, hG⟩ := h4 c3
    refine ok_bd (c_clash hS hV hG) (fun _ τ1 hh => ?_)
    obtain ⟨j1, j2, j3, j4⟩ := hh
    rw [h2] at j4
    have hle := rlen_le h.2.1 (cst_ok h.2.1 v 1600) (cst_rc h.2.1 v (p := 1600) (by omega))
    have e30' := j3.trans e30
    have hD' := j2.trans h2
    have hv := hV.2.1
    unfold CK at j4
    generalize hx : cst (dm σ) v 1600 = x at j4 hle
    obtain ⟨-, -, j5, j6⟩ := j4
    rw [j5]
    refine ok_ite (fun z => ok_ret ⟨j1.1, hD', e30', Or.inl ⟨v, hv, rfl, c3, Or.inr ⟨rfl, fun y => i_nlt.mpr y.1 z⟩⟩⟩) (fun z => ok_ite (fun z2 => ?_) (fun z2 => ok_ret ⟨j1.1, hD', e30', Or.inl ⟨v, hv, rfl, c3, Or.inr ⟨rfl, fun y => z2 (by rw [hx] at y; exact y.2)⟩⟩⟩))
    obtain ⟨n, hn, rfl⟩ := i_lt (i_nlt.mp z) z2 (by omega)
    obtain ⟨q1, q2, q3⟩ := j6 n hn
    have fin : ∀ r, r = rfld (dm σ) v x n a3 → ok (some (r, τ1)) (fun r τ => Inv (KK GK CK W B P) τ ∧ dm τ = dm σ ∧ rI τ 3 0 = rI σ 3 0 ∧ ((∃ v', v' ≤ 100000 ∧ nI v = nI v' ∧ kn σ (nI v) ∧ ((∃ n', n' < rlen (dm σ) v' (cst (dm σ) v' 1600) ∧ nI n = nI n' ∧ r = rfld (dm σ) v' (cst (dm σ) v' 1600) n' a3) ∨ (r = -1 ∧ ¬ (0 ≤ nI n ∧ nI n < nI (rlen (dm σ) v' (cst (dm σ) v' 1600)))))) ∨ (r = -1 ∧ ¬ kn σ (nI v)))) := fun r hr => ok_ret ⟨j1.1, hD', e30', Or.inl ⟨v, hv, rfl, c3, Or.inl ⟨n, by rw [hx]; exact hn, rfl, by rw [hx]; exact hr⟩⟩⟩
    rw [gd_n (by omega) (by omega)]
    simp (disch := omega) only [nI_ix]
    rw [q1, q2, q3]
    unfold rfld at fin
    refine ok_ite (fun z => fin _ (by rw [if_pos z])) (fun z0 => ok_ite (fun z => ?_) (fun z1 => ok_ite (fun z => ?_) (fun z2 => fin _ (by rw [if_neg z0, if_neg z1, if_neg z2]))))
    · rw [gd_n (by omega) (by omega)]; exact fin _ (by rw [if_neg z0, if_pos z])
    · rw [gd_n (by omega) (by omega)]; exact fin _ (by rw [if_neg z0, if_neg z1, if_pos z])
  · intro r τ hI hD e30 hR
    unfold f_X13_reason f_X13_reason_30
    have hM := MD_thr hI
    rw [hD] at hM
    have hw := hI.2.1
    rw [hD] at hw
    have fin : ok (some ((-1 : Int32), wI τ 324 0 0)) (fun r' τ' => r' = -1 ∧ Fr scr τ τ') := ok_ret ⟨rfl, Fr_thr τ 0⟩
    rw [m_known hI, bd_some, ite_bI, e30]
    rcases hR with ⟨v, hv, rfl, c3, hR⟩ | ⟨rfl, hno⟩
    · rw [if_pos c3, e_within, bd_some, ite_bI]
      have hok := cst_ok hw v 1600
      have hrc := cst_rc hw v (p := 1600) (by omega)
      have hle := rlen_le hw hok hrc
      refine ok_ite (fun c2 => ?_) (fun c2 => ?_)
      · refine ok_bd (m_findClash hw hM hv) (fun r τ1 g => ?_)
        obtain ⟨rfl, g2, g3, g4⟩ := g
        generalize hx : cst (dm σ) v 1600 = x at *
        rw [ite_bI]
        have hF : Fr wrs (wI τ 324 0 0) τ1 := g4.mono (fun k j z => Or.inl z)
        by_cases c : x.2.2.2.1 = 1000000
        · rw [if_neg (by omega)]
          have e0 : rlen (dm σ) v x = 0 := by unfold rlen; rw [if_pos c]
          rcases hR with ⟨n, hn, -, -⟩ | ⟨rfl, -⟩
          · omega
          · exact ok_ret ⟨rfl, thr_scr hF (fun k j => wfc_scr)⟩
        · rw [if_pos (by have := cok_le hok; omega)]
          refine m_reason hw hok hrc (by have := cok_le hok; omega) g2 g3 (fun τ2 hF2 w1 w2 => ?_)
          have hF' : Fr scr τ τ2 := thr_scr (hF.trans (hF2.mono (fun k j z => Or.inr z))) (fun k j => wfc_scr)
          unfold f_X13_reason_94 f_X13_reason_122
          rw [w1, e_within, bd_some, ite_bI, ite_iff (nI_sub1 (by omega))]
          rcases hR with ⟨n, hn, rfl, rfl⟩ | ⟨rfl, hn⟩
          · rw [if_pos ⟨nI_pos' (by omega), (nI_lt2 (by omega) (by omega)).mpr hn⟩]
            obtain ⟨f, hf, rfl⟩ := i_le (n := 2) c2.1 c2.2 (by omega)
            obtain ⟨q1, q2, q3⟩ := w2 n hn
            rw [show (3 : Int32) = nI 3 from rfl, pk_mul, nI_add, gd_n (by omega) (by omega), nI_ix (by omega)]
            refine ok_ret ⟨?_, hF'⟩
            unfold rfld
            rcases (by omega : f = 0 ∨ f = 1 ∨ f = 2) with rfl | rfl | rfl
            · rw [if_pos (show nI 0 = 0 from rfl)]; exact q1
            · rw [if_neg (by decide), if_pos (show nI 1 = 1 from rfl)]; exact q2
            · rw [if_neg (by decide), if_neg (by decide), if_pos (show nI 2 = 2 from rfl)]; exact q3
          · rw [if_neg hn]
            exact ok_ret ⟨rfl, hF'⟩
      · have hr : r = -1 := by
          rcases hR with ⟨n, hn, rfl, rfl⟩ | ⟨rfl, hn⟩
          · unfold rfld
            rw [if_neg (fun z => c2 (by subst z; decide)), if_neg (fun z => c2 (by subst z; decide)), if_neg (fun z => c2 (by subst z; decide))]
          · rfl
        rw [hr]
        exact fin
    · rw [if_neg hno]
      exact fin
end OPC
