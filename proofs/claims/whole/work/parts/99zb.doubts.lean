/-! doubt: both sides and the call -/
section DBO
variable {D : dD} {σ : jM} {v : Nat} {C P : dD → Nat → jM → Prop}
def DK (D : dD) (v : Nat) (σ : jM) : Prop := ∃ b, b < 64 ∧ IsM D v (fm D v (D 324 55)) b ∧ rI σ 322 1 = nI b
theorem DK_St : St RB DK := fun D v σ τ he h => by
  obtain ⟨b, h1, h2, h3⟩ := h
  exact ⟨b, h1, h2, (he _ _ ⟨rfl, rfl⟩).1.trans h3⟩
def TB (_ : dD) (_ : Nat) (_ : jM) : Prop := True
theorem SK_TB (h : SK GK C WK DK P) : SK GK C WK TB P := ⟨h.1, h.2.1, h.2.2.1, fun _ _ _ _ _ h => h, h.2.2.2.2⟩
theorem Vw_chg {K K' : dD → Nat → jM → Prop} (h : Vw K v σ) (hk : K' (dm σ) v σ) : Vw K' v σ := by
  obtain ⟨⟨a, b, c, d, -⟩, h2, h3, h4, -, d', h6, h7, h8⟩ := h
  exact ⟨⟨a, b, c, d, Or.inr ⟨v, d', h6, h7, h8, h3, h4, hk⟩⟩, h2, h3, h4, hk, d', h6, h7, h8⟩
theorem Vw_TB (h : Vw (KK GK C WK DK P) v σ) : Vw (KK GK C WK TB P) v σ := Vw_chg h ⟨h.2.2.2.2.1.1, h.2.2.2.2.1.2.1, h.2.2.2.2.1.2.2.1, Or.inr trivial, h.2.2.2.2.1.2.2.2.2⟩
theorem Vw_w6 {j : Nat} (hj : j = 1 ∨ j = 6) (x : Int32) (hS : SK GK C WK TB P) (h : Vw (KK GK C WK TB P) v σ) : Vw (KK GK C WK TB P) v (wI σ 322 j x) ∧ dm (wI σ 322 j x) = dm σ ∧ rI (wI σ 322 j x) 3 0 = rI σ 3 0 := by
  obtain ⟨k1, k2, k3, k4, k5⟩ := h.2.2.2.2.1
  have hF : Fr (fun k j' => k = 322 ∧ j' = j) σ (wI σ 322 j x) := Fr.w Fr.refl ⟨rfl, rfl⟩
  refine Vw_upd h hF (fun k j' z => ⟨ccr_hi (by omega), by omega, by omega⟩) ⟨k1.imp (fun z => (hF.I _ _ (by omega)).trans z) (hS.1 _ _ _ _ (fun k j hr => ⟨hF.I _ _ (by omega), hF.L _ _ (by omega)⟩)), k2.imp (fun z => (hF.I _ _ (by omega)).trans z) (hS.2.1 _ _ _ _ (fun k j hr => ⟨hF.I _ _ (by omega), hF.L _ _ (by omega)⟩)), k3.imp (fun z => (hF.I _ _ (by omega)).trans z) (hS.2.2.1 _ _ _ _ (fun k j hr => ⟨hF.I _ _ (by omega), hF.L _ _ (by omega)⟩)), Or.inr trivial, k5.imp (fun z => (hF.I _ _ (by omega)).trans z) (hS.2.2.2.2 _ _ _ _ (fun k j hr => ⟨hF.I _ _ (by omega), hF.L _ _ (by omega)⟩))⟩
theorem fm64 (hw : DW D) : fm D v (D 324 55) < 64 := by
  have h1 := fm_lt (D := D) (v := v) (D 324 55)
  have h2 := Nat.pow_le_pow_right (n := 2) (by omega) hw.2.2.2.2.1
  omega
theorem c_findDoubt58 (hS : SK GK C WK DK P) (h : Vw (KK GK C WK TB P) v σ) (hG : GK (dm σ) v σ) {f : Nat} (hf : f = fm (dm σ) v (dm σ 324 55)) (h1 : rI σ 322 1 = nI f) : ok (f_X1_findDoubt_58 Fu (nI f) 0 σ) (fun _ τ => Vw (KK GK C WK DK P) v τ ∧ dm τ = dm σ ∧ rI τ 3 0 = rI σ 3 0 ∧ DK (dm σ) v τ) := by
  have hw := h.1.2.1
  have hS' := SK_TB hS
  have h64 : f < 64 := by rw [hf]; exact fm64 hw
  have hok : okm (dm σ) v f f := by rw [hf]; exact full_ok
  refine L_X1_findDoubt_58 f (fun k l2 τ => l2 = nI k ∧ rI τ 322 1 = nI (dbs (dm σ) v f k) ∧ Vw (KK GK C WK TB P) v τ ∧ dm τ = dm σ ∧ rI τ 3 0 = rI σ 3 0 ∧ GK (dm σ) v τ) (by omega) (fun k p l2 τ hk hI hp => ?_) (Nat.zero_le _) ⟨rfl, h1, h, rfl, rfl, hG⟩
  obtain ⟨rfl, hb, hV, hD, e30, hG1⟩ := hI
  obtain ⟨i1, i2, i3⟩ := dbs_inv h64 hok hk
  unfold s_X1_findDoubt_58 f_X1_findDoubt_82 f_X1_findDoubt_111
  rw [ite_iff (nI_le2 (by omega) (by omega))]
  by_cases ck : k < f
  · have hd := dbs_s (D := dm σ) (v := v) f k
    have hp1 := p6_le k (by omega)
    have hp2 := p6_le (dbs (dm σ) v f k) (by omega)
    have no : ¬ (p6 k < p6 (dbs (dm σ) v f k) ∧ decP (okm (dm σ) v f k) = true) → ∀ τ', rI τ' 322 1 = nI (dbs (dm σ) v f k) → Vw (KK GK C WK TB P) v τ' → dm τ' = dm σ → rI τ' 3 0 = rI σ 3 0 → GK (dm σ) v τ' → ok (p (nI f) (nI k + 1) τ') (fun _ τ => Vw (KK GK C WK DK P) v τ ∧ dm τ = dm σ ∧ rI τ 3 0 = rI σ 3 0 ∧ DK (dm σ) v τ) := fun z τ' x1 x2 x3 x4 x5 => hp (k + 1) _ _ (by omega) (by omega) ⟨nI_1 k, by rw [hd, if_neg z]; exact x1, x2, x3, x4, x5⟩
    rw [if_neg (by omega), c_bitCount k (by omega), bd_some, hb, c_bitCount _ (by omega), bd_some, ite_iff (nI_le2 (by omega) (by omega))]
    refine ok_ite (fun z => ?_) (fun z => ?_)
    · rw [if_pos rfl]
      exact no (fun y => by omega) τ hb hV hD e30 hG1
    · rw [if_neg (by decide), ite_iff (sub_c f h64 k (by omega))]
      refine ok_ite (fun z2 => ?_) (fun z2 => no (fun y => z2 (decP_t.mp y.2).1) τ hb hV hD e30 hG1)
      refine ok_bd (c_hasWay hS' hV (by rw [hD]; exact hG1) (a := k) (by omega)) (fun r τ1 t => ?_)
      obtain ⟨⟨t1, t2, t3⟩, rfl, tF⟩ := t
      have hrl := rIx_le hw.2.1 v
      have hrx := rulX_cases (rIx (dm σ) v)
      rw [hD] at t2 ⊢
      rw [hD] at tF
      have nw : ∀ {k j : Nat}, ¬ (k = 297 ∨ (k = 296 ∧ j = 1)) → ¬ (k = 298 ∨ (k = 296 ∧ (j = 5 ∨ j = 13 ∨ j = 16 ∨ j = 17)) ∨ (299 ≤ k ∧ k ≤ 321) ∨ k = rulX (rIx (dm σ) v) + 7 ∨ k = rulX (rIx (dm σ) v) + 8) → ¬ wsr (rI τ 296 18 ≠ 0) (rIx (dm σ) v) k j := fun a c z => z.elim (fun y => a y.2) c
      have hG2 : GK (dm σ) v τ1 := GK_St _ _ _ _ (fun k j hr => ⟨tF.I _ _ (nw (by omega) (by omega)), tF.L _ _ (nw (by omega) (by omega))⟩) hG1
      have hb1 : rI τ1 322 1 = nI (dbs (dm σ) v f k) := (tF.I _ _ (nw (by omega) (by omega))).trans hb
      rw [ite_bI]
      refine ok_ite (fun z3 => ?_) (fun z3 => no (fun y => z3 (decP_t.mp y.2).2) τ1 hb1 t1 t2 (t3.trans e30) hG2)
      obtain ⟨u1, u2, u3⟩ := Vw_w6 (j := 1) (Or.inl rfl) (nI k) hS' t1
      exact hp (k + 1) _ _ (by omega) (by omega) ⟨nI_1 k, by rw [hd, if_pos ⟨by omega, decP_t.mpr ⟨z2, z3⟩⟩, rI_same], u1, u2.trans t2, u3.trans (t3.trans e30), GK_St _ _ _ _ (fun k j hr => ⟨rI_nk (by omega), rfl⟩) hG2⟩
  · have e : k = f := by omega
    subst e
    rw [if_pos (by omega)]
    have hDK : DK (dm σ) v τ := ⟨_, by omega, by rw [← hf]; exact dbs_min h64 hok, hb⟩
    have k0 := hV.2.2.2.2.1
    refine ok_ret ⟨Vw_chg hV ⟨k0.1, k0.2.1, k0.2.2.1, Or.inr (by rw [hD]; exact hDK), k0.2.2.2.2⟩, hD, e30, hDK⟩
theorem c_findDoubt (hS : SK GK C WK DK P) (h : Vw (KK GK C WK DK P) v σ) (hG : GK (dm σ) v σ) : ok (f_X1_findDoubt σ) (fun _ τ => Vw (KK GK C WK DK P) v τ ∧ dm τ = dm σ ∧ rI τ 3 0 = rI σ 3 0 ∧ DK (dm σ) v τ) := by
  have hw := h.1.2.1
  have hS' := SK_TB hS
  have h6 := hw.2.2.2.2.1
  unfold f_X1_findDoubt
  refine ok_ite (fun c => ?_) (fun c => ok_ret ⟨h, rfl, rfl, h.2.2.2.2.1.2.2.2.1.resolve_left c⟩)
  obtain ⟨u1, u2, u3⟩ := Vw_w6 (j := 6) (Or.inr rfl) 1 hS' (Vw_TB h)
  have hcd := u1.1.2.2.1
  rw [u2] at hcd
  refine L_X1_findDoubt_17 (dm σ 324 55) (fun k l1 l2 τ => l1 = nI (fm (dm σ) v k) ∧ l2 = nI k ∧ τ = wI σ 322 6 1) (by omega) (fun k p l1 l2 τ hk hI hp => ?_) (Nat.zero_le _) ⟨rfl, rfl, rfl⟩
  obtain ⟨rfl, rfl, rfl⟩ := hI
  unfold s_X1_findDoubt_17 f_X1_findDoubt_45
  rw [hcd.2.2.2.2.1, ite_iff (nI_le2 (by omega) (by omega))]
  by_cases ck : k < dm σ 324 55
  · rw [if_neg (by omega), c_nameCounts hw.2.2.2.2 hw.1 hcd.2.2.2.2 hcd.1 ck h.2.1 u1.2.2.1, bd_some, ite_bI]
    refine ok_ite (fun z => ?_) (fun z => ?_)
    · rw [bit_set k (by omega) _ (fm_lt k)]
      exact hp (k + 1) _ _ _ (by omega) (by omega) ⟨by rw [fm_s, if_pos z], nI_1 k, rfl⟩
    · exact hp (k + 1) _ _ _ (by omega) (by omega) ⟨by rw [fm_s, if_neg z, Nat.add_zero], nI_1 k, rfl⟩
  · have e : k = dm σ 324 55 := by omega
    rw [if_pos (by omega), e]
    obtain ⟨w1, w2, w3⟩ := Vw_w6 (j := 1) (Or.inl rfl) (nI (fm (dm σ) v (dm σ 324 55))) hS' u1
    have hD2 := w2.trans u2
    refine ok_imp (c_findDoubt58 hS w1 (by rw [hD2]; exact GK_St _ _ _ _ (fun k j hr => ⟨(rI_nk (by omega)).trans (rI_nk (by omega)), rfl⟩) hG) (by rw [hD2]) (rI_same _ _ _ _)) (fun _ τ t => ?_)
    rw [hD2] at t
    exact ⟨t.1, t.2.1, t.2.2.1.trans (w3.trans u3), t.2.2.2⟩
theorem bit_g : ∀ a : Nat, a < 64 → ∀ k : Nat, k < 6 → (((nI a) >>> ((nI k) &&& 31)) &&& 1) = nI (if a.testBit k = true then 1 else 0) := by decide +kernel
theorem m_bits {a : Nat} (ha : a < 64) : f_X13_bits (nI a) σ = some (nI (p6 a), σ) := by
  refine ok_eq ?_
  unfold f_X13_bits
  refine L_X13_bits_4 6 (fun k l1 l2 τ => l1 = nI (cnt (fun i => a.testBit i) k) ∧ l2 = nI k ∧ τ = σ) (by omega) (fun k p l1 l2 τ hk hI hp => ?_) (Nat.zero_le _) ⟨rfl, rfl, rfl⟩
  obtain ⟨rfl, rfl, rfl⟩ := hI
  unfold s_X13_bits_4
  rw [li6, ite_iff (nI_le2 (by omega) (by omega))]
  by_cases ck : k < 6
  · rw [if_neg (by omega), bit_g a ha k ck, nI_add]
    exact hp (k + 1) _ _ _ (by omega) (by omega) ⟨by rw [cnt_s], nI_1 k, rfl⟩
  · have e : k = 6 := by omega
    subst e
    rw [if_pos (by omega)]
    exact ok_ret ⟨rfl, rfl⟩
theorem m_doubt64 (hw : DW D) (hM : MD D σ) (hv : v ≤ 100000) {f b : Nat} {a2 : Int32} (hf : f < 64) (hb : IsM D v f b) : ok (f_X13_doubt_64 Fu (nI v) a2 (nI f) 0 σ) (fun r τ => r = (if a2 = 0 then nI (p6 b) else nI b) ∧ Fr wfa σ τ) := by
  obtain ⟨hb1, hb2, hb3⟩ := hb
  have hb6 := p6_le b (by omega)
  refine L_X13_doubt_64 (p6 b) (fun m l4 τ => l4 = nI m ∧ MD D τ ∧ Fr wfa σ τ) (by omega) (fun m p l4 τ hk hI hp => ?_) (Nat.zero_le _) ⟨rfl, hM, Fr.refl⟩
  obtain ⟨rfl, hM1, hF1⟩ := hI
  unfold s_X13_doubt_64
  rw [li6, ite_iff (nI_lt2 (by omega) (by omega)), if_neg (by omega)]
  refine L_X13_doubt_74 (f + 1) (fun a l5 τ' => l5 = nI a ∧ MD D τ' ∧ Fr wfa σ τ' ∧ (m = p6 b → a ≤ b)) (by omega) (fun a q l5 τ' hk2 hI2 hq => ?_) (Nat.zero_le _) ⟨rfl, hM1, hF1, fun _ => Nat.zero_le _⟩
  obtain ⟨rfl, hM2, hF2, hab⟩ := hI2
  unfold s_X13_doubt_74 f_X13_doubt_134 f_X13_doubt_133
  rw [ite_iff (nI_lt2 (by omega) (by omega))]
  refine ok_ite (fun z => ?_) (fun z => ?_)
  · refine hp (m + 1) _ _ (by omega) ?_ ⟨nI_1 m, hM2, hF2⟩
    rcases Nat.lt_or_ge m (p6 b) with w | w
    · exact w
    · have := hab (by omega); omega
  · have ha6 := p6_le a (by omega)
    have no : ¬ (m = p6 b ∧ a = b) → ∀ τ1, MD D τ1 → Fr wfa σ τ1 → ok (q (nI v) a2 (nI f) (nI m) (nI a + 1) τ1) (fun r τ => r = (if a2 = 0 then nI (p6 b) else nI b) ∧ Fr wfa σ τ) := fun y τ1 x1 x2 => hq (a + 1) _ _ (by omega) (by omega) ⟨nI_1 a, x1, x2, fun w => by have := hab w; omega⟩
    rw [m_bits (by omega), bd_some, ite_iff (nI_eq2 (by omega) (by omega))]
    refine ok_ite (fun z1 => ?_) (fun z1 => no (fun y => z1 (by rw [y.2, y.1])) τ' hM2 hF2)
    rw [ite_iff (sub_c f hf a (by omega))]
    refine ok_ite (fun z2 => ?_) (fun z2 => no (fun y => z2 (by rw [y.2]; exact hb1.1)) τ' hM2 hF2)
    refine m_hasWay hw hM2 hv (by omega) (fun τ1 g1 g2 g3 => ?_)
    rw [g3]
    by_cases c : 0 < (WW D v a).length
    · rw [if_pos c, if_neg (by decide)]
      have := hb3 a (by omega) ⟨z2, c⟩
      have hm : m = p6 b := by omega
      have e : a = b := by have := hab hm; omega
      subst e
      subst hm
      refine ok_ite (fun w => ok_ret ⟨by rw [if_pos w], hF2.trans g1⟩) (fun w => ok_ret ⟨by rw [if_neg w], hF2.trans g1⟩)
    · rw [if_neg c, if_pos (by decide)]
      exact no (fun y => c (by rw [y.2]; exact hb1.2)) τ1 g2 (hF2.trans g1)
theorem m_doubt29 (hw : DW D) (hM : MD D σ) (hv : v ≤ 100000) {b : Nat} {a2 : Int32} (hb : IsM D v (fm D v (D 324 55)) b) : ok (f_X13_doubt_29 Fu (nI v) a2 0 0 σ) (fun r τ => r = (if a2 = 0 then nI (p6 b) else nI b) ∧ Fr wfa σ τ) := by
  have h6 := hw.2.2.2.2.1
  refine L_X13_doubt_29 (D 324 55) (fun k l3 l4 τ => l3 = nI (fm D v k) ∧ l4 = nI k ∧ τ = σ) (by omega) (fun k p l3 l4 τ hk hI hp => ?_) (Nat.zero_le _) ⟨rfl, rfl, rfl⟩
  obtain ⟨rfl, rfl, rfl⟩ := hI
  unfold s_X13_doubt_29 f_X13_doubt_55
  rw [hM.r (k := 324) (j := 55) (by omega) (by omega), ite_iff (nI_le2 (by omega) (by omega))]
  by_cases ck : k < D 324 55
  · rw [if_neg (by omega), m_nameCounts hw.2.2.2.2 hw.1 hM ck hv, bd_some, ite_bI]
    refine ok_ite (fun z => ?_) (fun z => ?_)
    · rw [bit_set k (by omega) _ (fm_lt k)]
      exact hp (k + 1) _ _ _ (by omega) (by omega) ⟨by rw [fm_s, if_pos z], nI_1 k, rfl⟩
    · exact hp (k + 1) _ _ _ (by omega) (by omega) ⟨by rw [fm_s, if_neg z, Nat.add_zero], nI_1 k, rfl⟩
  · have e : k = D 324 55 := by omega
    rw [if_pos (by omega), e]
    exact m_doubt64 hw hM hv (fm64 hw) hb
theorem op_doubt (h : Inv (KK GK C WK DK P) σ) (hS : SK GK C WK DK P) (a1 a2 a3 a4 a5 : Int32) : ∃ σ', lw_op 29 a1 a2 a3 a4 a5 σ σ' ∧ Inv (KK GK C WK DK P) σ' := by
  have hK := KK_KX hS
  show ∃ σ', (∃ (r : Int32) (σ1 : jM), f_X12_doubt a1 a2 σ = some (r, σ1) ∧ f_X13_doubt a1 a2 σ1 = some (r, σ')) ∧ Inv (KK GK C WK DK P) σ'
  refine op_q (σ := σ) hK (R := fun r => (∃ v b, v ≤ 100000 ∧ a1 = nI v ∧ kn σ a1 ∧ (0 ≤ a2 ∧ a2 ≤ 1) ∧ IsM (dm σ) v (fm (dm σ) v (dm σ 324 55)) b ∧ r = (if a2 = 0 then nI (p6 b) else nI b)) ∨ (r = -1 ∧ ¬ (kn σ a1 ∧ (0 ≤ a2 ∧ a2 ≤ 1)))) ?_ ?_
  · unfold f_X12_doubt f_X12_doubt_17 f_X12_doubt_50
    refine ok_ite (fun c1 => ok_ret ⟨h, rfl, rfl, Or.inr ⟨rfl, fun z => i_nlt.mpr z.2.1 c1⟩⟩) (fun c1 => ?_)
    refine ok_ite (fun c2 => ok_ret ⟨h, rfl, rfl, Or.inr ⟨rfl, fun z => i_nlt.mpr z.2.2 c2⟩⟩) (fun c2 => ?_)
    refine ok_bd (c_seeGrid hS h a1) (fun r τ hh => ?_)
    obtain ⟨rfl, h1, h2, h3, h4⟩ := hh
    have e30 : rI τ 3 0 = rI σ 3 0 := h3.I _ _ (fun z => by have := ccr_ge z; omega)
    rw [ite_bI]
    refine ok_ite (fun c3 => ?_) (fun c3 => ok_ret ⟨h1, h2, e30, Or.inr ⟨rfl, fun z => c3 z.1⟩⟩)
    obtain ⟨v, rfl, hV, hG⟩ := h4 c3
    refine ok_bd (c_findDoubt hS hV hG) (fun _ τ1 t => ?_)
    obtain ⟨t1, t2, t3, b, hb, t4, t5⟩ := t
    rw [h2] at t4
    rw [t5]
    refine ok_ite (fun z => ?_) (fun z => ?_)
    · rw [c_bitCount b hb, bd_some]
      exact ok_ret ⟨t1.1, t2.trans h2, t3.trans e30, Or.inl ⟨v, b, hV.2.1, rfl, c3, ⟨i_nlt.mp c1, i_nlt.mp c2⟩, t4, by rw [if_pos z]⟩⟩
    · exact ok_ret ⟨t1.1, t2.trans h2, t3.trans e30, Or.inl ⟨v, b, hV.2.1, rfl, c3, ⟨i_nlt.mp c1, i_nlt.mp c2⟩, t4, by rw [if_neg z]⟩⟩
  · intro r τ hI hD e30 hR
    unfold f_X13_doubt f_X13_doubt_22
    have hM := MD_thr hI
    rw [hD] at hM
    have hw := hI.2.1
    rw [hD] at hw
    rw [m_known hI, bd_some, ite_bI, e30]
    rcases hR with ⟨v, b, hv, rfl, c3, c2, hb, rfl⟩ | ⟨rfl, hno⟩
    · rw [if_pos c3, e_within, bd_some, ite_bI, if_pos c2]
      exact ok_imp (m_doubt29 hw hM hv hb) (fun r τ1 t => ⟨t.1, thr_scr t.2 (fun k j => wfa_scr)⟩)
    · refine ok_ite (fun c3 => ?_) (fun c3 => ok_ret ⟨rfl, Fr_thr τ 0⟩)
      rw [e_within, bd_some, ite_bI, if_neg (fun z => hno ⟨c3, z⟩)]
      exact ok_ret ⟨rfl, Fr_thr τ 0⟩
end DBO
