/-! pairs, classOf, links -/
section OPG
variable {σ : jM} {C W B P : dD → Nat → jM → Prop} {D : dD}
theorem op_q {K : dD → Nat → jM → Prop} (hK : KX K) {F : Option (Int32 × jM)} {G : jM → Option (Int32 × jM)} {R : Int32 → Prop} (hc : ok F (fun r τ => Inv K τ ∧ dm τ = dm σ ∧ rI τ 3 0 = rI σ 3 0 ∧ R r)) (hm : ∀ r τ, Inv K τ → dm τ = dm σ → rI τ 3 0 = rI σ 3 0 → R r → ok (G τ) (fun r' τ' => r' = r ∧ Fr scr τ τ')) : ∃ σ', (∃ (r : Int32) (σ1 : jM), F = some (r, σ1) ∧ G σ1 = some (r, σ')) ∧ Inv K σ' :=
  op_mk hc (fun r τ hq => ok_imp (hm r τ hq.1 hq.2.1 hq.2.2.1 hq.2.2.2) (fun r' τ' h => ⟨h.1, Inv_scr hK hq.1 h.2⟩))
theorem wlks_scr {k j : Nat} (h : wlks k j) : scr k j := by
  rcases h with h | h | h
  · exact Or.inr (Or.inr (Or.inr (Or.inr (Or.inr (Or.inr (Or.inl h))))))
  · exact Or.inl (by omega)
  · exact Or.inr (Or.inr (Or.inr (Or.inr (Or.inr (Or.inr (Or.inr (Or.inl (by omega))))))))
theorem thr_scr {τ τ' : jM} {x : Int32} {V : Nat → Nat → Prop} (h : Fr V (wI τ 324 0 x) τ') (hV : ∀ k j, V k j → scr k j) : Fr scr τ τ' := (Fr_thr τ x).trans (h.mono hV)
theorem pc_0 {v c a b : Nat} (h : 2 ≤ cl D v 332 c) : pc D v c a b = 0 := by
  unfold pc
  rw [sm_congr (g := fun _ => 0) (fun y _ => cnt_zero (fun x _ => by
    cases hb : tl D v c a b x y with
    | false => rfl
    | true => have := (of_decide_eq_true hb).1.2.1; omega))]
  have := sm_bound (f := fun _ => 0) (n := wN D v) (B := 0) (fun _ _ => Nat.le_refl 0)
  omega
/-- the day asked for is known -/
abbrev kn (σ : jM) (a : Int32) : Prop := 0 ≤ a ∧ a ≤ rI σ 3 0
theorem op_pairs (h : Inv (KK GK C W B P) σ) (hS : SK GK C W B P) (a1 a2 a3 a4 a5 : Int32) : ∃ σ', lw_op 12 a1 a2 a3 a4 a5 σ σ' ∧ Inv (KK GK C W B P) σ' := by
  have hK := KK_KX hS
  show ∃ σ', (∃ (r : Int32) (σ1 : jM), f_X12_pairs a1 a2 a3 a4 σ = some (r, σ1) ∧ f_X13_pairs a1 a2 a3 a4 σ1 = some (r, σ')) ∧ Inv (KK GK C W B P) σ'
  have h12 := fun v => ncl_le (gR h).1 v
  refine op_q (σ := σ) hK (R := fun r => (∃ c a b v, a < 40 ∧ b < 40 ∧ v ≤ 100000 ∧ a1 = nI c ∧ c < ncl (dm σ) v ∧ a2 = nI a ∧ a3 = nI b ∧ a4 = nI v ∧ kn σ a4 ∧ r = nI (if std (dm σ) v a = std (dm σ) v b then 0 else pc (dm σ) v c (std (dm σ) v a) (std (dm σ) v b))) ∨ (r = -1 ∧ ¬ ((0 ≤ a2 ∧ a2 < 40) ∧ (0 ≤ a3 ∧ a3 < 40) ∧ kn σ a4 ∧ ∀ v, a4 = nI v → v ≤ 100000 → 0 ≤ a1 ∧ a1 < nI (ncl (dm σ) v)))) ?_ ?_
  · unfold f_X12_pairs f_X12_pairs_41
    rw [e_isSign, bd_some, ite_bI]
    refine ok_ite (fun c1 => ?_) (fun c1 => ok_ret ⟨h, rfl, rfl, Or.inr ⟨rfl, fun z => c1 z.1⟩⟩)
    rw [e_isSign, bd_some, ite_bI]
    refine ok_ite (fun c2 => ?_) (fun c2 => ok_ret ⟨h, rfl, rfl, Or.inr ⟨rfl, fun z => c2 z.2.1⟩⟩)
    refine ok_bd (c_seeGrid hS h a4) (fun r τ hh => ?_)
    obtain ⟨rfl, h1, h2, h3, h4⟩ := hh
    have e30 : rI τ 3 0 = rI σ 3 0 := h3.I _ _ (fun z => by have := ccr_ge z; omega)
    rw [ite_bI]
    refine ok_ite (fun c3 => ?_) (fun c3 => ok_ret ⟨h1, h2, e30, Or.inr ⟨rfl, fun z => c3 z.2.2.1⟩⟩)
    obtain ⟨v, rfl, hV, hG⟩ := h4 c3
    rw [h2] at hG
    have e18 : ∀ s, s < 40 → rI τ 18 s = nI (std (dm σ) v s) := fun s hs => by rw [← h2]; exact hV.2.2.2.1.2 s hs
    have enc : rI τ (rulX τ.2.2) 1 = nI (ncl (dm σ) v) := by rw [hV.2.2.2.1.1, ← h2]; exact c_ncl (gR hV.1).1 (gR hV.1).2 v
    rw [enc]
    have hv1 := hV.2.1
    have no : ¬ (0 ≤ a1 ∧ a1 < nI (ncl (dm σ) v)) → ok (some ((-1 : Int32), τ)) (fun r τ => Inv (KK GK C W B P) τ ∧ dm τ = dm σ ∧ rI τ 3 0 = rI σ 3 0 ∧ ((∃ c a b v', a < 40 ∧ b < 40 ∧ v' ≤ 100000 ∧ a1 = nI c ∧ c < ncl (dm σ) v' ∧ a2 = nI a ∧ a3 = nI b ∧ nI v = nI v' ∧ kn σ (nI v) ∧ r = nI (if std (dm σ) v' a = std (dm σ) v' b then 0 else pc (dm σ) v' c (std (dm σ) v' a) (std (dm σ) v' b))) ∨ (r = -1 ∧ ¬ ((0 ≤ a2 ∧ a2 < 40) ∧ (0 ≤ a3 ∧ a3 < 40) ∧ kn σ (nI v) ∧ ∀ v', nI v = nI v' → v' ≤ 100000 → 0 ≤ a1 ∧ a1 < nI (ncl (dm σ) v'))))) := fun z => ok_ret ⟨h1, h2, e30, Or.inr ⟨rfl, fun y => z (y.2.2.2 v rfl hv1)⟩⟩
    refine ok_ite (fun c4 => no (fun z => i_nlt.mpr z.1 c4)) (fun c4 => ok_ite (fun c5 => ?_) (fun c5 => no (fun z => c5 z.2)))
    have := h12 v
    obtain ⟨c, hc, rfl⟩ := i_lt (i_nlt.mp c4) c5 (by omega)
    obtain ⟨a, ha, rfl⟩ := i_lt (n := 40) c1.1 c1.2 (by omega)
    obtain ⟨b, hb, rfl⟩ := i_lt (n := 40) c2.1 c2.2 (by omega)
    have s1 := std_lt (D := dm σ) v ha
    have s2 := std_lt (D := dm σ) v hb
    simp (disch := omega) only [gd_n, nI_ix]
    rw [e18 a ha, e18 b hb, ite_iff (nI_eq2 (by omega) (by omega))]
    refine ok_ite (fun z => ok_ret ⟨h1, h2, e30, Or.inl ⟨c, a, b, v, ha, hb, hv1, rfl, hc, rfl, rfl, rfl, c3, by rw [if_pos z]; rfl⟩⟩) (fun z => ?_)
    have hp := pr_lt s1 s2 z
    rw [e_pairOf s1 s2, bd_some, gd_n hp (by omega), nI_ix (by omega)]
    have hcell : rI τ (266 + c) (pr (std (dm σ) v a) (std (dm σ) v b)) = nI (pc (dm σ) v c (std (dm σ) v a) (std (dm σ) v b)) := by
      rcases Nat.lt_or_ge (std (dm σ) v a) (std (dm σ) v b) with w | w
      · exact hG.1 c hc (by omega) _ _ w s2
      · rw [pr_comm, pc_symm]; exact hG.1 c hc (by omega) _ _ (by omega) s1
    rw [hcell]
    exact ok_ret ⟨h1, h2, e30, Or.inl ⟨c, a, b, v, ha, hb, hv1, rfl, hc, rfl, rfl, rfl, c3, by rw [if_neg z]⟩⟩
  · intro r τ hI hD e30 hR
    unfold f_X13_pairs f_X13_pairs_28 f_X13_pairs_61 f_X13_pairs_106 f_X13_pairs_133
    have hM := MD_thr hI
    rw [hD] at hM
    have hw := hI.2.1
    rw [hD] at hw
    have fin : ok (some ((-1 : Int32), wI τ 324 0 0)) (fun r' τ' => r' = -1 ∧ Fr scr τ τ') := ok_ret ⟨rfl, Fr_thr τ 0⟩
    rw [e_isSignNumber, bd_some, ite_bI]
    rcases hR with ⟨c, a, b, v, ha, hb, hv, rfl, hc, rfl, rfl, rfl, c3, rfl⟩ | ⟨rfl, hno⟩
    · have s1 := std_lt (D := dm σ) v ha
      have s2 := std_lt (D := dm σ) v hb
      have := h12 v
      have hx := rIx_lt hw.2.1 v (ncl_ne hc)
      have h10 := hw.2.1.1
      rw [if_pos ⟨nI_pos' (by omega), (nI_lt2 (b := 40) (by omega) (by omega)).mpr ha⟩, e_isSignNumber, bd_some, ite_bI, if_pos ⟨nI_pos' (by omega), (nI_lt2 (b := 40) (by omega) (by omega)).mpr hb⟩, m_known hI, bd_some, ite_bI, e30, if_pos c3, m_rulesBy hw.2.1 hM hv, bd_some, rxI_ix (ncl_ne hc), if_neg (show ¬ nI (rIx (dm σ) v) = -1 from fun z => (nI_m1 (by omega)).mp z), gd_n (by omega) (by omega)]
      simp (disch := omega) only [nI_ix]
      rw [m_ncl hw.2.1 hM (ncl_ne hc), e_within, bd_some, ite_bI, if_pos ((nI_sub1 (by omega)).mpr ⟨nI_pos' (by omega), (nI_lt2 (by omega) (by omega)).mpr hc⟩)]
      refine ok_bd (m_findStands hw.2.2.1 hM hv) (fun _ τ1 g1 => ?_)
      have hM1 : MD (dm σ) τ1 := MD_fr hM g1.2 (fun k j hp z => scr_pers hp (scr_343 z))
      refine ok_bd (m_findWholes hw.1 hM1 hv g1.1) (fun _ τ2 g2 => ?_)
      have hM2 : MD (dm σ) τ2 := MD_fr hM1 g2.2 (fun k j hp z => by have := pers_ge hp; omega)
      have hF : Fr scr τ τ2 := thr_scr (g1.2.mono (V := wlks) (fun k j z => Or.inl z) |>.trans (g2.2.mono (fun k j z => by omega))) (fun k j => wlks_scr)
      have e43 : ∀ s, s < 40 → rI τ2 343 s = nI (std (dm σ) v s) := fun s hs => (g2.2.I _ _ (by omega)).trans (g1.1 s hs)
      obtain ⟨f2, f0⟩ := m_cl hw.2.1 hM2 hc (k := 332) (by omega)
      have hk := (cl_dw hw.2.1 hc).1
      rw [li12, pk_mul, nI_add, gd_n (by omega) (by omega)]
      simp (disch := omega) only [nI_ix, gd_n]
      rw [f2, ite_iff (show 1 < nI (cl (dm σ) v 332 c) ↔ 1 < cl (dm σ) v 332 c from nI_lt2 (a := 1) (by omega) (by omega)), e43 a ha, e43 b hb, ite_iff (nI_eq2 (by omega) (by omega))]
      refine ok_ite (fun z => ok_ret ⟨?_, hF⟩) (fun z => ok_ite (fun z2 => ok_ret ⟨by rw [if_pos z2]; rfl, hF⟩) (fun z2 => ?_))
      · rw [pc_0 (by omega)]
        split <;> rfl
      · rw [m_pairsOf hw.1 hw.2.1 hM2 g2.1 hc (by omega) s1 s2, bd_some, if_neg z2]
        exact ok_ret ⟨rfl, hF⟩
    · refine ok_ite (fun c1 => ?_) (fun c1 => fin)
      rw [e_isSignNumber, bd_some, ite_bI]
      refine ok_ite (fun c2 => ?_) (fun c2 => fin)
      rw [m_known hI, bd_some, ite_bI, e30]
      refine ok_ite (fun c3 => ?_) (fun c3 => fin)
      obtain ⟨d, hd, ed1, ed2⟩ := h.2.2.2.1.1
      have c3' := c3
      rw [ed2] at c3'
      obtain ⟨v, hv, rfl⟩ := i_le c3'.1 c3'.2 (by omega)
      have hn : ¬ (0 ≤ a1 ∧ a1 < nI (ncl (dm σ) v)) := fun z => hno ⟨c1, c2, c3, fun v' e hv' => by
        have := (nI_eq2 (by omega) (by omega)).mp e
        subst this
        exact z⟩
      rw [m_rulesBy hw.2.1 hM (by omega), bd_some]
      have := h12 v
      by_cases c0 : rIx (dm σ) v = 10
      · rw [rxI_no c0, if_pos rfl]
        exact fin
      · have hx := rIx_lt hw.2.1 v c0
        have h10 := hw.2.1.1
        rw [rxI_ix c0, if_neg (show ¬ nI (rIx (dm σ) v) = -1 from fun z => (nI_m1 (by omega)).mp z), gd_n (by omega) (by omega)]
        simp (disch := omega) only [nI_ix]
        rw [m_ncl hw.2.1 hM c0, e_within, bd_some, ite_bI, if_neg (fun z => hn ((nI_sub1 (by omega)).mp z))]
        exact fin
theorem sort_iff {a : Int32} : (0 ≤ a ∧ a ≤ 1) ↔ (a = 0 ∨ a = 1) := by
  refine ⟨fun z => ?_, fun z => ?_⟩
  · obtain ⟨x, hx, rfl⟩ := i_le (n := 1) z.1 z.2 (by omega)
    rcases (by omega : x = 0 ∨ x = 1) with rfl | rfl
    · exact Or.inl rfl
    · exact Or.inr rfl
  · rcases z with rfl | rfl <;> exact ⟨by decide, by decide⟩
theorem sort_of {a : Int32} (h : a = 0 ∨ a = 1) : ∃ o, o < 2 ∧ a = nI o := by
  rcases h with rfl | rfl
  · exact ⟨0, by omega, rfl⟩
  · exact ⟨1, by omega, rfl⟩
theorem cls_lt (hw : DW D) {v o s : Nat} (ho : o < 2) (hs : s < 40) : cls D v o s < 40 := Rc_lt (fun a b z => ⟨(lk_lt hw ho z).1, (lk_lt hw ho z).2.1⟩) hs (lst_spec (p := fun t => Rc (lk D v o) s t) ⟨s, Rc_refl s⟩).1
theorem op_classOf (h : Inv (KK GK C W B P) σ) (hS : SK GK C W B P) (a1 a2 a3 a4 a5 : Int32) : ∃ σ', lw_op 14 a1 a2 a3 a4 a5 σ σ' ∧ Inv (KK GK C W B P) σ' := by
  have hK := KK_KX hS
  show ∃ σ', (∃ (r : Int32) (σ1 : jM), f_X12_classOf a1 a2 a3 σ = some (r, σ1) ∧ f_X13_classOf a1 a2 a3 σ1 = some (r, σ')) ∧ Inv (KK GK C W B P) σ'
  refine op_q (σ := σ) hK (R := fun r => (∃ o s v, o < 2 ∧ s < 40 ∧ v ≤ 100000 ∧ a1 = nI o ∧ a2 = nI s ∧ a3 = nI v ∧ kn σ a3 ∧ r = nI (cls (dm σ) v o (std (dm σ) v s))) ∨ (r = -1 ∧ ¬ ((a1 = 0 ∨ a1 = 1) ∧ (0 ≤ a2 ∧ a2 < 40) ∧ kn σ a3))) ?_ ?_
  · unfold f_X12_classOf f_X12_classOf_22
    rw [e_isSort, bd_some, ite_bI]
    refine ok_ite (fun c1 => ?_) (fun c1 => ok_ret ⟨h, rfl, rfl, Or.inr ⟨rfl, fun z => c1 z.1⟩⟩)
    rw [e_isSign, bd_some, ite_bI]
    refine ok_ite (fun c2 => ?_) (fun c2 => ok_ret ⟨h, rfl, rfl, Or.inr ⟨rfl, fun z => c2 z.2.1⟩⟩)
    refine ok_bd (c_seeGrid hS h a3) (fun r τ hh => ?_)
    obtain ⟨rfl, h1, h2, h3, h4⟩ := hh
    have e30 : rI τ 3 0 = rI σ 3 0 := h3.I _ _ (fun z => by have := ccr_ge z; omega)
    rw [ite_bI]
    refine ok_ite (fun c3 => ?_) (fun c3 => ok_ret ⟨h1, h2, e30, Or.inr ⟨rfl, fun z => c3 z.2.2⟩⟩)
    obtain ⟨v, rfl, hV, hG⟩ := h4 c3
    rw [h2] at hG
    obtain ⟨o, ho, rfl⟩ := sort_of c1
    obtain ⟨s, hs, rfl⟩ := i_lt (n := 40) c2.1 c2.2 (by omega)
    have e18 : rI τ 18 s = nI (std (dm σ) v s) := by rw [← h2]; exact hV.2.2.2.1.2 s hs
    have s1 := std_lt (D := dm σ) v hs
    simp (disch := omega) only [gd_n, nI_ix]
    rw [e18, gd_n s1 (by omega)]
    simp (disch := omega) only [nI_ix]
    rw [e_leastReach s1 (fun a b z => ⟨(lk_lt h.2.1 ho z).1, (lk_lt h.2.1 ho z).2.1⟩) (hG.2.2.2 o ho _ s1), bd_some]
    exact ok_ret ⟨h1, h2, e30, Or.inl ⟨o, s, v, ho, hs, hV.2.1, rfl, rfl, rfl, c3, rfl⟩⟩
  · intro r τ hI hD e30 hR
    unfold f_X13_classOf f_X13_classOf_29
    have hM := MD_thr hI
    rw [hD] at hM
    have hw := hI.2.1
    rw [hD] at hw
    have fin : ok (some ((-1 : Int32), wI τ 324 0 0)) (fun r' τ' => r' = -1 ∧ Fr scr τ τ') := ok_ret ⟨rfl, Fr_thr τ 0⟩
    rw [e_within, bd_some, ite_bI, ite_iff sort_iff]
    rcases hR with ⟨o, s, v, ho, hs, hv, rfl, rfl, rfl, c3, rfl⟩ | ⟨rfl, hno⟩
    · have s1 := std_lt (D := dm σ) v hs
      rw [if_pos (by rcases (by omega : o = 0 ∨ o = 1) with rfl | rfl; exact Or.inl rfl; exact Or.inr rfl), e_isSignNumber, bd_some, ite_bI, if_pos ⟨nI_pos' (by omega), (nI_lt2 (b := 40) (by omega) (by omega)).mpr hs⟩, m_known hI, bd_some, ite_bI, e30, if_pos c3]
      refine ok_bd (m_findLinks hw hM hv) (fun _ τ1 g1 => ?_)
      obtain ⟨⟨m1, m2, m3, m4, m5⟩, gF⟩ := g1
      rw [gd_n hs (by omega)]
      simp (disch := omega) only [nI_ix]
      rw [m1 s hs, li40, pk_mul, nI_add, gd_n (by omega) (by omega)]
      simp (disch := omega) only [nI_ix]
      rw [m5 o ho _ s1]
      exact ok_ret ⟨rfl, thr_scr gF (fun k j => wlks_scr)⟩
    · refine ok_ite (fun c1 => ?_) (fun c1 => fin)
      rw [e_isSignNumber, bd_some, ite_bI]
      refine ok_ite (fun c2 => ?_) (fun c2 => fin)
      rw [m_known hI, bd_some, ite_bI, e30, if_neg (fun z => hno ⟨c1, c2, z⟩)]
      exact fin
/-! how many links -/
noncomputable def lkb (D : dD) (v o a b : Nat) : Bool := @decide (lk D v o a b) (Classical.propDecidable _)
theorem lkb_t {v o a b : Nat} : lkb D v o a b = true ↔ lk D v o a b := by
  unfold lkb
  exact @decide_eq_true_iff _ (Classical.propDecidable _)
noncomputable def nlk (D : dD) (v o : Nat) : Nat := cnt (fun k => decide (k / 40 < k % 40) && lkb D v o (k / 40) (k % 40)) 1600
theorem cnt_add (p : Nat → Bool) (n m : Nat) : cnt p (n + m) = cnt p n + cnt (fun i => p (n + i)) m := by
  induction m with
  | zero => rfl
  | succ m ih => rw [← Nat.add_assoc, cnt_s, ih, cnt_s, Nat.add_assoc]
theorem cnt_grid (p : Nat → Bool) (m : Nat) : cnt p (40 * m) = sm (fun a => cnt (fun b => p (40 * a + b)) 40) m := by
  induction m with
  | zero => rfl
  | succ m ih => rw [show 40 * (m + 1) = 40 * m + 40 by omega, cnt_add, ih, sm_s]
theorem cnt_split (p : Nat → Bool) {a n : Nat} (ha : a < n) (hp : p a = false) : cnt p n = cnt p a + cnt (fun b => decide (a < b) && p b) n := by
  induction n with
  | zero => omega
  | succ n ih =>
    rcases Nat.lt_or_ge a n with w | w
    · rw [cnt_s, cnt_s, ih w, decide_eq_true w, Bool.true_and, Nat.add_assoc]
    · have e : a = n := by omega
      subst e
      rw [cnt_s, hp, cnt_zero (p := fun b => decide (a < b) && p b) (fun i hi => by rw [decide_eq_false (by omega)]; rfl)]
      rfl
theorem lk_twice (hw : DW D) {v o : Nat} (ho : o < 2) : sm (fun a => cnt (fun b => lkb D v o a b) 64) 40 = 2 * nlk D v o := by
  have nf : ∀ a b, ¬ lk D v o a b → lkb D v o a b = false := fun a b z => Bool.eq_false_iff.mpr (fun y => z (lkb_t.mp y))
  have e1 : ∀ a, a < 40 → cnt (fun b => lkb D v o a b) 64 = cnt (fun b => lkb D v o b a) a + cnt (fun b => decide (a < b) && lkb D v o a b) 40 := by
    intro a ha
    rw [show 64 = 40 + 24 from rfl, cnt_add, cnt_zero (p := fun i => lkb D v o a (40 + i)) (fun i hi => nf _ _ (fun z => by have := (lk_lt hw ho z).2.1; omega)), Nat.add_zero, cnt_split (fun b => lkb D v o a b) ha (nf a a (fun z => (lk_lt hw ho z).2.2 rfl))]
    congr 1
    refine cnt_congr (fun b _ => ?_)
    by_cases c : lk D v o a b
    · rw [lkb_t.mpr c, lkb_t.mpr (lk_symm v o a b c)]
    · rw [nf a b c, nf b a (fun z => c (lk_symm v o b a z))]
  have e2 : ∀ m, m ≤ 40 → sm (fun a => cnt (fun b => lkb D v o a b) 64) m = sm (fun a => cnt (fun b => lkb D v o b a) a) m + sm (fun a => cnt (fun b => decide (a < b) && lkb D v o a b) 40) m := by
    intro m
    induction m with
    | zero => intro _; rfl
    | succ m ih =>
      intro hm
      rw [sm_s, sm_s, sm_s, ih (by omega), e1 m (by omega)]
      omega
  rw [e2 40 (Nat.le_refl _), ← dbl_cnt (fun x y => lkb D v o x y) 40]
  have e3 : nlk D v o = sm (fun a => cnt (fun b => decide (a < b) && lkb D v o a b) 40) 40 := by
    unfold nlk
    rw [show 1600 = 40 * 40 from rfl, cnt_grid]
    refine sm_congr (fun a ha => cnt_congr (fun b hb => ?_))
    rw [show (40 * a + b) / 40 = a by omega, show (40 * a + b) % 40 = b by omega]
  rw [e3]
  omega
theorem c_linkCount (hw : DW D) {v o : Nat} (ho : o < 2) (hA : Adj σ (279 + o) (lk D v o)) : f_X4_linkCount (nI o) σ = some (nI (nlk D v o), σ) := by
  have hle : ∀ m, m ≤ 40 → sm (fun a => cnt (fun b => lkb D v o a b) 64) m ≤ 2560 := fun m hm => by
    have := sm_bound (f := fun a => cnt (fun b => lkb D v o a b) 64) (n := m) (B := 64) (fun i _ => cnt_le _ _)
    omega
  refine ok_eq ?_
  unfold f_X4_linkCount
  refine L_X4_linkCount_4 40 (fun s l2 l3 τ => l2 = nI (sm (fun a => cnt (fun b => lkb D v o a b) 64) s) ∧ l3 = nI s ∧ τ = σ) (by omega) (fun s q l2 l3 τ hk hI hq => ?_) (Nat.zero_le _) ⟨rfl, rfl, rfl⟩
  obtain ⟨rfl, rfl, rfl⟩ := hI
  unfold s_X4_linkCount_4
  rw [li40]
  simp (disch := omega) only [nI_le2, nI_ix]
  by_cases c : s < 40
  · rw [if_neg (by omega), gd_n ho (by omega), gd_n c (by omega), e_bcx, bd_some, bcx_eq, cnt_congr (q := fun b => lkb D v o s b) (fun i hi => ?_), nI_add]
    · exact hq (s + 1) _ _ _ (by omega) (by omega) ⟨by rw [sm_s], nI_1 s, rfl⟩
    · have := hA.2.1 s c i hi
      by_cases z : lk D v o s i
      · rw [this.mpr z, lkb_t.mpr z]
      · rw [Bool.eq_false_iff.mpr (fun y => z (this.mp y)), Bool.eq_false_iff.mpr (fun y => z (lkb_t.mp y))]
  · have e : s = 40 := by omega
    subst e
    rw [if_pos (by omega), lk_twice hw ho, li2, div_n (by have := hle 40 (by omega); rw [lk_twice hw ho] at this; omega) (by omega) (by omega), Nat.mul_div_cancel_left _ (by omega)]
    exact ok_ret ⟨rfl, rfl⟩
theorem m_linksN {v o : Nat} (ho : o < 2) (hA : AM σ 352 (lk D v)) : f_X13_links__34 Fu (nI o) 0 0 σ = some (nI (nlk D v o), σ) := by
  refine ok_eq ?_
  refine L_X13_links__34 1600 (fun k l3 l4 τ => l3 = nI (cnt (fun k => decide (k / 40 < k % 40) && lkb D v o (k / 40) (k % 40)) k) ∧ l4 = nI k ∧ τ = σ) (by omega) (fun k q l3 l4 τ hk hI hq => ?_) (Nat.zero_le _) ⟨rfl, rfl, rfl⟩
  obtain ⟨rfl, rfl, rfl⟩ := hI
  unfold s_X13_links__34 f_X13_links__74
  rw [li1600, li40]
  simp (disch := omega) only [pk_mul, nI_add, nI_le2, div_n, rem_n, rem_n2, nI_ix]
  by_cases c : k < 1600
  · have ea : rI τ 352 (1600 * o + k) = bJ (lk D v o (k / 40) (k % 40)) := by
      have := hA o ho (k / 40) (by omega) (k % 40) (by omega)
      rw [show 1600 * o + 40 * (k / 40) + k % 40 = 1600 * o + k by omega] at this
      exact this
    rw [if_neg (by omega), gd_n (by omega) (by omega), ea]
    have no : ¬ ((fun k => decide (k / 40 < k % 40) && lkb D v o (k / 40) (k % 40)) k = true) → ok (q (nI o) (nI (cnt (fun k => decide (k / 40 < k % 40) && lkb D v o (k / 40) (k % 40)) k)) (nI k + 1) τ) (fun a s => a = nI (nlk D v o) ∧ s = τ) := fun z => hq (k + 1) _ _ _ (by omega) (by omega) ⟨by rw [cnt_s, if_neg z, Nat.add_zero], nI_1 k, rfl⟩
    refine ok_ite (fun z => no (fun y => bJ_0.mp z (lkb_t.mp (Bool.and_eq_true_iff.mp y).2))) (fun z => ok_ite (fun z2 => no (fun y => by have := of_decide_eq_true (Bool.and_eq_true_iff.mp y).1; omega)) (fun z2 => ?_))
    have z : lk D v o (k / 40) (k % 40) := Classical.byContradiction (fun w => z (bJ_0.mpr w))
    refine hq (k + 1) _ _ _ (by omega) (by omega) ⟨?_, nI_1 k, rfl⟩
    rw [cnt_s, if_pos (by rw [decide_eq_true (by omega), lkb_t.mpr z]; rfl), nI_1]
  · have e : k = 1600 := by omega
    subst e
    rw [if_pos (by omega)]
    exact ok_ret ⟨rfl, rfl⟩
theorem op_links (h : Inv (KK GK C W B P) σ) (hS : SK GK C W B P) (a1 a2 a3 a4 a5 : Int32) : ∃ σ', lw_op 13 a1 a2 a3 a4 a5 σ σ' ∧ Inv (KK GK C W B P) σ' := by
  have hK := KK_KX hS
  show ∃ σ', (∃ (r : Int32) (σ1 : jM), f_X12_links a1 a2 σ = some (r, σ1) ∧ f_X13_links_ a1 a2 σ1 = some (r, σ')) ∧ Inv (KK GK C W B P) σ'
  refine op_q (σ := σ) hK (R := fun r => (∃ o v, o < 2 ∧ v ≤ 100000 ∧ a1 = nI o ∧ a2 = nI v ∧ kn σ a2 ∧ r = nI (nlk (dm σ) v o)) ∨ (r = -1 ∧ ¬ ((a1 = 0 ∨ a1 = 1) ∧ kn σ a2))) ?_ ?_
  · unfold f_X12_links f_X12_links_15
    rw [e_isSort, bd_some, ite_bI]
    refine ok_ite (fun c1 => ?_) (fun c1 => ok_ret ⟨h, rfl, rfl, Or.inr ⟨rfl, fun z => c1 z.1⟩⟩)
    refine ok_bd (c_seeGrid hS h a2) (fun r τ hh => ?_)
    obtain ⟨rfl, h1, h2, h3, h4⟩ := hh
    have e30 : rI τ 3 0 = rI σ 3 0 := h3.I _ _ (fun z => by have := ccr_ge z; omega)
    rw [ite_bI]
    refine ok_ite (fun c3 => ?_) (fun c3 => ok_ret ⟨h1, h2, e30, Or.inr ⟨rfl, fun z => c3 z.2⟩⟩)
    obtain ⟨v, rfl, hV, hG⟩ := h4 c3
    rw [h2] at hG
    obtain ⟨o, ho, rfl⟩ := sort_of c1
    rw [c_linkCount h.2.1 ho (hG.2.1 o ho), bd_some]
    exact ok_ret ⟨h1, h2, e30, Or.inl ⟨o, v, ho, hV.2.1, rfl, rfl, c3, rfl⟩⟩
  · intro r τ hI hD e30 hR
    unfold f_X13_links_ f_X13_links__22
    have hM := MD_thr hI
    rw [hD] at hM
    have hw := hI.2.1
    rw [hD] at hw
    have fin : ok (some ((-1 : Int32), wI τ 324 0 0)) (fun r' τ' => r' = -1 ∧ Fr scr τ τ') := ok_ret ⟨rfl, Fr_thr τ 0⟩
    rw [e_within, bd_some, ite_bI, ite_iff sort_iff]
    rcases hR with ⟨o, v, ho, hv, rfl, rfl, c3, rfl⟩ | ⟨rfl, hno⟩
    · rw [if_pos (by rcases (by omega : o = 0 ∨ o = 1) with rfl | rfl; exact Or.inl rfl; exact Or.inr rfl), m_known hI, bd_some, ite_bI, e30, if_pos c3]
      refine ok_bd (m_findLinks hw hM hv) (fun _ τ1 g1 => ?_)
      rw [m_linksN ho g1.1.2.2.1]
      exact ok_ret ⟨rfl, thr_scr g1.2 (fun k j => wlks_scr)⟩
    · refine ok_ite (fun c1 => ?_) (fun c1 => fin)
      rw [m_known hI, bd_some, ite_bI, e30, if_neg (fun z => hno ⟨c1, z⟩)]
      exact fin
end OPG
