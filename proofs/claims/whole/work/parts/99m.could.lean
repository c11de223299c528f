/-! could, inGrid -/
section CLD
variable {D : dD} {σ : jM} {v : Nat} {C B P : dD → Nat → jM → Prop}
theorem i_nn {a : Int32} (h : 0 ≤ a) : ∃ k, k < 2147483648 ∧ a = nI k := by
  have h1 : a ≤ nI 2147483647 := by
    rw [Int32.le_iff_toInt_le]
    have := a.toInt_lt
    have e : (nI 2147483647).toInt = 2147483647 := by decide
    rw [e]
    omega
  obtain ⟨k, hk, e⟩ := i_le h h1 (by omega)
  exact ⟨k, by omega, e⟩
noncomputable def cld (W : List (gF × gF)) (s k f : Nat) : Int32 := if f = 0 then on (psb (ppc W s) 135 0 k) else if psb (ppc W s) 135 0 k = 999 then -1 else nI (lct s (psb (ppc W s) 135 0 k) W)
theorem m_could {W : List (gF × gF)} (hlen : W.length ≤ 2097152) (hJ : J0 W σ) {s s0 k f : Nat} (hs : s < 40) (hs0 : s0 < 40) (h43 : rI σ 343 s0 = nI s) (hk : k < 2147483648) (hf : f < 2) : f_X13_could_47 Fu (nI s0) (nI f) (nI k) 0 σ = some (cld W s k f, σ) := by
  refine ok_eq ?_
  generalize hR : psb (ppc W s) 135 0 k = R
  have hcl : cld W s k f = if f = 0 then on R else if R = 999 then -1 else nI (lct s R W) := by unfold cld; rw [hR]
  rw [hcl]
  refine L_X13_could_47 135 (fun c l5 l6 τ => ∃ k', k' < 2147483648 ∧ l5 = nI k' ∧ l6 = nI c ∧ τ = σ ∧ R = psb (ppc W s) (135 - c) c k') (by omega) (fun c p l5 l6 τ hkc hI hp => ?_) (Nat.zero_le _) ⟨k, hk, rfl, rfl, rfl, hR.symm⟩
  obtain ⟨k', hk', rfl, rfl, rfl, hq⟩ := hI
  unfold s_X13_could_47 f_X13_could_104 f_X13_could_100
  rw [li135, li136, ite_iff (nI_le2 (by omega) (by omega))]
  by_cases cc : c < 135
  · obtain ⟨m, hm⟩ : ∃ m, 135 - c = m + 1 := ⟨134 - c, by omega⟩
    have hm2 : 135 - (c + 1) = m := by omega
    have hle := lct_le s c W
    rw [hm, psb_s] at hq
    rw [if_neg (by omega), gd_n hs0 (by omega)]
    simp (disch := omega) only [nI_ix]
    rw [h43, pk_mul, nI_add, gd_n (by omega) (by omega)]
    simp (disch := omega) only [nI_ix]
    rw [hJ.2 s hs c (by omega), ite_iff (show nI (lct s c W) = 0 ↔ lct s c W = 0 from nI_eq2 (b := 0) (by omega) (by omega))]
    refine ok_ite (fun y => ?_) (fun y => ?_)
    · rw [if_neg (fun w => by have := of_decide_eq_true w; omega)] at hq
      exact hp (c + 1) _ _ _ (by omega) (by omega) ⟨k', hk', rfl, nI_1 c, rfl, by rw [hm2]; exact hq⟩
    · have hy : ppc W s c = true := decide_eq_true (by omega)
      rw [if_pos hy] at hq
      rw [ite_iff (show nI k' = 0 ↔ k' = 0 from nI_eq2 (b := 0) (by omega) (by omega)), ite_iff (show nI f = 0 ↔ f = 0 from nI_eq2 (b := 0) (by omega) (by omega))]
      refine ok_ite (fun x => ?_) (fun x => ?_)
      · rw [if_pos x] at hq
        rw [hq]
        refine ok_ite (fun w => ok_ret ⟨by rw [if_pos w, on_n (by omega)], rfl⟩) (fun w => ok_ret ⟨by rw [if_neg w, if_neg (by omega)], rfl⟩)
      · rw [if_neg x] at hq
        have ek : nI k' + -1 = nI (k' - 1) := by rw [show (-1 : Int32) = zi (-1) from rfl, nI_zi, zi_add, nI_zi]; congr 1; omega
        exact hp (c + 1) _ _ _ (by omega) (by omega) ⟨k' - 1, by omega, ek, nI_1 c, rfl, by rw [hm2]; exact hq⟩
  · rw [if_pos (by omega)]
    rw [show 135 - c = 0 by omega] at hq
    have e9 : R = 999 := hq
    refine ok_ret ⟨?_, rfl⟩
    rw [e9]
    split
    · rfl
    · rfl
theorem op_could (h : Inv (KK GK C WK B P) σ) (hS : SK GK C WK B P) (a1 a2 a3 a4 a5 : Int32) : ∃ σ', lw_op 30 a1 a2 a3 a4 a5 σ σ' ∧ Inv (KK GK C WK B P) σ' := by
  have hK := KK_KX hS
  show ∃ σ', (∃ (r : Int32) (σ1 : jM), f_X12_could a1 a2 a3 a4 σ = some (r, σ1) ∧ f_X13_could a1 a2 a3 a4 σ1 = some (r, σ')) ∧ Inv (KK GK C WK B P) σ'
  refine op_q (σ := σ) hK (R := fun r => (∃ v s k f, v ≤ 100000 ∧ s < 40 ∧ k < 2147483648 ∧ f < 2 ∧ a1 = nI v ∧ a2 = nI s ∧ a3 = nI k ∧ a4 = nI f ∧ kn σ a1 ∧ r = cld (WW (dm σ) v 0) (std (dm σ) v s) k f) ∨ (r = -1 ∧ ¬ (kn σ a1 ∧ (0 ≤ a2 ∧ a2 < 40) ∧ 0 ≤ a3 ∧ (0 ≤ a4 ∧ a4 ≤ 1)))) ?_ ?_
  · unfold f_X12_could f_X12_could_30 f_X12_could_73 f_X12_could_89
    rw [e_isSign, bd_some, ite_bI]
    refine ok_ite (fun c1 => ?_) (fun c1 => ok_ret ⟨h, rfl, rfl, Or.inr ⟨rfl, fun z => c1 z.2.1⟩⟩)
    refine ok_ite (fun c2 => ok_ret ⟨h, rfl, rfl, Or.inr ⟨rfl, fun z => i_nlt.mpr z.2.2.1 c2⟩⟩) (fun c2 => ?_)
    refine ok_ite (fun c4 => ok_ret ⟨h, rfl, rfl, Or.inr ⟨rfl, fun z => i_nlt.mpr z.2.2.2.1 c4⟩⟩) (fun c4 => ?_)
    refine ok_ite (fun c5 => ok_ret ⟨h, rfl, rfl, Or.inr ⟨rfl, fun z => i_nlt.mpr z.2.2.2.2 c5⟩⟩) (fun c5 => ?_)
    refine ok_bd (c_seeGrid hS h a1) (fun r τ hh => ?_)
    obtain ⟨rfl, h1, h2, h3, h4⟩ := hh
    have e30 : rI τ 3 0 = rI σ 3 0 := h3.I _ _ (fun z => by have := ccr_ge z; omega)
    rw [ite_bI]
    refine ok_ite (fun c3 => ?_) (fun c3 => ok_ret ⟨h1, h2, e30, Or.inr ⟨rfl, fun z => c3 z.1⟩⟩)
    obtain ⟨v, rfl, hV, hG⟩ := h4 c3
    refine ok_bd (c_countWays hS hV hG) (fun _ τ1 t => ?_)
    obtain ⟨t1, t2, t3, t4⟩ := t
    rw [h2] at t4
    obtain ⟨s, hs, rfl⟩ := i_lt (n := 40) c1.1 c1.2 (by omega)
    obtain ⟨k, hk, rfl⟩ := i_nn (i_nlt.mp c2)
    obtain ⟨f, hf, rfl⟩ := i_le (n := 1) (i_nlt.mp c4) (i_nlt.mp c5) (by omega)
    have e18 : rI τ1 18 s = nI (std (dm σ) v s) := by rw [← h2, ← t2]; exact t1.2.2.2.1.2 s hs
    have hst := std_lt (D := dm σ) v hs
    have hlen := WW_len h.2.1 (v := v) 0
    rw [gd_n hs (by omega)]
    simp (disch := omega) only [nI_ix]
    rw [e18, c_possibleCell h.2.1 t4 hst hk, bd_some, ite_iff (show nI f = 0 ↔ f = 0 from nI_eq2 (b := 0) (by omega) (by omega))]
    have fin : ∀ r, r = cld (WW (dm σ) v 0) (std (dm σ) v s) k f → ok (some (r, τ1)) (fun r τ => Inv (KK GK C WK B P) τ ∧ dm τ = dm σ ∧ rI τ 3 0 = rI σ 3 0 ∧ ((∃ v' s' k' f', v' ≤ 100000 ∧ s' < 40 ∧ k' < 2147483648 ∧ f' < 2 ∧ nI v = nI v' ∧ nI s = nI s' ∧ nI k = nI k' ∧ nI f = nI f' ∧ kn σ (nI v) ∧ r = cld (WW (dm σ) v' 0) (std (dm σ) v' s') k' f') ∨ (r = -1 ∧ ¬ (kn σ (nI v) ∧ (0 ≤ nI s ∧ nI s < 40) ∧ 0 ≤ nI k ∧ (0 ≤ nI f ∧ nI f ≤ 1))))) := fun r hr => ok_ret ⟨t1.1, t2.trans h2, t3.trans e30, Or.inl ⟨v, s, k, f, hV.2.1, hs, hk, by omega, rfl, rfl, rfl, rfl, c3, hr⟩⟩
    unfold cld at fin
    rcases psb_lt (ppc (WW (dm σ) v 0) (std (dm σ) v s)) 135 0 k (by omega) with e9 | e9
    · rw [e9] at fin ⊢
      refine ok_ite (fun z => fin _ (by rw [if_pos z])) (fun z => ?_)
      rw [if_pos (show on 999 = -1 from rfl)]
      exact fin _ (by rw [if_neg z, if_pos rfl]; rfl)
    · generalize psb (ppc (WW (dm σ) v 0) (std (dm σ) v s)) 135 0 k = c at *
      refine ok_ite (fun z => fin _ (by rw [if_pos z])) (fun z => ?_)
      rw [on_n (by omega), if_neg (fun y => (nI_m1 (by omega)).mp y), e_waysWith hst e9, bd_some, t4.2.1 _ hst c e9]
      exact fin _ (by rw [if_neg z, if_neg (by omega)])
  · intro r τ hI hD e30 hR
    unfold f_X13_could f_X13_could_34
    have hM := MD_thr hI
    rw [hD] at hM
    have hw := hI.2.1
    rw [hD] at hw
    rw [m_known hI, bd_some, ite_bI, e30]
    rcases hR with ⟨v, s, k, f, hv, hs, hk, hf, rfl, rfl, rfl, rfl, c3, rfl⟩ | ⟨rfl, hno⟩
    · rw [if_pos c3, e_isSignNumber, bd_some, ite_bI, if_pos ⟨nI_pos' (by omega), (nI_lt2 (b := 40) (by omega) (by omega)).mpr hs⟩, if_neg (i_nlt.mpr (nI_pos' (by omega))), e_within, bd_some, ite_bI, if_pos ⟨nI_pos' (by omega), (nI_le2 (b := 1) (by omega) (by omega)).mpr (by omega)⟩]
      refine ok_bd (m_findAll hw hM hv) (fun _ τ1 t => ?_)
      obtain ⟨t1, -, t3, t4⟩ := t
      rw [m_could (WW_len hw 0) t1 (std_lt v hs) hs (t3 s hs) hk hf]
      exact ok_ret ⟨rfl, thr_scr t4 (fun k j => wfa_scr)⟩
    · refine ok_ite (fun c3 => ?_) (fun c3 => ok_ret ⟨rfl, Fr_thr τ 0⟩)
      rw [e_isSignNumber, bd_some, ite_bI]
      refine ok_ite (fun c1 => ?_) (fun c1 => ok_ret ⟨rfl, Fr_thr τ 0⟩)
      refine ok_ite (fun c2 => ok_ret ⟨rfl, Fr_thr τ 0⟩) (fun c2 => ?_)
      rw [e_within, bd_some, ite_bI, if_neg (fun z => hno ⟨c3, c1, i_nlt.mp c2, z⟩)]
      exact ok_ret ⟨rfl, Fr_thr τ 0⟩
end CLD
