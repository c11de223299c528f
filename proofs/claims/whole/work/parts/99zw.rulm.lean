/-! the rules: the reference -/
section RLM
variable {σ : jM} {n p q s : Nat} {T : Nat → Nat}
abbrev wrk (c k j : Nat) : Prop := (k = 324 ∧ 17 ≤ j ∧ j ≤ 22) ∨ (k = 331 ∧ j = 10) ∨ (332 ≤ k ∧ k ≤ 335 ∧ j = 120 + c)
/-- after a clause -/
def RC1 (n : Nat) (T : Nat → Nat) (p c : Nat) (σ τ : jM) : Prop := SG τ ∧ Fr (wrk c) σ τ ∧ ((knd n T p ≠ 9 ∧ c ≠ 12 ∧ (cR n T p).1 = 0 ∧ isB n T (cR n T p).2.1 59 ∧ rI τ 324 21 = 0 ∧ rI τ 331 10 = nI (c + 1) ∧ rI τ 332 (120 + c) = nI (knd n T p) ∧ CDm (120 + c) (knd n T p) (cR n T p).2.2 τ ∧ TKm n T (en n T (cR n T p).2.1) τ) ∨ (∃ f s, f ≠ 0 ∧ f ≤ 3 ∧ rI τ 324 21 = nI f ∧ rI τ 324 22 = nI s ∧ (f, s) = (if knd n T p = 9 then (1, stt n T p) else if c = 12 then (3, stt n T p) else if (cR n T p).1 = 0 then (1, stt n T (cR n T p).2.1) else ((cR n T p).1, (cR n T p).2.1)) ∧ ¬ (knd n T p ≠ 9 ∧ c ≠ 12 ∧ (cR n T p).1 = 0 ∧ isB n T (cR n T p).2.1 59)))
theorem m_rc88 (hT : TPm n T σ) (h : TKm n T p σ) (hp : p ≤ n) (hwl : rI σ 324 21 = 0) (hS : SG σ) {c : Nat} (hc : c < 12) (h31 : rI σ 331 10 = nI c) (hk : knd n T p ≠ 9) : ok (f_X13_readClause_88 (nI (knd n T p)) σ) (fun _ τ => RC1 n T p c σ τ) := by
  have hkd := (knd_le (n := n) (T := T) p).resolve_left hk
  have t10 : Int32.toNatClampNeg 10 = 10 := rfl
  have i10 : inb 10 11 := nI_inb (a := 10) (by omega) (by omega)
  have l1 := (en_le (T := T) hp).2
  unfold f_X13_readClause_88
  rw [e_isWell, bd_some, bI_pos hwl, if_neg (by decide), gd_pos i10, gd_pos i10, gd_pos i10, t10, h31, li120, nI_add, gd_n (by omega) (by omega), nI_1]
  simp (disch := omega) only [nI_ix]
  have hF1 : Fr (wrk c) σ (wI (wI σ 331 10 (nI (c + 1))) 332 (120 + c) (nI (knd n T p))) := Fr.w (Fr.w Fr.refl (by omega)) (by omega)
  have hS1 : SG (wI (wI σ 331 10 (nI (c + 1))) 332 (120 + c) (nI (knd n T p))) := SG_w (SG_w hS (fun _ => nI_pos' (by omega)) (fun z => absurd z (by decide))) (fun _ => nI_pos' (by omega)) (fun z => absurd z (by decide))
  refine ok_bd (m_nx (TPm_fr hT hF1 (by omega) (fun j => by omega)) (TKm_fr h (fun j _ _ => by rw [rI_nk (by omega), rI_nk (by omega)])) hp) (fun _ τ w => ?_)
  have hF2 : Fr (wrk c) σ τ := hF1.trans (w.2.mono (fun k j z => by omega))
  have hT2 : TPm n T τ := TPm_fr hT hF2 (by omega) (fun j => by omega)
  have hS2 : SG τ := SG_fr hS1 w.2 (fun k j z => by omega)
  have hw2 : rI τ 324 21 = 0 := by rw [w.2.I _ _ (by omega), rI_nk (by omega), rI_nk (by omega)]; exact hwl
  have e31 : rI τ 331 10 = nI (c + 1) := by rw [w.2.I _ _ (by omega), rI_nk (by omega), rI_same]
  have e32 : rI τ 332 (120 + c) = nI (knd n T p) := by rw [w.2.I _ _ (by omega), rI_same]
  have hcd := cR_cd (n := n) (T := T) p
  have K : ∀ τ', PSm n T (120 + c) (knd n T p) (cR n T p) τ τ' → ok (f_X13_readClause_442 τ') (fun _ τ => RC1 n T p c σ τ) := fun τ' u => by
    obtain ⟨u1, u2, u3⟩ := u
    have hF3 : Fr (wrk c) σ τ' := hF2.trans (u2.mono (fun k j z => by omega))
    rcases u3 with ⟨v1, v2, v3, v4⟩ | ⟨v1, v2, v3⟩
    · have hT3 : TPm n T τ' := TPm_fr hT hF3 (by omega) (fun j => by omega)
      have hle : (cR n T p).2.1 ≤ n := (clR_ok (kd := knd n T p) l1 v1).1
      unfold f_X13_readClause_442 f_X13_wantSign f_X13_wantSign_28
      have e := m_isSgn hT3 v3 (b := 59) (by omega)
      have e : f_X13_isSign 59 τ' = _ := e
      rw [e_isWell, bd_some, bI_pos v2, if_neg (by decide), e, bd_some, ite_bI]
      by_cases x : isB n T (cR n T p).2.1 59
      · rw [if_pos x]
        obtain ⟨a, τ2, e1, z⟩ := m_nx hT3 v3 hle
        rw [e1, bd_some, bd_some]
        refine ok_ret ⟨SG_fr u1 z.2 (fun k j z => by omega), hF3.trans (z.2.mono (fun k j z => by omega)), Or.inl ⟨hk, by omega, v1, x, (z.2.I _ _ (by omega)).trans v2, ?_, ?_, ⟨?_, fun y => ?_, fun y => ?_⟩, z.1⟩⟩
        · rw [z.2.I _ _ (by omega), u2.I _ _ (by omega)]; exact e31
        · rw [z.2.I _ _ (by omega), u2.I _ _ (by omega)]; exact e32
        · rw [z.2.I _ _ (by omega)]; exact v4.1
        · rw [z.2.I _ _ (by omega), z.2.I _ _ (by omega)]; exact v4.2.1 y
        · rw [z.2.I _ _ (by omega)]; exact v4.2.2 y
      · rw [if_neg x, m_fails v2, bd_some, bd_some]
        refine ok_ret ⟨SG_fr u1 (W := wmN) (Fr.w (Fr.w Fr.refl (by omega)) (by omega)) (fun k j z => by omega), Fr.w (Fr.w hF3 (by omega)) (by omega), Or.inr ⟨1, stt n T (cR n T p).2.1, by omega, by omega, by rw [rI_nj (by omega), rI_same]; rfl, by rw [rI_same]; exact v3.1, by rw [if_neg hk, if_neg (by omega), if_pos v1], fun y => x y.2.2.2⟩⟩
    · rw [t442 (by rw [v2]; exact nI_nz3 v1 hcd)]
      exact ok_ret ⟨u1, hF3, Or.inr ⟨_, _, v1, hcd, v2, v3, by rw [if_neg hk, if_neg (by omega), if_neg v1], fun y => v1 y.2.2.1⟩⟩
  unfold cR clR at K
  rcases (by omega : knd n T p < 2 ∨ knd n T p = 2 ∨ knd n T p = 3) with d | d | d
  · rw [if_neg (show ¬ knd n T p = 2 by omega), if_neg (show ¬ knd n T p = 3 by omega)] at K
    rw [if_neg (show ¬ (2 : Int32) ≤ nI (knd n T p) from fun z => by have := (nI_le2 (a := 2) (by omega) (by omega)).mp z; omega)]
    simp (disch := omega) only [gd_n]
    have := m_shHead (y := 120 + c) hT2 w.1 l1 hw2 hS2 (by omega) d K
    simp (disch := omega) only [gd_n] at this
    exact this
  · rw [d] at K ⊢
    rw [if_pos rfl] at K
    rw [if_pos (by decide)]
    have := m_wrTail (y := 120 + c) hT2 w.1 l1 hw2 hS2 (by omega) K
    simp (disch := omega) only [gd_n] at this ⊢
    exact this
  · rw [d] at K ⊢
    rw [if_neg (by omega), if_pos rfl] at K
    rw [if_pos (by decide)]
    have := m_drTail (y := 120 + c) hT2 w.1 l1 hw2 hS2 (by omega) K
    simp (disch := omega) only [gd_n] at this ⊢
    exact this
theorem m_readClause (hT : TPm n T σ) (h : TKm n T p σ) (hp : p ≤ n) (hwl : rI σ 324 21 = 0) (hS : SG σ) {c : Nat} (hc : c ≤ 12) (h31 : rI σ 331 10 = nI c) : ok (f_X13_readClause σ) (fun _ τ => RC1 n T p c σ τ) := by
  have t10 : Int32.toNatClampNeg 10 = 10 := rfl
  have i10 : inb 10 11 := nI_inb (a := 10) (by omega) (by omega)
  have ret : ∀ (f : Nat) (l : Int32), f < 3 → f_X13_readClause_88 l (wI (wI σ 324 21 (nI (f + 1))) 324 22 (rI σ 324 18)) = some ((), wI (wI σ 324 21 (nI (f + 1))) 324 22 (rI σ 324 18)) := fun f l hf => by
    unfold f_X13_readClause_88
    rw [e_isWell, bd_some, bI_neg (fun z => ?_), if_pos rfl]
    rw [rI_nj (by omega), rI_same] at z
    exact nI_nz3 (f := f + 1) (by omega) (by omega) z
  have fin : ∀ f : Nat, f < 3 → (f + 1, stt n T p) = (if knd n T p = 9 then (1, stt n T p) else if c = 12 then (3, stt n T p) else if (cR n T p).1 = 0 then (1, stt n T (cR n T p).2.1) else ((cR n T p).1, (cR n T p).2.1)) → ¬ (knd n T p ≠ 9 ∧ c ≠ 12 ∧ (cR n T p).1 = 0 ∧ isB n T (cR n T p).2.1 59) → ok (some ((), wI (wI σ 324 21 (nI (f + 1))) 324 22 (rI σ 324 18))) (fun _ τ => RC1 n T p c σ τ) := fun f hf x1 x2 => ok_ret ⟨SG_fr hS (W := wmN) (Fr.w (Fr.w Fr.refl (by omega)) (by omega)) (fun k j z => by omega), Fr.w (Fr.w Fr.refl (by omega)) (by omega), Or.inr ⟨f + 1, stt n T p, by omega, by omega, by rw [rI_nj (by omega), rI_same], by rw [rI_same]; exact h.1, x1, x2⟩⟩
  have go : knd n T p ≠ 9 → ok (f_X13_readClause_57 (nI (knd n T p)) σ) (fun _ τ => RC1 n T p c σ τ) := fun hk => by
    have hkd := (knd_le (n := n) (T := T) p).resolve_left hk
    unfold f_X13_readClause_57
    rw [if_neg (show ¬ nI (knd n T p) = -1 from fun z => (nI_m1 (by omega)).mp z), gd_pos i10, t10, h31, li12, ite_iff (nI_eq2 (by omega) (by omega))]
    refine ok_ite (fun z => ?_) (fun z => m_rc88 hT h hp hwl hS (by omega) h31 hk)
    have e3 : f_X13_fails 3 σ = some ((), wI (wI σ 324 21 (nI (2 + 1))) 324 22 (rI σ 324 18)) := m_fails hwl _
    rw [e3, bd_some, ret 2 _ (by omega)]
    exact fin 2 (by omega) (by rw [if_neg hk, if_pos z]) (fun y => y.2.1 z)
  unfold f_X13_readClause
  rw [m_isWord hT h hp (by omega), bd_some, ite_bI]
  by_cases c0 : isW n T p 0
  · have hk : knd n T p = 0 := by unfold knd; rw [if_pos c0]
    rw [if_pos c0]
    rw [hk] at go
    exact go (by omega)
  rw [if_neg c0, m_isWord hT h hp (by omega), bd_some, ite_bI]
  by_cases c1 : isW n T p 1
  · have hk : knd n T p = 1 := by unfold knd; rw [if_neg c0, if_pos c1]
    rw [if_pos c1]
    rw [hk] at go
    exact go (by omega)
  rw [if_neg c1, m_isWord hT h hp (by omega), bd_some, ite_bI]
  by_cases c2 : isW n T p 2
  · have hk : knd n T p = 2 := by unfold knd; rw [if_neg c0, if_neg c1, if_pos c2]
    rw [if_pos c2]
    rw [hk] at go
    exact go (by omega)
  rw [if_neg c2, m_isWord hT h hp (by omega), bd_some, ite_bI]
  by_cases c3 : isW n T p 3
  · have hk : knd n T p = 3 := by unfold knd; rw [if_neg c0, if_neg c1, if_neg c2, if_pos c3]
    rw [if_pos c3]
    rw [hk] at go
    exact go (by omega)
  rw [if_neg c3]
  have hk : knd n T p = 9 := by unfold knd; rw [if_neg c0, if_neg c1, if_neg c2, if_neg c3]
  unfold f_X13_readClause_57
  have e1 : f_X13_fails 1 σ = some ((), wI (wI σ 324 21 (nI (0 + 1))) 324 22 (rI σ 324 18)) := m_fails hwl _
  rw [if_pos rfl, e1, bd_some, ret 0 _ (by omega)]
  exact fin 0 (by omega) (by rw [if_pos hk]) (fun y => y.1 hk)
end RLM
