/-! tokens: the reference's next -/
section NXT
variable {σ : jM} {n p s : Nat} {T : Nat → Nat}
def sgn (b : Nat) : Int32 := (nI b).toInt8.toInt32
def mkd (k : Nat) : Nat := if k = 1 then 3 else if k = 3 then 4 else if k = 4 then 1 else k
def TKr (n : Nat) (T : Nat → Nat) (s : Nat) (σ : jM) : Prop := rI σ 324 18 = nI s ∧ rI σ 324 17 = nI (ens n T s) ∧ rI σ 324 19 = nI (mkd (kds n T s)) ∧ (kds n T s = 2 → rI σ 324 20 = nI (vvs n T s)) ∧ (kds n T s = 1 ∨ kds n T s = 3 → rI σ 324 20 = sgn (T s))
def TKm (n : Nat) (T : Nat → Nat) (p : Nat) (σ : jM) : Prop := TKr n T (stt n T p) σ
abbrev wmT (k j : Nat) : Prop := k = 324 ∧ 17 ≤ j ∧ j ≤ 20
theorem lt_m : ∀ b : Nat, b < 256 → ((97 ≤ sgn b ∧ sgn b ≤ 122) ↔ (97 ≤ b ∧ b ≤ 122)) := by decide +kernel
theorem dg_m : ∀ b : Nat, b < 256 → ((48 ≤ sgn b ∧ sgn b ≤ 57) ↔ (48 ≤ b ∧ b ≤ 57)) := by decide +kernel
theorem ws_m : ∀ b : Nat, b < 256 → (sgn b = 32 ↔ b = 32) ∧ (sgn b = 10 ↔ b = 10) := by decide +kernel
theorem sgn_lo {b : Nat} (h : b < 128) : sgn b = nI b := by_low b h
theorem m_see (h : TPm n T σ) {k : Nat} (hk : k ≤ n) : f_X13_see (nI k) σ = some (if k < n then sgn (T k) else 0, σ) := by
  have hn := h.1
  unfold f_X13_see f_X13_see_18
  rw [h.2.1, ite_iff (nI_le2 (by omega) (by omega))]
  by_cases c : k < n
  · rw [if_neg (by omega), if_pos c, gd_n (by omega) (by omega), nI_ix (by omega), (h.2.2 k c).2]
    rfl
  · rw [if_pos (by omega), if_neg c]
theorem m_next109 (h : TPm n T σ) (hs : s < n) (hl : 97 ≤ T s ∧ T s ≤ 122) (h8 : rI σ 324 18 = nI s) (h7 : rI σ 324 17 = nI (s + 1)) (h0 : rI σ 324 20 = sgn (T s)) : ok (f_X13_next_109 Fu σ) (fun _ τ => TKr n T s τ ∧ Fr wmT σ τ) := by
  have hn := h.1
  have hk : kds n T s = 1 := by unfold kds; rw [if_neg (by omega), if_pos hl]
  have he : ens n T s = lend n T s := by unfold ens; rw [if_neg (by omega), if_pos hl]
  refine L_X13_next_109 n (fun k τ => rI τ 324 17 = nI k ∧ lend n T s = run (fun i => decide (97 ≤ T i ∧ T i ≤ 122)) (n - k) k ∧ Fr (fun k j => k = 324 ∧ j = 17) σ τ) (by omega) (fun k q τ hkn hI hq => ?_) (k := s + 1) (by omega) ⟨h7, by unfold lend; rw [run_on _ hs (decide_eq_true hl)], Fr.refl⟩
  obtain ⟨i7, i1, hF⟩ := hI
  have h1 : TPm n T τ := TPm_fr h hF (by omega) (fun j => by omega)
  unfold s_X13_next_109 f_X13_next_252
  rw [i7, m_see h1 hkn, bd_some, e_isSmall, bd_some, ite_bI]
  have fin : lend n T s = k → ok (some ((), wI τ 324 19 3)) (fun (_ : Unit) τ => TKr n T s τ ∧ Fr wmT σ τ) := fun z => ok_ret ⟨⟨by rw [rI_nj (by omega), hF.I _ _ (by omega)]; exact h8, by rw [rI_nj (by omega), he, z]; exact i7, by rw [rI_same, hk]; rfl, fun y => by omega, fun _ => by rw [rI_nj (by omega), hF.I _ _ (by omega)]; exact h0⟩, Fr.w (hF.mono (fun k j z => by omega)) (by omega)⟩
  by_cases c : k < n
  · obtain ⟨t1, t2⟩ := h1.2.2 k c
    rw [if_pos c, ite_iff (lt_m _ t1)]
    refine ok_ite (fun y => ?_) (fun y => fin (by rw [i1, run_off _ c (fun w => y (of_decide_eq_true w))]))
    rw [run_on _ c (decide_eq_true y)] at i1
    rw [i7, nI_1]
    exact hq (k + 1) _ (by omega) (by omega) ⟨rI_same _ _ _ _, i1, Fr.w hF (by omega)⟩
  · rw [if_neg c, if_neg (by decide)]
    exact fin (by rw [i1, run_end _ (by omega)])
theorem m_next159 (h : TPm n T σ) (hs : s < n) (hl : 48 ≤ T s ∧ T s ≤ 57) (h8 : rI σ 324 18 = nI s) (h7 : rI σ 324 17 = nI (s + 1)) (h0 : rI σ 324 20 = nI (T s - 48)) : ok (f_X13_next_159 Fu σ) (fun _ τ => TKr n T s τ ∧ Fr wmT σ τ) := by
  have hn := h.1
  have hk : kds n T s = if dend n T s - s ≤ 2 then 2 else 4 := by unfold kds; rw [if_neg (by omega), if_neg (by omega), if_pos hl]
  have he : ens n T s = dend n T s := by unfold ens; rw [if_neg (by omega), if_neg (by omega), if_pos hl]
  refine L_X13_next_159 n (fun k τ => rI τ 324 17 = nI k ∧ s + 1 ≤ k ∧ rI τ 324 20 = nI (dv T s (min (k - s) 2)) ∧ dend n T s = run (fun i => decide (48 ≤ T i ∧ T i ≤ 57)) (n - k) k ∧ Fr (fun k j => k = 324 ∧ (j = 17 ∨ j = 20)) σ τ) (by omega) (fun k q τ hkn hI hq => ?_) (k := s + 1) (by omega) ⟨h7, Nat.le_refl _, by rw [show min (s + 1 - s) 2 = 1 by omega]; exact h0, by unfold dend; rw [run_on _ hs (decide_eq_true hl)], Fr.refl⟩
  obtain ⟨i7, isk, i0, i1, hF⟩ := hI
  have h1 : TPm n T τ := TPm_fr h hF (by omega) (fun j => by omega)
  have i8 : rI τ 324 18 = nI s := (hF.I _ _ (by omega)).trans h8
  unfold s_X13_next_159 f_X13_next_241 f_X13_next_209 f_X13_next_252
  rw [i7, m_see h1 hkn, bd_some, e_isDigit, bd_some, ite_bI, i7, i8, pk_sub (by omega), li2, ite_iff (nI_le2 (by omega) (by omega)), ite_iff (nI_le2 (by omega) (by omega))]
  have fin : dend n T s = k → ok (if k - s ≤ 2 then some ((), wI τ 324 19 (nI 2)) else some ((), wI τ 324 19 1)) (fun (_ : Unit) τ => TKr n T s τ ∧ Fr wmT σ τ) := fun z => by
    refine ok_ite (fun y => ?_) (fun y => ?_)
    · have e2 : kds n T s = 2 := by rw [hk, if_pos (by omega)]
      have ev : vvs n T s = dv T s (min (k - s) 2) := by
        unfold vvs dv
        rw [z]
        by_cases w : k - s ≤ 1
        · rw [if_pos w, if_neg (by omega), if_pos (by omega)]
        · rw [if_neg w, if_neg (by omega), if_neg (by omega)]
      exact ok_ret ⟨⟨by rw [rI_nj (by omega)]; exact i8, by rw [rI_nj (by omega), he, z]; exact i7, by rw [rI_same, e2]; rfl, fun _ => by rw [rI_nj (by omega), ev]; exact i0, fun w => by omega⟩, Fr.w (hF.mono (fun k j z => by omega)) (by omega)⟩
    · have e2 : kds n T s = 4 := by rw [hk, if_neg (by omega)]
      exact ok_ret ⟨⟨by rw [rI_nj (by omega)]; exact i8, by rw [rI_nj (by omega), he, z]; exact i7, by rw [rI_same, e2]; rfl, fun w => by omega, fun w => by omega⟩, Fr.w (hF.mono (fun k j z => by omega)) (by omega)⟩
  by_cases c : k < n
  · obtain ⟨t1, t2⟩ := h1.2.2 k c
    rw [if_pos c, ite_iff (dg_m _ t1)]
    refine ok_ite (fun y => ?_) (fun y => fin (by rw [i1, run_off _ c (fun w => y (of_decide_eq_true w))]))
    rw [run_on _ c (decide_eq_true y)] at i1
    refine ok_ite (fun y2 => ?_) (fun y2 => ?_)
    · rw [nI_1]
      exact hq (k + 1) _ (by omega) (by omega) ⟨rI_same _ _ _ _, by omega, by rw [rI_nj (by omega), i0, show min (k + 1 - s) 2 = min (k - s) 2 by omega], i1, Fr.w hF (by omega)⟩
    · rw [m_see h1 hkn, bd_some, if_pos c, rI_nj (show 17 ≠ 20 by omega), i7, nI_1, i0, sgn_lo (by omega)]
      have ek : k = s + 1 := by omega
      subst ek
      refine hq (s + 1 + 1) _ (by omega) (by omega) ⟨rI_same _ _ _ _, by omega, ?_, i1, Fr.w (Fr.w hF (by omega)) (by omega)⟩
      rw [rI_nj (by omega), rI_same, show min (s + 1 - s) 2 = 1 by omega, show min (s + 1 + 1 - s) 2 = 2 by omega]
      have d1 : dv T s 1 = T s - 48 := rfl
      have d2 : dv T s 2 = 10 * (T s - 48) + (T (s + 1) - 48) := rfl
      rw [d1, d2, show (10 : Int32) = nI 10 from rfl, pk_mul, nI_add, show (48 : Int32) = nI 48 from rfl, pk_sub (by omega)]
      congr 1
      omega
  · rw [if_neg c, if_neg (by decide)]
    exact fin (by rw [i1, run_end _ (by omega)])
theorem m_next52 (h : TPm n T σ) (hs : s ≤ n) (h7 : rI σ 324 17 = nI s) : ok (f_X13_next_52 σ) (fun _ τ => TKr n T s τ ∧ Fr wmT σ τ) := by
  have hn := h.1
  rw [q_X13_next_52, h7, h.2.1, ite_iff (nI_lt2 (by omega) (by omega))]
  refine ok_ite (fun z => ?_) (fun z => ?_)
  · obtain ⟨t1, t2⟩ := h.2.2 s z
    rw [gd_n (by omega) (by omega), nI_ix (by omega), t2, nI_1]
    show ok (bd (f_X13_isSmall (sgn (T s)) (wI (wI (wI σ 324 18 (nI s)) 324 17 (nI (s + 1))) 324 20 (sgn (T s)))) _) _
    have hF0 : Fr wmT σ (wI (wI (wI σ 324 18 (nI s)) 324 17 (nI (s + 1))) 324 20 (sgn (T s))) := Fr.w (Fr.w (Fr.w Fr.refl (by omega)) (by omega)) (by omega)
    have h0 : TPm n T (wI (wI (wI σ 324 18 (nI s)) 324 17 (nI (s + 1))) 324 20 (sgn (T s))) := TPm_fr h hF0 (by omega) (fun j => by omega)
    have a8 : rI (wI (wI (wI σ 324 18 (nI s)) 324 17 (nI (s + 1))) 324 20 (sgn (T s))) 324 18 = nI s := by rw [rI_nj (by omega), rI_nj (by omega), rI_same]
    have a7 : rI (wI (wI (wI σ 324 18 (nI s)) 324 17 (nI (s + 1))) 324 20 (sgn (T s))) 324 17 = nI (s + 1) := by rw [rI_nj (by omega), rI_same]
    rw [e_isSmall, bd_some, ite_bI, ite_iff (lt_m _ t1)]
    refine ok_ite (fun y => ?_) (fun y => ?_)
    · exact ok_imp (m_next109 h0 z y a8 a7 (rI_same _ _ _ _)) (fun _ τ u => ⟨u.1, hF0.trans u.2⟩)
    · show ok (bd (f_X13_isDigit (sgn (T s)) _) _) _
      rw [e_isDigit, bd_some, ite_bI, ite_iff (dg_m _ t1)]
      refine ok_ite (fun y2 => ?_) (fun y2 => ?_)
      · show ok (f_X13_next_159 Fu (wI _ 324 20 (sgn (T s) - 48))) _
        rw [sgn_lo (by omega), show (48 : Int32) = nI 48 from rfl, pk_sub (by omega)]
        rw [sgn_lo (by omega)] at hF0 h0 a8 a7
        refine ok_imp (m_next159 (TPm_fr h0 (Fr.w (W := wmT) Fr.refl (by omega)) (by omega) (fun j => by omega)) z y2 (by rw [rI_nj (by omega)]; exact a8) (by rw [rI_nj (by omega)]; exact a7) (rI_same _ _ _ _)) (fun _ τ u => ⟨u.1, (Fr.w hF0 (by omega)).trans u.2⟩)
      · unfold f_X13_next_252
        have e3 : kds n T s = 3 := by unfold kds; rw [if_neg (by omega), if_neg y, if_neg y2]
        exact ok_ret ⟨⟨by rw [rI_nj (by omega)]; exact a8, by rw [rI_nj (by omega), a7]; unfold ens; rw [if_neg (by omega), if_neg y, if_neg y2], by rw [rI_same, e3]; rfl, fun w => by omega, fun _ => by rw [rI_nj (by omega), rI_same]⟩, Fr.w hF0 (by omega)⟩
  · have e0 : kds n T s = 0 := by unfold kds; rw [if_pos (by omega)]
    exact ok_ret ⟨⟨by rw [rI_nj (by omega), rI_same], by rw [rI_nj (by omega), rI_nj (by omega), h7]; unfold ens; rw [if_pos (by omega)], by rw [rI_same, e0]; rfl, fun w => by omega, fun w => by omega⟩, Fr.w (Fr.w Fr.refl (by omega)) (by omega)⟩
theorem m_next (h : TPm n T σ) (hp : p ≤ n) (h7 : rI σ 324 17 = nI p) : ok (f_X13_next σ) (fun _ τ => TKm n T p τ ∧ Fr wmT σ τ) := by
  have hn := h.1
  unfold f_X13_next
  refine L_X13_next_0 n (fun k τ => rI τ 324 17 = nI k ∧ stt n T p = run (fun i => decide (T i = 32 ∨ T i = 10)) (n - k) k ∧ Fr wmT σ τ) (by omega) (fun k q τ hkn hI hq => ?_) (k := p) hp ⟨h7, rfl, Fr.refl⟩
  obtain ⟨i7, i1, hF⟩ := hI
  have h1 : TPm n T τ := TPm_fr h hF (by omega) (fun j => by omega)
  unfold s_X13_next_0 f_X13_next_39
  rw [h1.2.1, i7, ite_iff (nI_le2 (by omega) (by omega))]
  have fin : stt n T p = k → ok (f_X13_next_52 τ) (fun _ τ => TKm n T p τ ∧ Fr wmT σ τ) := fun z => by
    refine ok_imp (m_next52 h1 hkn i7) (fun _ τ' u => ⟨?_, hF.trans u.2⟩)
    unfold TKm
    rw [z]
    exact u.1
  refine ok_ite (fun z => fin (by rw [i1, run_end _ z])) (fun z => ?_)
  obtain ⟨t1, t2⟩ := h1.2.2 k (by omega)
  rw [gd_n (by omega) (by omega), gd_n (by omega) (by omega), nI_ix (by omega), t2, nI_1]
  show ok (if sgn (T k) = 32 then _ else if sgn (T k) = 10 then _ else _) _
  rw [ite_iff (ws_m _ t1).1, ite_iff (ws_m _ t1).2]
  have go : T k = 32 ∨ T k = 10 → ok (q (wI τ 324 17 (nI (k + 1)))) (fun _ τ => TKm n T p τ ∧ Fr wmT σ τ) := fun y => by
    rw [run_on _ (by omega) (decide_eq_true y)] at i1
    exact hq (k + 1) _ (by omega) (by omega) ⟨rI_same _ _ _ _, i1, Fr.w hF (by omega)⟩
  refine ok_ite (fun y => go (Or.inl y)) (fun y => ok_ite (fun y2 => go (Or.inr y2)) (fun y2 => fin ?_))
  rw [i1, run_off _ (by omega) (fun w => (of_decide_eq_true w).elim y y2)]
end NXT
