/-! clauses that write and drop; the rules, as a text; the class reads them -/
section CLC
variable {σ : jM} {n p q s : Nat} {T : Nat → Nat}
theorem bI_iff {c d : Prop} [Decidable c] [Decidable d] : bI c = bI d ↔ (c ↔ d) := by
  by_cases hc : c
  · by_cases hd : d
    · rw [bI_pos hc, bI_pos hd]; exact ⟨fun _ => ⟨fun _ => hd, fun _ => hc⟩, fun _ => rfl⟩
    · rw [bI_pos hc, bI_neg hd]; exact ⟨fun z => absurd z (by decide), fun z => absurd (z.mp hc) hd⟩
  · by_cases hd : d
    · rw [bI_neg hc, bI_pos hd]; exact ⟨fun z => absurd z (by decide), fun z => absurd (z.mpr hd) hc⟩
    · rw [bI_neg hc, bI_neg hd]; exact ⟨fun _ => ⟨fun y => absurd y hc, fun y => absurd y hd⟩, fun _ => rfl⟩
theorem c_flt (h : TKc n T q σ) (f : Int32) : bd (f_X11_fault f σ) (fun r σ25 => gd (r = 0 ∨ r = 1) (some (r, σ25))) = some ((0 : Int32), wI (wI σ 262 2 f) 262 3 (nI (stt n T q))) := by
  rw [q_X11_fault, bd_some, gd_0, h.1]
theorem c_byte (hT : TPc n T σ) (h : kdt n T q = 1) (hq : q ≤ n) : rI σ 263 (stt n T q) = nI (T (stt n T q)) := (hT.2.2 _ (kdt_lt (by omega))).2
theorem c_readDrop (hT : TPc n T σ) (h : TKc n T q σ) (hq : q ≤ n) {rk c : Nat} (hr : rk < 10) (hc : c < 12) : ok (f_X11_readDrop rk (nI c) σ) (CCx n T rk c 3 (drR n T q) σ) := by
  have hx : rulX rk = 100 + 9 * rk := rulX_lt hr
  have hn := hT.1
  rw [q_X11_readDrop, c_isLetter h hq hn, bd_some, ite_bI]
  unfold drR
  by_cases c1 : ltr n T q
  · have hl := kdt_lt (n := n) (T := T) (p := q) (by have := c1.1; omega)
    have hb := ltr_bd c1.1
    rw [if_pos c1, if_pos c1, h.1, gd_n (by omega) (by omega), gd_n hc (by omega), gd_n hc (by omega)]
    simp (disch := omega) only [nI_ix]
    rw [rI_same, c_byte hT c1.1 hq, c_isVowel (by omega), bd_some, ite_bI]
    have hF : Fr (wcsx rk c) σ (wI σ (rulX rk + 5) c (nI (T (stt n T q)))) := Fr.w Fr.refl (by omega)
    have hK : TKc n T q (wI σ (rulX rk + 5) c (nI (T (stt n T q)))) := TKc_fr h (fun j _ _ => rI_nk (by omega))
    by_cases c2 : vw (T (stt n T q)) ≠ 999
    · rw [if_pos c2, if_pos c2, c_flt hK]
      exact ok_ret (Or.inr ⟨show ¬ (2 : Nat) = 0 by omega, rfl, by rw [rI_nj (by omega), rI_same]; rfl, rI_same _ _ _ _, Fr.w (Fr.w (hF.mono (fun k j z => by omega)) (by omega)) (by omega)⟩)
    · rw [if_neg c2, if_neg c2]
      refine ok_bd (c_adv (TPc_fr hT hF (by omega) (fun j => by omega)) hK hq) (fun _ τ u => ok_ret (Or.inl ⟨rfl, rfl, u.1, ⟨fun z => by omega, fun _ => by rw [u.2.I _ _ (by omega), rI_same], fun z => by omega⟩, hF.trans (u.2.mono (fun k j z => by omega))⟩))
  · rw [if_neg c1, if_neg c1, c_flt h]
    exact ok_ret (Or.inr ⟨show ¬ (1 : Nat) = 0 by omega, rfl, by rw [rI_nj (by omega), rI_same]; rfl, rI_same _ _ _ _, Fr.w (Fr.w Fr.refl (by omega)) (by omega)⟩)
theorem c_readWrite (hT : TPc n T σ) (h : TKc n T q σ) (hq : q ≤ n) {rk c : Nat} (hr : rk < 10) (hc : c < 12) : ok (f_X11_readWrite rk (nI c) σ) (CCx n T rk c 2 (wrR n T q) σ) := by
  have hx : rulX rk = 100 + 9 * rk := rulX_lt hr
  have hn := hT.1
  have l1 := (en_le (T := T) hq).2
  have l2 := (en_le (T := T) l1).2
  rw [q_X11_readWrite, c_isLetter h hq hn, bd_some, ite_bI]
  unfold wrR
  by_cases c1 : ltr n T q
  · have hl := kdt_lt (n := n) (T := T) (p := q) (by have := c1.1; omega)
    have hb := ltr_bd c1.1
    rw [if_pos c1, if_pos c1, h.1, gd_n (by omega) (by omega), gd_n hc (by omega)]
    simp (disch := omega) only [nI_ix]
    rw [c_byte hT c1.1 hq]
    have hF : Fr (wcsx rk c) σ (wI σ (rulX rk + 5) c (nI (T (stt n T q)))) := Fr.w Fr.refl (by omega)
    have hK : TKc n T q (wI σ (rulX rk + 5) c (nI (T (stt n T q)))) := TKc_fr h (fun j _ _ => rI_nk (by omega))
    refine ok_bd (c_adv (TPc_fr hT hF (by omega) (fun j => by omega)) hK hq) (fun _ τ1 u => ?_)
    have hF1 : Fr (wcsx rk c) σ τ1 := hF.trans (u.2.mono (fun k j z => by omega))
    have hT1 := TPc_fr hT hF1 (by omega) (fun j => by omega)
    have e5 : rI τ1 (rulX rk + 5) c = nI (T (stt n T q)) := by rw [u.2.I _ _ (by omega), rI_same]
    rw [c_isWord hT1 u.1 l1 (by omega), bd_some, ite_bI]
    by_cases c2 : isW n T (en n T q) 4
    · rw [if_pos c2, if_pos c2]
      refine ok_bd (c_adv hT1 u.1 l1) (fun _ τ2 y => ?_)
      have hF2 : Fr (wcsx rk c) σ τ2 := hF1.trans (y.2.mono (fun k j z => by omega))
      have hT2 := TPc_fr hT hF2 (by omega) (fun j => by omega)
      rw [c_isLetter y.1 l2 hn, bd_some, ite_bI]
      by_cases c3 : ltr n T (en n T (en n T q))
      · have hl3 := kdt_lt (n := n) (T := T) (p := en n T (en n T q)) (by have := c3.1; omega)
        have hb3 := ltr_bd c3.1
        rw [if_pos c3, if_pos c3, y.1.1, gd_n (by omega) (by omega), gd_n hc (by omega), gd_n hc (by omega)]
        simp (disch := omega) only [nI_ix, gd_n]
        rw [rI_nk (show rulX rk + 5 ≠ rulX rk + 6 by omega), c_byte hT2 c3.1 l2, y.2.I (rulX rk + 5) c (by omega), e5, c_isVowel (by omega), bd_some, rI_same, c_isVowel (by omega), bd_some, ite_iff bI_iff]
        have hF3 : Fr (wcsx rk c) σ (wI τ2 (rulX rk + 6) c (nI (T (stt n T (en n T (en n T q)))))) := Fr.w hF2 (by omega)
        have hK3 : TKc n T (en n T (en n T q)) (wI τ2 (rulX rk + 6) c (nI (T (stt n T (en n T (en n T q)))))) := TKc_fr y.1 (fun j _ _ => rI_nk (by omega))
        by_cases c4 : (vw (T (stt n T q)) ≠ 999 ↔ vw (T (stt n T (en n T (en n T q)))) ≠ 999)
        · rw [if_pos c4, if_pos c4]
          refine ok_bd (c_adv (TPc_fr hT hF3 (by omega) (fun j => by omega)) hK3 l2) (fun _ τ3 w => ok_ret (Or.inl ⟨rfl, rfl, w.1, ⟨fun z => by omega, fun _ => ?_, fun _ => by rw [w.2.I _ _ (by omega), rI_same]⟩, hF3.trans (w.2.mono (fun k j z => by omega))⟩))
          rw [w.2.I _ _ (by omega), rI_nk (by omega), y.2.I _ _ (by omega)]; exact e5
        · rw [if_neg c4, if_neg c4, c_flt hK3]
          exact ok_ret (Or.inr ⟨show ¬ (2 : Nat) = 0 by omega, rfl, by rw [rI_nj (by omega), rI_same]; rfl, rI_same _ _ _ _, Fr.w (Fr.w (hF3.mono (fun k j z => by omega)) (by omega)) (by omega)⟩)
      · rw [if_neg c3, if_neg c3, c_flt y.1]
        exact ok_ret (Or.inr ⟨show ¬ (1 : Nat) = 0 by omega, rfl, by rw [rI_nj (by omega), rI_same]; rfl, rI_same _ _ _ _, Fr.w (Fr.w (hF2.mono (fun k j z => by omega)) (by omega)) (by omega)⟩)
    · rw [if_neg c2, if_neg c2, c_flt u.1]
      exact ok_ret (Or.inr ⟨show ¬ (1 : Nat) = 0 by omega, rfl, by rw [rI_nj (by omega), rI_same]; rfl, rI_same _ _ _ _, Fr.w (Fr.w (hF1.mono (fun k j z => by omega)) (by omega)) (by omega)⟩)
  · rw [if_neg c1, if_neg c1, c_flt h]
    exact ok_ret (Or.inr ⟨show ¬ (1 : Nat) = 0 by omega, rfl, by rw [rI_nj (by omega), rI_same]; rfl, rI_same _ _ _ _, Fr.w (Fr.w Fr.refl (by omega)) (by omega)⟩)
theorem c_readClause (hT : TPc n T σ) (h : TKc n T q σ) (hq : q ≤ n) {rk c kd : Nat} (hr : rk < 10) (hc : c < 12) (hk : kd ≤ 3) (h1 : rI σ (rulX rk + 1) c = nI kd) : ok (f_X11_readClause rk (nI c) σ) (CCx n T rk c kd (clR n T kd q) σ) := by
  unfold f_X11_readClause clR
  rw [gd_n hc (by omega)]
  simp (disch := omega) only [nI_ix]
  rw [h1, li2, li3, ite_iff (nI_eq2 (by omega) (by omega)), ite_iff (nI_eq2 (by omega) (by omega))]
  have fin : ∀ {F : Option (Int32 × jM)} {R : Nat × Nat × Nat × Nat × Nat}, ok F (CCx n T rk c kd R σ) → ok (bd F (fun r5 σ6 => gd (r5 = 0 ∨ r5 = 1) (some (r5, σ6)))) (CCx n T rk c kd R σ) := fun {F R} hF => by
    refine ok_bd hF (fun r τ u => ?_)
    rcases u with u | u
    · have e := u.2.1
      subst e
      rw [gd_1]
      exact ok_ret (Or.inl u)
    · have e := u.2.1
      subst e
      rw [gd_0]
      exact ok_ret (Or.inr u)
  by_cases c2 : kd = 2
  · rw [if_pos c2, if_pos c2]
    subst c2
    exact fin (c_readWrite hT h hq hr hc)
  rw [if_neg c2, if_neg c2]
  by_cases c3 : kd = 3
  · rw [if_pos c3, if_pos c3]
    subst c3
    exact fin (c_readDrop hT h hq hr hc)
  rw [if_neg c3, if_neg c3]
  exact fin (c_readSharing hT h hq hr hc (by omega))
/-- which clause begins; 9: none -/
def knd (n : Nat) (T : Nat → Nat) (p : Nat) : Nat := if isW n T p 0 then 0 else if isW n T p 1 then 1 else if isW n T p 2 then 2 else if isW n T p 3 then 3 else 9
theorem knd_le (p : Nat) : knd n T p = 9 ∨ knd n T p ≤ 3 := by
  unfold knd
  split
  · omega
  · split
    · omega
    · split
      · omega
      · split <;> omega
theorem c_clauseKind (hT : TPc n T σ) (h : TKc n T p σ) (hp : p ≤ n) : f_X11_clauseKind σ = some (if knd n T p = 9 then -1 else nI (knd n T p), σ) := by
  unfold f_X11_clauseKind f_X11_clauseKind_47 knd
  rw [c_isWord hT h hp (by omega), bd_some, ite_bI]
  by_cases c0 : isW n T p 0
  · rw [if_pos c0, if_pos c0]; rfl
  rw [if_neg c0, if_neg c0, c_isWord hT h hp (by omega), bd_some, ite_bI]
  by_cases c1 : isW n T p 1
  · rw [if_pos c1, if_pos c1]; rfl
  rw [if_neg c1, if_neg c1, c_isWord hT h hp (by omega), bd_some, ite_bI]
  by_cases c2 : isW n T p 2
  · rw [if_pos c2, if_pos c2]; rfl
  rw [if_neg c2, if_neg c2, c_isWord hT h hp (by omega), bd_some, ite_bI]
  by_cases c3 : isW n T p 3
  · rw [if_pos c3, if_pos c3]; rfl
  · rw [if_neg c3, if_neg c3]; rfl
/-- clause that begins at p: its reading -/
def cR (n : Nat) (T : Nat → Nat) (p : Nat) : Nat × Nat × Nat × Nat × Nat := clR n T (knd n T p) (en n T p)
/-- the rules: what is wrong (0: nothing), and where, or how many clauses -/
def rulR (n : Nat) (T : Nat → Nat) : Nat → Nat → Nat → Nat × Nat := Nat.rec (fun _ _ => (1, 0)) (fun _ F p c => if kdt n T p = 0 then (0, c) else if knd n T p = 9 then (1, stt n T p) else if c = 12 then (3, stt n T p) else if (cR n T p).1 = 0 then (if isB n T (cR n T p).2.1 59 then F (en n T (cR n T p).2.1) (c + 1) else (1, stt n T (cR n T p).2.1)) else ((cR n T p).1, (cR n T p).2.1))
theorem rulR_s (k p c : Nat) : rulR n T (k + 1) p c = if kdt n T p = 0 then (0, c) else if knd n T p = 9 then (1, stt n T p) else if c = 12 then (3, stt n T p) else if (cR n T p).1 = 0 then (if isB n T (cR n T p).2.1 59 then rulR n T k (en n T (cR n T p).2.1) (c + 1) else (1, stt n T (cR n T p).2.1)) else ((cR n T p).1, (cR n T p).2.1) := rfl
/-- where clause c begins -/
def cbg (n : Nat) (T : Nat → Nat) : Nat → Nat := Nat.rec 0 (fun _ p => en n T (cR n T p).2.1)
theorem cbg_s (c : Nat) : cbg n T (c + 1) = en n T (cR n T (cbg n T c)).2.1 := rfl
end CLC
