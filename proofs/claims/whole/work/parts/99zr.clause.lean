/-! a clause, as a text; the class reads it -/
section CLS
variable {σ : jM} {n p q s : Nat} {T : Nat → Nat}
/-- where -/
def whR (n : Nat) (T : Nat → Nat) (q : Nat) : Nat × Nat × Nat := if isW n T q 5 then (0, en n T q, 0) else if isW n T q 6 then (0, en n T q, 7) else if numc n T q 1 6 = 0 then (0, en n T q, vvs n T (stt n T q)) else (numc n T q 1 6, stt n T q, 0)
/-- a word and a number, or neither -/
def opR (n : Nat) (T : Nat → Nat) (w lo hi df q : Nat) : Nat × Nat × Nat := if isW n T q w then (if numc n T (en n T q) lo hi = 0 then (0, en n T (en n T q), vvs n T (stt n T (en n T q))) else (numc n T (en n T q) lo hi, stt n T (en n T q), 0)) else (0, q, df)
def shR (n : Nat) (T : Nat → Nat) (q : Nat) : Nat × Nat × Nat × Nat × Nat := if (whR n T q).1 = 0 then (if (opR n T 7 2 6 3 (whR n T q).2.1).1 = 0 then (if (opR n T 8 1 99 1 (opR n T 7 2 6 3 (whR n T q).2.1).2.1).1 = 0 then (0, (opR n T 8 1 99 1 (opR n T 7 2 6 3 (whR n T q).2.1).2.1).2.1, (whR n T q).2.2, (opR n T 7 2 6 3 (whR n T q).2.1).2.2, (opR n T 8 1 99 1 (opR n T 7 2 6 3 (whR n T q).2.1).2.1).2.2) else ((opR n T 8 1 99 1 (opR n T 7 2 6 3 (whR n T q).2.1).2.1).1, (opR n T 8 1 99 1 (opR n T 7 2 6 3 (whR n T q).2.1).2.1).2.1, 0, 0, 0)) else ((opR n T 7 2 6 3 (whR n T q).2.1).1, (opR n T 7 2 6 3 (whR n T q).2.1).2.1, 0, 0, 0)) else ((whR n T q).1, (whR n T q).2.1, 0, 0, 0)
def wrR (n : Nat) (T : Nat → Nat) (q : Nat) : Nat × Nat × Nat × Nat × Nat := if ltr n T q then (if isW n T (en n T q) 4 then (if ltr n T (en n T (en n T q)) then (if (vw (T (stt n T q)) ≠ 999 ↔ vw (T (stt n T (en n T (en n T q)))) ≠ 999) then (0, en n T (en n T (en n T q)), T (stt n T q), T (stt n T (en n T (en n T q))), 0) else (2, stt n T (en n T (en n T q)), 0, 0, 0)) else (1, stt n T (en n T (en n T q)), 0, 0, 0)) else (1, stt n T (en n T q), 0, 0, 0)) else (1, stt n T q, 0, 0, 0)
def drR (n : Nat) (T : Nat → Nat) (q : Nat) : Nat × Nat × Nat × Nat × Nat := if ltr n T q then (if vw (T (stt n T q)) ≠ 999 then (2, stt n T q, 0, 0, 0) else (0, en n T q, T (stt n T q), 0, 0)) else (1, stt n T q, 0, 0, 0)
def clR (n : Nat) (T : Nat → Nat) (kd q : Nat) : Nat × Nat × Nat × Nat × Nat := if kd = 2 then wrR n T q else if kd = 3 then drR n T q else shR n T q
theorem whR_ok (hq : q ≤ n) (h : (whR n T q).1 = 0) : (whR n T q).2.1 ≤ n ∧ (whR n T q).2.2 ≤ 7 := by
  unfold whR at *
  by_cases c1 : isW n T q 5
  · rw [if_pos c1]; exact ⟨(en_le hq).2, Nat.zero_le _⟩
  rw [if_neg c1] at *
  by_cases c2 : isW n T q 6
  · rw [if_pos c2]; exact ⟨(en_le hq).2, Nat.le_refl _⟩
  rw [if_neg c2] at *
  by_cases c3 : numc n T q 1 6 = 0
  · rw [if_pos c3]
    have := numc_0.mp c3
    exact ⟨(en_le hq).2, by show vvs _ _ _ ≤ 7; omega⟩
  · rw [if_neg c3] at h
    exact absurd h c3
theorem opR_ok {w lo hi df : Nat} (hd : lo ≤ df ∧ df ≤ hi) (hq : q ≤ n) (h : (opR n T w lo hi df q).1 = 0) : (opR n T w lo hi df q).2.1 ≤ n ∧ lo ≤ (opR n T w lo hi df q).2.2 ∧ (opR n T w lo hi df q).2.2 ≤ hi := by
  unfold opR at *
  by_cases c1 : isW n T q w
  · rw [if_pos c1] at *
    by_cases c3 : numc n T (en n T q) lo hi = 0
    · rw [if_pos c3]
      have := numc_0.mp c3
      exact ⟨(en_le (en_le hq).2).2, this.2.1, this.2.2⟩
    · rw [if_neg c3] at h
      exact absurd h c3
  · rw [if_neg c1]; exact ⟨hq, hd.1, hd.2⟩
theorem clR_ok {kd : Nat} (hq : q ≤ n) (h : (clR n T kd q).1 = 0) : (clR n T kd q).2.1 ≤ n ∧ (kd < 2 → (clR n T kd q).2.2.1 ≤ 7 ∧ 2 ≤ (clR n T kd q).2.2.2.1 ∧ (clR n T kd q).2.2.2.1 ≤ 6 ∧ 1 ≤ (clR n T kd q).2.2.2.2 ∧ (clR n T kd q).2.2.2.2 ≤ 99) ∧ (kd = 2 ∨ kd = 3 → 97 ≤ (clR n T kd q).2.2.1 ∧ (clR n T kd q).2.2.1 ≤ 122) ∧ (kd = 2 → 97 ≤ (clR n T kd q).2.2.2.1 ∧ (clR n T kd q).2.2.2.1 ≤ 122) := by
  have l1 := (en_le (T := T) hq).2
  have l2 := (en_le (T := T) l1).2
  have l3 := (en_le (T := T) l2).2
  unfold clR at *
  by_cases c2 : kd = 2
  · rw [if_pos c2] at *
    unfold wrR at *
    by_cases d1 : ltr n T q
    · rw [if_pos d1] at *
      by_cases d2 : isW n T (en n T q) 4
      · rw [if_pos d2] at *
        by_cases d3 : ltr n T (en n T (en n T q))
        · rw [if_pos d3] at *
          by_cases d4 : (vw (T (stt n T q)) ≠ 999 ↔ vw (T (stt n T (en n T (en n T q)))) ≠ 999)
          · rw [if_pos d4]
            exact ⟨l3, fun z => by omega, fun _ => ltr_bd d1.1, fun _ => ltr_bd d3.1⟩
          · rw [if_neg d4] at h; exact absurd h (show ¬ (2 : Nat) = 0 by omega)
        · rw [if_neg d3] at h; exact absurd h (show ¬ (1 : Nat) = 0 by omega)
      · rw [if_neg d2] at h; exact absurd h (show ¬ (1 : Nat) = 0 by omega)
    · rw [if_neg d1] at h; exact absurd h (show ¬ (1 : Nat) = 0 by omega)
  rw [if_neg c2] at *
  by_cases c3 : kd = 3
  · rw [if_pos c3] at *
    unfold drR at *
    by_cases d1 : ltr n T q
    · rw [if_pos d1] at *
      by_cases d2 : vw (T (stt n T q)) ≠ 999
      · rw [if_pos d2] at h; exact absurd h (show ¬ (2 : Nat) = 0 by omega)
      · rw [if_neg d2]
        exact ⟨l1, fun z => by omega, fun _ => ltr_bd d1.1, fun z => absurd z c2⟩
    · rw [if_neg d1] at h; exact absurd h (show ¬ (1 : Nat) = 0 by omega)
  rw [if_neg c3] at *
  unfold shR at *
  by_cases d1 : (whR n T q).1 = 0
  · rw [if_pos d1] at *
    obtain ⟨w1, w2⟩ := whR_ok hq d1
    by_cases d2 : (opR n T 7 2 6 3 (whR n T q).2.1).1 = 0
    · rw [if_pos d2] at *
      obtain ⟨o1, o2, o3⟩ := opR_ok (by omega) w1 d2
      by_cases d3 : (opR n T 8 1 99 1 (opR n T 7 2 6 3 (whR n T q).2.1).2.1).1 = 0
      · rw [if_pos d3]
        obtain ⟨x1, x2, x3⟩ := opR_ok (by omega) o1 d3
        exact ⟨x1, fun _ => ⟨w2, o2, o3, x2, x3⟩, fun z => by omega, fun z => absurd z c2⟩
      · rw [if_neg d3] at h; exact absurd h d3
    · rw [if_neg d2] at h; exact absurd h d2
  · rw [if_neg d1] at h; exact absurd h d1
/-! the class -/
theorem c_adv (hT : TPc n T σ) (h : TKc n T q σ) (hq : q ≤ n) : ok (f_X11_advance σ) (fun _ τ => TKc n T (en n T q) τ ∧ Fr wcT σ τ) := c_advance hT (en_le hq).2 h.2.1
abbrev wcax (A c k j : Nat) : Prop := (k = 262 ∧ 4 ≤ j ∧ j ≤ 7) ∨ (k = A ∧ j = c)
abbrev wcfx (k j : Nat) : Prop := k = 262 ∧ 2 ≤ j ∧ j ≤ 7
theorem c_readWhere (hT : TPc n T σ) (h : TKc n T q σ) (hq : q ≤ n) {rk c : Nat} (hr : rk < 10) (hc : c < 12) : ok (f_X11_readWhere rk (nI c) σ) (fun r τ => ((whR n T q).1 = 0 ∧ r = 1 ∧ TKc n T (whR n T q).2.1 τ ∧ rI τ (rulX rk + 2) c = nI (whc (whR n T q).2.2) ∧ Fr (wcax (rulX rk + 2) c) σ τ) ∨ ((whR n T q).1 ≠ 0 ∧ r = 0 ∧ rI τ 262 2 = nI (whR n T q).1 ∧ rI τ 262 3 = nI (whR n T q).2.1 ∧ Fr wcfx σ τ)) := by
  have hx : rulX rk = 100 + 9 * rk := rulX_lt hr
  have go : ∀ v : Nat, ok (bd (f_X11_advance (wI σ (rulX rk + 2) c (nI v))) (fun _ σ5 => some ((1 : Int32), σ5))) (fun r τ => r = 1 ∧ TKc n T (en n T q) τ ∧ rI τ (rulX rk + 2) c = nI v ∧ Fr (wcax (rulX rk + 2) c) σ τ) := fun v => by
    have hF : Fr (wcax (rulX rk + 2) c) σ (wI σ (rulX rk + 2) c (nI v)) := Fr.w Fr.refl (Or.inr ⟨rfl, rfl⟩)
    refine ok_bd (c_adv (TPc_fr hT hF (by omega) (fun j => by omega)) (TKc_fr h (fun j _ _ => rI_nk (by omega))) hq) (fun _ τ u => ok_ret ⟨rfl, u.1, by rw [u.2.I _ _ (by omega), rI_same], hF.trans (u.2.mono (fun k j z => by omega))⟩)
  unfold f_X11_readWhere f_X11_readWhere_63
  rw [c_isWord hT h hq (by omega), bd_some, ite_bI]
  simp (disch := omega) only [gd_n, nI_ix]
  unfold whR
  by_cases c1 : isW n T q 5
  · rw [if_pos c1, if_pos c1]
    exact ok_imp (go 1) (fun r τ u => Or.inl ⟨rfl, u.1, u.2.1, u.2.2.1, u.2.2.2⟩)
  rw [if_neg c1, if_neg c1, c_isWord hT h hq (by omega), bd_some, ite_bI]
  by_cases c2 : isW n T q 6
  · rw [if_pos c2, if_pos c2]
    exact ok_imp (go 0) (fun r τ u => Or.inl ⟨rfl, u.1, u.2.1, u.2.2.1, u.2.2.2⟩)
  have e := c_isNumber h (lo := 1) (hi := 6) (by omega) (by omega)
  have e : f_X11_isNumber 1 6 σ = _ := e
  rw [if_neg c2, if_neg c2, e, bd_some, ite_bI]
  by_cases c3 : numc n T q 1 6 = 0
  · rw [if_pos c3, if_pos c3, if_pos c3]
    obtain ⟨n1, n2, n3⟩ := numc_0.mp c3
    rw [h.2.2.2.1 n1]
    refine ok_imp (go _) (fun r τ u => Or.inl ⟨rfl, u.1, u.2.1, ?_, u.2.2.2⟩)
    have ew : whc (vvs n T (stt n T q)) = vvs n T (stt n T q) := by unfold whc; rw [if_neg (by omega), if_neg (by omega)]
    show rI τ (rulX rk + 2) c = nI (whc (vvs n T (stt n T q)))
    rw [ew]; exact u.2.2.1
  · rw [if_neg c3, if_neg c3, if_neg c3]
    exact ok_ret (Or.inr ⟨c3, rfl, by rw [rI_nj (by omega), rI_same], rI_same _ _ _ _, Fr.w (Fr.w Fr.refl (by omega)) (by omega)⟩)
theorem c_readOption (hT : TPc n T σ) (h : TKc n T q σ) (hq : q ≤ n) {A c w lo hi df : Nat} (hA : 100 ≤ A ∧ A ≤ 189) (hs : (shf A).2 = 12) (hc : c < 12) (hw : w < 9) (hlo : lo < 1000) (hhi : hi < 1000) (hd : rI σ A c = nI df) : ok (f_X11_readOption w A (nI c) (nI lo) (nI hi) σ) (fun r τ => ((opR n T w lo hi df q).1 = 0 ∧ r = 1 ∧ TKc n T (opR n T w lo hi df q).2.1 τ ∧ rI τ A c = nI (opR n T w lo hi df q).2.2 ∧ Fr (wcax A c) σ τ) ∨ ((opR n T w lo hi df q).1 ≠ 0 ∧ r = 0 ∧ rI τ 262 2 = nI (opR n T w lo hi df q).1 ∧ rI τ 262 3 = nI (opR n T w lo hi df q).2.1 ∧ Fr wcfx σ τ)) := by
  have l1 := (en_le (T := T) hq).2
  unfold f_X11_readOption opR
  rw [c_isWord hT h hq hw, bd_some, ite_bI]
  by_cases c1 : isW n T q w
  · rw [if_pos c1, if_pos c1]
    refine ok_bd (c_adv hT h hq) (fun _ τ u => ?_)
    have hT1 := TPc_fr hT u.2 (by omega) (fun j => by omega)
    rw [c_isNumber u.1 hlo hhi, bd_some, ite_bI]
    by_cases c3 : numc n T (en n T q) lo hi = 0
    · rw [if_pos c3, if_pos c3, if_pos c3, hs, gd_n hc (by omega), nI_ix (by omega)]
      obtain ⟨n1, n2, n3⟩ := numc_0.mp c3
      rw [u.1.2.2.2.1 n1]
      have hF : Fr (wcax A c) σ (wI τ A c (nI (vvs n T (stt n T (en n T q))))) := Fr.w (u.2.mono (fun k j z => Or.inl z)) (Or.inr ⟨rfl, rfl⟩)
      refine ok_bd (c_adv (TPc_fr hT hF (by omega) (fun j => by omega)) (TKc_fr u.1 (fun j _ _ => rI_nk (by omega))) l1) (fun _ τ1 x => ok_ret (Or.inl ⟨rfl, rfl, x.1, by rw [x.2.I _ _ (by omega), rI_same], hF.trans (x.2.mono (fun k j z => Or.inl z))⟩))
    · rw [if_neg c3, if_neg c3, if_neg c3]
      exact ok_ret (Or.inr ⟨c3, rfl, by rw [rI_nj (by omega), rI_same], rI_same _ _ _ _, Fr.w (Fr.w (u.2.mono (fun k j z => by omega)) (by omega)) (by omega)⟩)
  · rw [if_neg c1, if_neg c1]
    exact ok_ret (Or.inl ⟨rfl, rfl, h, hd, Fr.refl⟩)
abbrev wcsx (rk c k j : Nat) : Prop := (k = 262 ∧ 4 ≤ j ∧ j ≤ 7) ∨ (rulX rk + 2 ≤ k ∧ k ≤ rulX rk + 6 ∧ j = c)
abbrev wcbx (rk c k j : Nat) : Prop := (k = 262 ∧ 2 ≤ j ∧ j ≤ 7) ∨ (rulX rk + 2 ≤ k ∧ k ≤ rulX rk + 6 ∧ j = c)
/-- what the class has of a clause -/
def CDc (rk c kd : Nat) (X : Nat × Nat × Nat) (τ : jM) : Prop := (kd < 2 → rI τ (rulX rk + 2) c = nI (whc X.1) ∧ rI τ (rulX rk + 3) c = nI X.2.1 ∧ rI τ (rulX rk + 4) c = nI X.2.2) ∧ (kd = 2 ∨ kd = 3 → rI τ (rulX rk + 5) c = nI X.1) ∧ (kd = 2 → rI τ (rulX rk + 6) c = nI X.2.1)
def CCx (n : Nat) (T : Nat → Nat) (rk c kd : Nat) (R : Nat × Nat × Nat × Nat × Nat) (σ : jM) (r : Int32) (τ : jM) : Prop := (R.1 = 0 ∧ r = 1 ∧ TKc n T R.2.1 τ ∧ CDc rk c kd R.2.2 τ ∧ Fr (wcsx rk c) σ τ) ∨ (R.1 ≠ 0 ∧ r = 0 ∧ rI τ 262 2 = nI R.1 ∧ rI τ 262 3 = nI R.2.1 ∧ Fr (wcbx rk c) σ τ)
theorem shf_rul : ∀ rk : Nat, rk < 10 → (shf (rulX rk + 3)).2 = 12 ∧ (shf (rulX rk + 4)).2 = 12 := by decide +kernel
theorem c_readSharing (hT : TPc n T σ) (h : TKc n T q σ) (hq : q ≤ n) {rk c kd : Nat} (hr : rk < 10) (hc : c < 12) (hk : kd < 2) : ok (f_X11_readSharing rk (nI c) σ) (CCx n T rk c kd (shR n T q) σ) := by
  have hx : rulX rk = 100 + 9 * rk := rulX_lt hr
  unfold f_X11_readSharing f_X11_readSharing_61 f_X11_readSharing_62
  rw [gd_n hc (by omega), gd_n hc (by omega), nI_ix (by omega)]
  have hF0 : Fr (wcsx rk c) σ (wI (wI σ (rulX rk + 3) c 3) (rulX rk + 4) c 1) := Fr.w (Fr.w Fr.refl (by omega)) (by omega)
  refine ok_bd (c_readWhere (TPc_fr hT hF0 (by omega) (fun j => by omega)) (TKc_fr h (fun j _ _ => by rw [rI_nk (by omega), rI_nk (by omega)])) hq hr hc) (fun r τ u => ?_)
  simp only [gd_0, gd_1]
  unfold shR
  rcases u with ⟨u1, rfl, u3, u4, u5⟩ | ⟨u1, rfl, u3, u4, u5⟩
  · rw [if_neg (by decide), if_pos u1]
    obtain ⟨w1, w2⟩ := whR_ok hq u1
    have hF1 : Fr (wcsx rk c) σ τ := hF0.trans (u5.mono (fun k j z => by omega))
    have hT1 := TPc_fr hT hF1 (by omega) (fun j => by omega)
    have e3 : rI τ (rulX rk + 3) c = nI 3 := by rw [u5.I _ _ (by omega), rI_nk (by omega), rI_same]; rfl
    have e4 : rI τ (rulX rk + 4) c = nI 1 := by rw [u5.I _ _ (by omega), rI_same]; rfl
    refine ok_bd (c_readOption (w := 7) (lo := 2) (hi := 6) (df := 3) hT1 u3 w1 (A := rulX rk + 3) (by omega) (shf_rul rk hr).1 hc (by omega) (by omega) (by omega) e3) (fun r τ2 y => ?_)
    rcases y with ⟨y1, rfl, y3, y4, y5⟩ | ⟨y1, rfl, y3, y4, y5⟩
    · rw [if_neg (by decide), if_pos y1]
      obtain ⟨o1, o2, o3⟩ := opR_ok (by omega) w1 y1
      have hF2 : Fr (wcsx rk c) σ τ2 := hF1.trans (y5.mono (fun k j z => by omega))
      have hT2 := TPc_fr hT hF2 (by omega) (fun j => by omega)
      refine ok_bd (c_readOption (w := 8) (lo := 1) (hi := 99) (df := 1) hT2 y3 o1 (A := rulX rk + 4) (by omega) (shf_rul rk hr).2 hc (by omega) (by omega) (by omega) (by rw [y5.I _ _ (by omega)]; exact e4)) (fun r τ3 x => ?_)
      rcases x with ⟨x1, rfl, x3, x4, x5⟩ | ⟨x1, rfl, x3, x4, x5⟩
      · rw [if_neg (by decide), if_pos x1]
        refine ok_ret (Or.inl ⟨rfl, rfl, x3, ⟨fun _ => ⟨?_, ?_, x4⟩, fun z => by omega, fun z => by omega⟩, hF2.trans (x5.mono (fun k j z => by omega))⟩)
        · rw [x5.I _ _ (by omega), y5.I _ _ (by omega)]; exact u4
        · rw [x5.I _ _ (by omega)]; exact y4
      · rw [if_pos rfl, if_neg x1]
        exact ok_ret (Or.inr ⟨x1, rfl, x3, x4, (hF2.mono (fun k j z => by omega)).trans (x5.mono (fun k j z => by omega))⟩)
    · rw [if_pos rfl, if_neg y1]
      exact ok_ret (Or.inr ⟨y1, rfl, y3, y4, (hF1.mono (fun k j z => by omega)).trans (y5.mono (fun k j z => by omega))⟩)
  · rw [if_pos rfl, if_neg u1]
    exact ok_ret (Or.inr ⟨u1, rfl, u3, u4, (hF0.mono (fun k j z => by omega)).trans (u5.mono (fun k j z => by omega))⟩)
end CLS
