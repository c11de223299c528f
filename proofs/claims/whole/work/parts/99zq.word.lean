/-! the rules' text: words, numbers, letters; the class and the reference at one token -/
section WRD
variable {σ : jM} {n p s : Nat} {T : Nat → Nat}
theorem TKc_fr {τ : jM} (h : TKc n T p σ) (e : ∀ j, 4 ≤ j → j ≤ 7 → rI τ 262 j = rI σ 262 j) : TKc n T p τ := ⟨(e 5 (by omega) (by omega)).trans h.1, (e 6 (by omega) (by omega)).trans h.2.1, (e 4 (by omega) (by omega)).trans h.2.2.1, fun z => (e 7 (by omega) (by omega)).trans (h.2.2.2.1 z), fun z => (e 7 (by omega) (by omega)).trans (h.2.2.2.2.1 z), fun z => (e 7 (by omega) (by omega)).trans (h.2.2.2.2.2 z)⟩
theorem TKm_fr {τ : jM} (h : TKm n T p σ) (e : ∀ j, 17 ≤ j → j ≤ 20 → rI τ 324 j = rI σ 324 j) : TKm n T p τ := ⟨(e 18 (by omega) (by omega)).trans h.1, (e 17 (by omega) (by omega)).trans h.2.1, (e 19 (by omega) (by omega)).trans h.2.2.1, fun z => (e 20 (by omega) (by omega)).trans (h.2.2.2.1 z), fun z => (e 20 (by omega) (by omega)).trans (h.2.2.2.2 z)⟩
def wbt (w i : Nat) : Nat := (strAt w (nI i)).toNatClampNeg
def wln (w : Nat) : Nat := jslen.getD w 0
theorem wbt_ok : ∀ w : Nat, w < 9 → ∀ i : Nat, i < 9 → i < wln w → strAt w (nI i) = nI (wbt w i) ∧ wbt w i < 128 := by decide +kernel
theorem wln_le : ∀ w : Nat, w < 9 → wln w ≤ 9 := by decide +kernel
theorem strLen_n (w : Nat) : strLen w = nI (wln w) := rfl
/-- the token is this word -/
abbrev isW (n : Nat) (T : Nat → Nat) (p w : Nat) : Prop := kdt n T p = 1 ∧ en n T p - stt n T p = wln w ∧ ∀ i, i < wln w → T (stt n T p + i) = wbt w i
theorem c_isWd (h : TKc n T p σ) : rI σ 262 4 = 1 ↔ kdt n T p = 1 := by
  have hkl := kds_le n T (stt n T p)
  have hc : ckd (kds n T (stt n T p)) ≤ 3 := by unfold ckd; split <;> omega
  rw [h.2.2.1, show (1 : Int32) = nI 1 from rfl, nI_eq2 (by omega) (by omega)]
  unfold ckd kdt
  split <;> omega
theorem m_isWd (h : TKm n T p σ) : rI σ 324 19 = 3 ↔ kdt n T p = 1 := by
  have hkl := kds_le n T (stt n T p)
  have hml := mkd_le _ hkl
  rw [h.2.2.1, li3, nI_eq2 (by omega) (by omega)]
  unfold mkd kdt
  split
  · omega
  · split
    · omega
    · split <;> omega
theorem c_isWord (hT : TPc n T σ) (h : TKc n T p σ) (hp : p ≤ n) {w : Nat} (hw : w < 9) : f_X11_isWord w σ = some (bI (isW n T p w), σ) := by
  have hn := hT.1
  have h1 := stt_le (T := T) hp
  have h2 := ens_le (T := T) h1.2
  have hl := wln_le w hw
  have he : en n T p = ens n T (stt n T p) := rfl
  refine ok_eq ?_
  unfold f_X11_isWord f_X11_isWord_24
  rw [ite_iff (c_isWd h), h.1, h.2.1, pk_sub h2.1, strLen_n, ite_iff (nI_eq2 (by omega) (by omega))]
  refine ok_ite (fun z => ok_ite (fun z2 => ?_) (fun z2 => ok_ret ⟨by rw [bI_neg (fun y => z2 y.2.1)], rfl⟩)) (fun z => ok_ret ⟨by rw [bI_neg (fun y => z y.1)], rfl⟩)
  refine L_X11_isWord_28 (wln w) (fun k l2 τ => l2 = nI k ∧ τ = σ ∧ ∀ i, i < k → T (stt n T p + i) = wbt w i) (by omega) (fun k q l2 τ hk hI hq => ?_) (Nat.zero_le _) ⟨rfl, rfl, fun i hi => by omega⟩
  obtain ⟨rfl, rfl, hA⟩ := hI
  unfold s_X11_isWord_28
  rw [strLen_n, ite_iff (nI_le2 (by omega) (by omega))]
  by_cases ck : k < wln w
  · obtain ⟨b1, b2⟩ := wbt_ok w hw k (by omega) ck
    obtain ⟨t1, t2⟩ := hT.2.2 (stt n T p + k) (by omega)
    have g2 : inb (nI k) (jslen.getD w 0) := nI_inb ck (by show wln w < _; omega)
    rw [if_neg (by omega), h.1, nI_add, gd_n (by omega) (by omega), gd_pos g2, nI_ix (by omega), t2, b1, ite_iff (nI_eq2 (by omega) (by omega))]
    refine ok_ite (fun y => hq (k + 1) _ _ (by omega) (by omega) ⟨nI_1 k, rfl, fun i hi => ?_⟩) (fun y => ok_ret ⟨by rw [bI_neg (fun x => y (x.2.2 k ck))], rfl⟩)
    by_cases e : i = k
    · subst e; exact y
    · exact hA i (by omega)
  · rw [if_pos (by omega)]
    exact ok_ret ⟨by rw [bI_pos ⟨z, z2, fun i hi => hA i (by omega)⟩], rfl⟩
theorem m_isWord (hT : TPm n T σ) (h : TKm n T p σ) (hp : p ≤ n) {w : Nat} (hw : w < 9) : f_X13_isWord w σ = some (bI (isW n T p w), σ) := by
  have hn := hT.1
  have h1 := stt_le (T := T) hp
  have h2 := ens_le (T := T) h1.2
  have hl := wln_le w hw
  have he : en n T p = ens n T (stt n T p) := rfl
  refine ok_eq ?_
  unfold f_X13_isWord f_X13_isWord_24
  rw [ite_iff (m_isWd h), h.1, h.2.1, pk_sub h2.1, strLen_n, ite_iff (nI_eq2 (by omega) (by omega))]
  refine ok_ite (fun z => ok_ite (fun z2 => ?_) (fun z2 => ok_ret ⟨by rw [bI_neg (fun y => z2 y.2.1)], rfl⟩)) (fun z => ok_ret ⟨by rw [bI_neg (fun y => z y.1)], rfl⟩)
  refine L_X13_isWord_28 (wln w) (fun k l2 τ => l2 = nI k ∧ τ = σ ∧ ∀ i, i < k → T (stt n T p + i) = wbt w i) (by omega) (fun k q l2 τ hk hI hq => ?_) (Nat.zero_le _) ⟨rfl, rfl, fun i hi => by omega⟩
  obtain ⟨rfl, rfl, hA⟩ := hI
  unfold s_X13_isWord_28
  rw [strLen_n, ite_iff (nI_le2 (by omega) (by omega))]
  by_cases ck : k < wln w
  · obtain ⟨b1, b2⟩ := wbt_ok w hw k (by omega) ck
    obtain ⟨t1, t2⟩ := hT.2.2 (stt n T p + k) (by omega)
    have t2 : rI τ 336 (stt n T p + k) = sgn (T (stt n T p + k)) := t2
    have g2 : inb (nI k) (jslen.getD w 0) := nI_inb ck (by show wln w < _; omega)
    rw [if_neg (by omega), h.1, nI_add, gd_n (by omega) (by omega), gd_pos g2, nI_ix (by omega), t2, b1, ite_iff (sgn_eq t1 b2)]
    refine ok_ite (fun y => hq (k + 1) _ _ (by omega) (by omega) ⟨nI_1 k, rfl, fun i hi => ?_⟩) (fun y => ok_ret ⟨by rw [bI_neg (fun x => y (x.2.2 k ck))], rfl⟩)
    by_cases e : i = k
    · subst e; exact y
    · exact hA i (by omega)
  · rw [if_pos (by omega)]
    exact ok_ret ⟨by rw [bI_pos ⟨z, z2, fun i hi => hA i (by omega)⟩], rfl⟩
/-- a number of a span: 0, or what is wrong -/
def numc (n : Nat) (T : Nat → Nat) (p lo hi : Nat) : Nat := if kdt n T p = 2 then (if lo ≤ vvs n T (stt n T p) ∧ vvs n T (stt n T p) ≤ hi then 0 else 2) else 1
theorem numc_le (p lo hi : Nat) : numc n T p lo hi ≤ 2 := by
  unfold numc
  split
  · split <;> omega
  · omega
theorem numc_0 {lo hi : Nat} : numc n T p lo hi = 0 ↔ kdt n T p = 2 ∧ lo ≤ vvs n T (stt n T p) ∧ vvs n T (stt n T p) ≤ hi := by
  unfold numc
  by_cases c : kdt n T p = 2
  · rw [if_pos c]
    by_cases c2 : lo ≤ vvs n T (stt n T p) ∧ vvs n T (stt n T p) ≤ hi
    · rw [if_pos c2]; exact ⟨fun _ => ⟨c, c2⟩, fun _ => rfl⟩
    · rw [if_neg c2]; exact ⟨fun z => by omega, fun z => absurd z.2 c2⟩
  · rw [if_neg c]; exact ⟨fun z => by omega, fun z => absurd z.1 c⟩
theorem c_isNumber (h : TKc n T p σ) {lo hi : Nat} (hlo : lo < 1000) (hhi : hi < 1000) : f_X11_isNumber (nI lo) (nI hi) σ = some (bI (numc n T p lo hi = 0), if numc n T p lo hi = 0 then σ else wI (wI σ 262 2 (nI (numc n T p lo hi))) 262 3 (nI (stt n T p))) := by
  refine ok_eq ?_
  unfold f_X11_isNumber f_X11_isNumber_30 f_X11_isNumber_38 f_X11_isNumber_43
  rw [ite_iff (c_isNum h)]
  simp only [q_X11_fault, bd_some, gd_0, gd_1, h.1, if_true, gd_T, gd_T2]
  by_cases c : kdt n T p = 2
  · have hv := vvs_le (n := n) (T := T) (s := stt n T p) c
    rw [if_pos c, h.2.2.2.1 c, ite_iff (nI_lt2 (by omega) (by omega)), ite_iff (nI_le2 (by omega) (by omega))]
    have bad : ¬ (lo ≤ vvs n T (stt n T p) ∧ vvs n T (stt n T p) ≤ hi) → ok (some ((0 : Int32), wI (wI σ 262 2 2) 262 3 (nI (stt n T p)))) (fun a τ => a = bI (numc n T p lo hi = 0) ∧ τ = if numc n T p lo hi = 0 then σ else wI (wI σ 262 2 (nI (numc n T p lo hi))) 262 3 (nI (stt n T p))) := fun z => by
      have e2 : numc n T p lo hi = 2 := by unfold numc; rw [if_pos c, if_neg z]
      rw [e2, if_neg (by omega), bI_neg (by omega)]
      exact ok_ret ⟨rfl, rfl⟩
    refine ok_ite (fun z => bad (by omega)) (fun z => ok_ite (fun z2 => ?_) (fun z2 => bad (by omega)))
    have e0 : numc n T p lo hi = 0 := numc_0.mpr ⟨c, by omega, z2⟩
    rw [e0, if_pos rfl, bI_pos rfl]
    exact ok_ret ⟨rfl, rfl⟩
  · have e1 : numc n T p lo hi = 1 := by unfold numc; rw [if_neg c]
    rw [if_neg c, e1, if_neg (by omega), bI_neg (by omega)]
    exact ok_ret ⟨rfl, rfl⟩
/-- one letter -/
abbrev ltr (n : Nat) (T : Nat → Nat) (p : Nat) : Prop := kdt n T p = 1 ∧ en n T p - stt n T p = 1
theorem ltr_bd (h : kdt n T p = 1) : 97 ≤ T (stt n T p) ∧ T (stt n T p) ≤ 122 := by
  unfold kdt kds at h
  by_cases c0 : n ≤ stt n T p
  · rw [if_pos c0] at h; omega
  rw [if_neg c0] at h
  by_cases c1 : 97 ≤ T (stt n T p) ∧ T (stt n T p) ≤ 122
  · exact c1
  rw [if_neg c1] at h
  split at h
  · split at h <;> omega
  · omega
theorem c_isLetter (h : TKc n T p σ) (hp : p ≤ n) (hn : n ≤ 300) : f_X11_isLetter σ = some (bI (ltr n T p), σ) := by
  have h1 := stt_le (T := T) hp
  have h2 := ens_le (T := T) h1.2
  have he : en n T p = ens n T (stt n T p) := rfl
  refine ok_eq ?_
  unfold f_X11_isLetter f_X11_isLetter_25 f_X11_isLetter_26
  rw [ite_iff (c_isWd h), h.1, h.2.1, pk_sub h2.1, ite_iff (show nI (ens n T (stt n T p) - stt n T p) = 1 ↔ ens n T (stt n T p) - stt n T p = 1 from nI_eq2 (b := 1) (by omega) (by omega))]
  simp only [gd_0, gd_1]
  exact ok_ite (fun z => ok_ite (fun z2 => ok_ret ⟨by rw [bI_pos ⟨z, z2⟩], rfl⟩) (fun z2 => ok_ret ⟨by rw [bI_neg (fun y => z2 y.2)], rfl⟩)) (fun z => ok_ret ⟨by rw [bI_neg (fun y => z y.1)], rfl⟩)
theorem m_letterHere (h : TKm n T p σ) (hp : p ≤ n) (hn : n ≤ 300) (hw : rI σ 324 21 = 0) : ok (f_X13_letterHere σ) (fun r τ => (ltr n T p ∧ r = nI (T (stt n T p)) ∧ τ = σ) ∨ (¬ ltr n T p ∧ r = 97 ∧ τ = wI (wI σ 324 21 1) 324 22 (nI (stt n T p)))) := by
  have h1 := stt_le (T := T) hp
  have h2 := ens_le (T := T) h1.2
  have he : en n T p = ens n T (stt n T p) := rfl
  unfold f_X13_letterHere
  rw [e_isWell, bd_some, bI_pos hw, if_neg (by decide), ite_iff (m_isWd h), h.1, h.2.1, pk_sub h2.1, ite_iff (show nI (ens n T (stt n T p) - stt n T p) = 1 ↔ ens n T (stt n T p) - stt n T p = 1 from nI_eq2 (b := 1) (by omega) (by omega))]
  have bad : ¬ ltr n T p → ok (f_X13_letterHere_28 σ) (fun r τ => (ltr n T p ∧ r = nI (T (stt n T p)) ∧ τ = σ) ∨ (¬ ltr n T p ∧ r = 97 ∧ τ = wI (wI σ 324 21 1) 324 22 (nI (stt n T p)))) := fun z => by
    unfold f_X13_letterHere_28 f_X13_letterHere_33 f_X13_letterHere_49
    rw [m_fails hw, bd_some, e_isWell, bd_some, h.1, bI_neg (by rw [rI_nj (by omega), rI_same]; decide), if_pos rfl]
    exact ok_ret (Or.inr ⟨z, rfl, rfl⟩)
  refine ok_ite (fun z => ok_ite (fun z2 => ?_) (fun z2 => bad (fun y => z2 y.2))) (fun z => bad (fun y => z y.1))
  unfold f_X13_letterHere_33 f_X13_letterHere_49
  have hb := ltr_bd z
  rw [e_isWell, bd_some, bI_pos hw, if_neg (by decide), h.2.2.2.2 (Or.inl z), sgn_lo (by omega)]
  exact ok_ret (Or.inl ⟨⟨z, z2⟩, rfl, rfl⟩)
theorem c_isVowel {c : Nat} (h : c < 1000) : f_X12_isVowel (nI c) σ = some (bI (vw c ≠ 999), σ) := by
  unfold f_X12_isVowel f_X12_isVowel_13
  have hb := vw_bd c
  rw [e_vowelOf h, bd_some, ite_iff (on_m1 (by omega))]
  by_cases z : vw c = 999
  · rw [if_pos z, bI_neg (fun y => y z), gd_0]
  · rw [if_neg z, bI_pos z, gd_1]
end WRD
