/-! tokens: what stands next on the tape; the class's advance -/
section TOK
variable {σ : jM} {n p s : Nat} {T : Nat → Nat}
/-- on while P, at most k steps -/
def run (P : Nat → Bool) : Nat → Nat → Nat := Nat.rec (fun p => p) (fun _ F p => if P p = true then F (p + 1) else p)
theorem run_0 (P : Nat → Bool) (p : Nat) : run P 0 p = p := rfl
theorem run_s (P : Nat → Bool) (k p : Nat) : run P (k + 1) p = if P p = true then run P k (p + 1) else p := rfl
theorem run_ge (P : Nat → Bool) (k p : Nat) : p ≤ run P k p ∧ run P k p ≤ p + k := by
  induction k generalizing p with
  | zero => exact ⟨Nat.le_refl _, Nat.le_refl _⟩
  | succ k ih =>
    rw [run_s]
    split
    · have := ih (p + 1); omega
    · omega
theorem run_on (P : Nat → Bool) {n p : Nat} (h : p < n) (hp : P p = true) : run P (n - p) p = run P (n - (p + 1)) (p + 1) := by
  obtain ⟨k, hk⟩ : ∃ k, n - p = k + 1 := ⟨n - p - 1, by omega⟩
  rw [hk, run_s, if_pos hp, show n - (p + 1) = k by omega]
theorem run_off (P : Nat → Bool) {n p : Nat} (h : p < n) (hp : ¬ P p = true) : run P (n - p) p = p := by
  obtain ⟨k, hk⟩ : ∃ k, n - p = k + 1 := ⟨n - p - 1, by omega⟩
  rw [hk, run_s, if_neg hp]
theorem run_end (P : Nat → Bool) {n p : Nat} (h : n ≤ p) : run P (n - p) p = p := by
  rw [show n - p = 0 by omega]; rfl
def stt (n : Nat) (T : Nat → Nat) (p : Nat) : Nat := run (fun i => decide (T i = 32 ∨ T i = 10)) (n - p) p
def lend (n : Nat) (T : Nat → Nat) (s : Nat) : Nat := run (fun i => decide (97 ≤ T i ∧ T i ≤ 122)) (n - s) s
def dend (n : Nat) (T : Nat → Nat) (s : Nat) : Nat := run (fun i => decide (48 ≤ T i ∧ T i ≤ 57)) (n - s) s
/-- kinds: 0 none, 1 a word, 2 a number, 3 another byte, 4 too many figures -/
def kds (n : Nat) (T : Nat → Nat) (s : Nat) : Nat := if n ≤ s then 0 else if 97 ≤ T s ∧ T s ≤ 122 then 1 else if 48 ≤ T s ∧ T s ≤ 57 then (if dend n T s - s ≤ 2 then 2 else 4) else 3
def ens (n : Nat) (T : Nat → Nat) (s : Nat) : Nat := if n ≤ s then s else if 97 ≤ T s ∧ T s ≤ 122 then lend n T s else if 48 ≤ T s ∧ T s ≤ 57 then dend n T s else s + 1
def vvs (n : Nat) (T : Nat → Nat) (s : Nat) : Nat := if dend n T s - s ≤ 1 then T s - 48 else 10 * (T s - 48) + (T (s + 1) - 48)
def en (n : Nat) (T : Nat → Nat) (p : Nat) : Nat := ens n T (stt n T p)
def kdt (n : Nat) (T : Nat → Nat) (p : Nat) : Nat := kds n T (stt n T p)
theorem stt_le (h : p ≤ n) : p ≤ stt n T p ∧ stt n T p ≤ n := by
  have := run_ge (fun i => decide (T i = 32 ∨ T i = 10)) (n - p) p
  unfold stt
  omega
theorem ens_le (h : s ≤ n) : s ≤ ens n T s ∧ ens n T s ≤ n := by
  have h1 := run_ge (fun i => decide (97 ≤ T i ∧ T i ≤ 122)) (n - s) s
  have h2 := run_ge (fun i => decide (48 ≤ T i ∧ T i ≤ 57)) (n - s) s
  unfold ens lend dend
  split
  · omega
  · split
    · omega
    · split <;> omega
theorem en_le (h : p ≤ n) : p ≤ en n T p ∧ en n T p ≤ n := by
  have h1 := stt_le (T := T) h
  have h2 := ens_le (T := T) h1.2
  unfold en
  omega
theorem kds_le (n : Nat) (T : Nat → Nat) (s : Nat) : kds n T s ≤ 4 := by
  unfold kds
  split
  · omega
  · split
    · omega
    · split
      · split <;> omega
      · omega
theorem kdt_lt (h : kdt n T p ≠ 0) : stt n T p < n := by
  unfold kdt kds at h
  rcases Nat.lt_or_ge (stt n T p) n with w | w
  · exact w
  · rw [if_pos w] at h; exact absurd rfl h
theorem kdt_adv (h : p ≤ n) (hk : kdt n T p ≠ 0) : p < en n T p := by
  have h0 := kdt_lt hk
  have h1 := stt_le (T := T) h
  unfold en ens
  rw [if_neg (by omega)]
  by_cases c1 : 97 ≤ T (stt n T p) ∧ T (stt n T p) ≤ 122
  · rw [if_pos c1]
    unfold lend
    rw [run_on _ h0 (decide_eq_true c1)]
    have := run_ge (fun i => decide (97 ≤ T i ∧ T i ≤ 122)) (n - (stt n T p + 1)) (stt n T p + 1)
    omega
  · rw [if_neg c1]
    by_cases c2 : 48 ≤ T (stt n T p) ∧ T (stt n T p) ≤ 57
    · rw [if_pos c2]
      unfold dend
      rw [run_on _ h0 (decide_eq_true c2)]
      have := run_ge (fun i => decide (48 ≤ T i ∧ T i ≤ 57)) (n - (stt n T p + 1)) (stt n T p + 1)
      omega
    · rw [if_neg c2]; omega
/-- the class's tape, and its token from cursor p on -/
def TPc (n : Nat) (T : Nat → Nat) (σ : jM) : Prop := n ≤ 300 ∧ rI σ 262 1 = nI n ∧ ∀ j, j < n → T j < 256 ∧ rI σ 263 j = nI (T j)
theorem TPc_fr {τ : jM} {W : Nat → Nat → Prop} (h : TPc n T σ) (hF : Fr W σ τ) (w2 : ¬ W 262 1) (w3 : ∀ j, ¬ W 263 j) : TPc n T τ := ⟨h.1, (hF.I _ _ w2).trans h.2.1, fun j hj => ⟨(h.2.2 j hj).1, (hF.I _ _ (w3 j)).trans (h.2.2 j hj).2⟩⟩
theorem TP.c (h : TP n T σ) : TPc n T σ := ⟨h.1, h.2.2.1, fun j hj => ⟨(h.2.2.2 j hj).1, (h.2.2.2 j hj).2.1⟩⟩
def ckd (k : Nat) : Nat := if k = 4 then 3 else k
def TKs (n : Nat) (T : Nat → Nat) (s : Nat) (σ : jM) : Prop := rI σ 262 5 = nI s ∧ rI σ 262 6 = nI (ens n T s) ∧ rI σ 262 4 = nI (ckd (kds n T s)) ∧ (kds n T s = 2 → rI σ 262 7 = nI (vvs n T s)) ∧ (kds n T s = 3 → rI σ 262 7 = nI (T s)) ∧ (kds n T s = 4 → rI σ 262 7 = -1)
def TKc (n : Nat) (T : Nat → Nat) (p : Nat) (σ : jM) : Prop := TKs n T (stt n T p) σ
abbrev wcT (k j : Nat) : Prop := k = 262 ∧ 4 ≤ j ∧ j ≤ 7
theorem lt_c : ∀ b : Nat, b < 256 → ((97 ≤ nI b ∧ nI b ≤ 122) ↔ (97 ≤ b ∧ b ≤ 122)) := by decide +kernel
theorem dg_c : ∀ b : Nat, b < 256 → ((48 ≤ nI b ∧ nI b ≤ 57) ↔ (48 ≤ b ∧ b ≤ 57)) := by decide +kernel
theorem c_takeWord (h : TPc n T σ) (hs : s < n) (hl : 97 ≤ T s ∧ T s ≤ 122) (h5 : rI σ 262 5 = nI s) (h6 : rI σ 262 6 = nI s) : ok (f_X11_takeWord σ) (fun _ τ => TKs n T s τ ∧ Fr wcT σ τ) := by
  have hn := h.1
  have hk : kds n T s = 1 := by unfold kds; rw [if_neg (by omega), if_pos hl]
  have he : ens n T s = lend n T s := by unfold ens; rw [if_neg (by omega), if_pos hl]
  unfold f_X11_takeWord
  refine L_X11_takeWord_5 n (fun k τ => rI τ 262 6 = nI k ∧ rI τ 262 4 = 1 ∧ lend n T s = run (fun i => decide (97 ≤ T i ∧ T i ≤ 122)) (n - k) k ∧ Fr wcT σ τ ∧ rI τ 262 5 = nI s) (by omega) (fun k q τ hkn hI hq => ?_) (k := s) (by omega) ⟨by rw [rI_nj (by omega)]; exact h6, rI_same _ _ _ _, rfl, Fr.w Fr.refl (by omega), by rw [rI_nj (by omega)]; exact h5⟩
  obtain ⟨i6, i4, i1, hF, i5⟩ := hI
  have h1 := TPc_fr h hF (by omega) (fun j => by omega)
  unfold s_X11_takeWord_5 f_X11_takeWord_40
  rw [h1.2.1, i6, ite_iff (nI_le2 (by omega) (by omega))]
  have fin : lend n T s = k → ok (some ((), τ)) (fun (_ : Unit) τ => TKs n T s τ ∧ Fr wcT σ τ) := fun z => ok_ret ⟨⟨i5, by rw [he, z]; exact i6, by rw [hk, i4]; rfl, fun y => by omega, fun y => by omega, fun y => by omega⟩, hF⟩
  refine ok_ite (fun z => fin (by rw [i1, run_end _ z])) (fun z => ?_)
  obtain ⟨t1, t2⟩ := h1.2.2 k (by omega)
  rw [e_isLetterAt (by omega), bd_some, ite_bI, t2, ite_iff (lt_c _ t1)]
  refine ok_ite (fun y => ?_) (fun y => fin (by rw [i1, run_off _ (by omega) (fun w => y (of_decide_eq_true w))]))
  rw [run_on _ (by omega) (decide_eq_true y)] at i1
  rw [i6, nI_1]
  exact hq (k + 1) _ (by omega) (by omega) ⟨rI_same _ _ _ _, by rw [rI_nj (by omega)]; exact i4, i1, Fr.w hF (by omega), by rw [rI_nj (by omega)]; exact i5⟩
/-- the value of the first figures -/
def dv (T : Nat → Nat) (s d : Nat) : Nat := if d = 0 then 0 else if d = 1 then T s - 48 else 10 * (T s - 48) + (T (s + 1) - 48)
theorem c_takeNumber (h : TPc n T σ) (hs : s < n) (hl : 48 ≤ T s ∧ T s ≤ 57) (h5 : rI σ 262 5 = nI s) (h6 : rI σ 262 6 = nI s) : ok (f_X11_takeNumber σ) (fun _ τ => TKs n T s τ ∧ Fr wcT σ τ) := by
  have hn := h.1
  have hk : kds n T s = if dend n T s - s ≤ 2 then 2 else 4 := by unfold kds; rw [if_neg (by omega), if_neg (by omega), if_pos hl]
  have he : ens n T s = dend n T s := by unfold ens; rw [if_neg (by omega), if_neg (by omega), if_pos hl]
  unfold f_X11_takeNumber
  refine L_X11_takeNumber_5 n (fun k τ => rI τ 262 6 = nI k ∧ s ≤ k ∧ (k - s ≤ 2 → rI τ 262 7 = nI (dv T s (k - s)) ∧ dv T s (k - s) ≤ 99 ∧ (1 ≤ k - s → True)) ∧ dend n T s = run (fun i => decide (48 ≤ T i ∧ T i ≤ 57)) (n - k) k ∧ Fr wcT σ τ ∧ rI τ 262 5 = nI s) (by omega) (fun k q τ hkn hI hq => ?_) (k := s) (by omega) ⟨by rw [rI_nj (by omega)]; exact h6, Nat.le_refl _, fun _ => ⟨by rw [rI_same, Nat.sub_self]; rfl, by rw [Nat.sub_self]; exact Nat.zero_le _, fun _ => trivial⟩, rfl, Fr.w Fr.refl (by omega), by rw [rI_nj (by omega)]; exact h5⟩
  obtain ⟨i6, isk, i7, i1, hF, i5⟩ := hI
  have h1 := TPc_fr h hF (by omega) (fun j => by omega)
  rw [q_s_X11_takeNumber_5, h1.2.1, i6, ite_iff (nI_le2 (by omega) (by omega))]
  have hgt : s < dend n T s := by
    unfold dend
    rw [run_on _ hs (decide_eq_true hl)]
    have := run_ge (fun i => decide (48 ≤ T i ∧ T i ≤ 57)) (n - (s + 1)) (s + 1)
    omega
  have fin : dend n T s = k → ok (f_X11_takeNumber_64 τ) (fun _ τ => TKs n T s τ ∧ Fr wcT σ τ) := fun z => by
    rw [q_X11_takeNumber_64]
    unfold f_X11_takeNumber_92
    rw [i6, i5, pk_sub isk, li2, ite_iff (nI_le2 (by omega) (by omega))]
    refine ok_ite (fun y => ?_) (fun y => ?_)
    · have e2 : kds n T s = 2 := by rw [hk, if_pos (by omega)]
      have ev : vvs n T s = dv T s (k - s) := by
        unfold vvs dv
        rw [z]
        by_cases w : k - s ≤ 1
        · rw [if_pos w, if_neg (by omega), if_pos (by omega)]
        · rw [if_neg w, if_neg (by omega), if_neg (by omega)]
      refine ok_ret ⟨⟨by rw [rI_nj (by omega)]; exact i5, by rw [rI_nj (by omega), he, z]; exact i6, by rw [rI_same, e2]; rfl, fun _ => by rw [rI_nj (by omega), ev]; exact (i7 y).1, fun w => by omega, fun w => by omega⟩, Fr.w hF (by omega)⟩
    · have e2 : kds n T s = 4 := by rw [hk, if_neg (by omega)]
      refine ok_ret ⟨⟨by rw [rI_nj (by omega), rI_nj (by omega), rI_nj (by omega)]; exact i5, by rw [rI_nj (by omega), rI_nj (by omega), rI_nj (by omega), he, z]; exact i6, by rw [rI_nj (by omega), rI_same, e2]; rfl, fun w => by omega, fun w => by omega, fun _ => rI_same _ _ _ _⟩, Fr.w (Fr.w (Fr.w hF (by omega)) (by omega)) (by omega)⟩
  refine ok_ite (fun z => fin (by rw [i1, run_end _ z])) (fun z => ?_)
  obtain ⟨t1, t2⟩ := h1.2.2 k (by omega)
  rw [e_isFigureAt (by omega), bd_some, ite_bI, t2, ite_iff (dg_c _ t1)]
  refine ok_ite (fun y => ?_) (fun y => fin (by rw [i1, run_off _ (by omega) (fun w => y (of_decide_eq_true w))]))
  rw [run_on _ (by omega) (decide_eq_true y)] at i1
  rw [i6, gd_n (by omega) (by omega), nI_1]
  simp (disch := omega) only [nI_ix]
  rw [t2]
  refine hq (k + 1) _ (by omega) (by omega) ⟨rI_same _ _ _ _, by omega, fun w => ?_, i1, Fr.w (Fr.w hF (by omega)) (by omega), by rw [rI_nj (by omega), rI_nj (by omega)]; exact i5⟩
  obtain ⟨v1, v2, -⟩ := i7 (by omega)
  have hdv : dv T s (k + 1 - s) = dv T s (k - s) * 10 + T k - 48 := by
    unfold dv
    rcases (by omega : k = s ∨ k = s + 1) with e | e
    · subst e
      rw [if_neg (by omega), if_pos (by omega), if_pos (by omega)]
      omega
    · subst e
      rw [if_neg (by omega), if_neg (by omega), if_neg (by omega), if_pos (by omega)]
      omega
  refine ⟨?_, ?_, fun _ => trivial⟩
  · rw [rI_nj (by omega), rI_same, v1, show (10 : Int32) = nI 10 from rfl, pk_mul, nI_add, show (48 : Int32) = nI 48 from rfl, pk_sub (by omega), hdv]
  · rw [hdv]
    rcases (by omega : k = s ∨ k = s + 1) with e | e
    · subst e
      rw [Nat.sub_self]
      have : dv T k 0 = 0 := rfl
      omega
    · subst e
      rw [show s + 1 - s = 1 by omega]
      have : dv T s 1 = T s - 48 := rfl
      omega
theorem c_adv60 (h : TPc n T σ) (hs : s ≤ n) (h5 : rI σ 262 5 = nI s) : ok (f_X11_advance_60 σ) (fun _ τ => TKs n T s τ ∧ Fr wcT σ τ) := by
  have hn := h.1
  rw [q_X11_advance_60]
  unfold f_X11_advance_151
  rw [h5, h.2.1, ite_iff (nI_lt2 (by omega) (by omega))]
  have hF0 : Fr wcT σ (wI σ 262 6 (nI s)) := Fr.w Fr.refl (by omega)
  have h0 := TPc_fr h hF0 (by omega) (fun j => by omega)
  have e5 : rI (wI σ 262 6 (nI s)) 262 5 = nI s := by rw [rI_nj (by omega)]; exact h5
  refine ok_ite (fun z => ?_) (fun z => ?_)
  · obtain ⟨t1, t2⟩ := h0.2.2 s z
    rw [e_isLetterAt (by omega), bd_some, ite_bI, t2, ite_iff (lt_c _ t1)]
    refine ok_ite (fun y => ?_) (fun y => ?_)
    · refine ok_bd (c_takeWord h0 z y e5 (rI_same _ _ _ _)) (fun _ τ u => ok_ret ⟨u.1, hF0.trans u.2⟩)
    · rw [e5, e_isFigureAt (by omega), bd_some, ite_bI, t2, ite_iff (dg_c _ t1)]
      refine ok_ite (fun y2 => ?_) (fun y2 => ?_)
      · refine ok_bd (c_takeNumber h0 z y2 e5 (rI_same _ _ _ _)) (fun _ τ u => ok_ret ⟨u.1, hF0.trans u.2⟩)
      · rw [e5, gd_n (by omega) (by omega), rI_same, nI_1]
        simp (disch := omega) only [nI_ix]
        rw [t2]
        have e3 : kds n T s = 3 := by unfold kds; rw [if_neg (by omega), if_neg y, if_neg y2]
        refine ok_ret ⟨⟨by rw [rI_nj (by omega), rI_nj (by omega), rI_nj (by omega)]; exact e5, by rw [rI_same]; unfold ens; rw [if_neg (by omega), if_neg y, if_neg y2], by rw [rI_nj (by omega), rI_nj (by omega), rI_same, e3]; rfl, fun w => by omega, fun _ => by rw [rI_nj (by omega), rI_same], fun w => by omega⟩, Fr.w (Fr.w (Fr.w hF0 (by omega)) (by omega)) (by omega)⟩
  · have e0 : kds n T s = 0 := by unfold kds; rw [if_pos (by omega)]
    refine ok_ret ⟨⟨by rw [rI_nj (by omega)]; exact e5, by rw [rI_nj (by omega), rI_same]; unfold ens; rw [if_pos (by omega)], by rw [rI_same, e0]; rfl, fun w => by omega, fun w => by omega, fun w => by omega⟩, Fr.w hF0 (by omega)⟩
theorem ws_c : ∀ b : Nat, b < 256 → (nI b = 32 ↔ b = 32) ∧ (nI b = 10 ↔ b = 10) := by decide +kernel
theorem c_advance (h : TPc n T σ) (hp : p ≤ n) (h6 : rI σ 262 6 = nI p) : ok (f_X11_advance σ) (fun _ τ => TKc n T p τ ∧ Fr wcT σ τ) := by
  have hn := h.1
  unfold f_X11_advance
  rw [h6]
  refine L_X11_advance_8 n (fun k τ => rI τ 262 5 = nI k ∧ stt n T p = run (fun i => decide (T i = 32 ∨ T i = 10)) (n - k) k ∧ Fr wcT σ τ) (by omega) (fun k q τ hkn hI hq => ?_) (k := p) hp ⟨rI_same _ _ _ _, rfl, Fr.w Fr.refl (by omega)⟩
  obtain ⟨i5, i1, hF⟩ := hI
  have h1 := TPc_fr h hF (by omega) (fun j => by omega)
  unfold s_X11_advance_8 f_X11_advance_47
  rw [h1.2.1, i5, ite_iff (nI_le2 (by omega) (by omega))]
  have fin : stt n T p = k → ok (f_X11_advance_60 τ) (fun _ τ => TKc n T p τ ∧ Fr wcT σ τ) := fun z => by
    refine ok_imp (c_adv60 h1 hkn i5) (fun _ τ' u => ⟨?_, hF.trans u.2⟩)
    unfold TKc
    rw [z]
    exact u.1
  refine ok_ite (fun z => fin (by rw [i1, run_end _ z])) (fun z => ?_)
  obtain ⟨t1, t2⟩ := h1.2.2 k (by omega)
  rw [gd_n (by omega) (by omega), gd_n (by omega) (by omega), nI_ix (by omega), t2, ite_iff (ws_c _ t1).1, ite_iff (ws_c _ t1).2, nI_1]
  have go : T k = 32 ∨ T k = 10 → ok (q (wI τ 262 5 (nI (k + 1)))) (fun _ τ => TKc n T p τ ∧ Fr wcT σ τ) := fun y => by
    rw [run_on _ (by omega) (decide_eq_true y)] at i1
    exact hq (k + 1) _ (by omega) (by omega) ⟨rI_same _ _ _ _, i1, Fr.w hF (by omega)⟩
  refine ok_ite (fun y => go (Or.inl y)) (fun y => ok_ite (fun y2 => go (Or.inr y2)) (fun y2 => fin ?_))
  rw [i1, run_off _ (by omega) (fun w => (of_decide_eq_true w).elim y y2)]
end TOK
