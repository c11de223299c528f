/-! A NAME SPELLED: what it is -/
section SPL
variable {D : dD} {σ : jM}
/-- a number, or 999 for none -/
def on (x : Nat) : Int32 := if x = 999 then -1 else nI x
theorem on_n {x : Nat} (h : x ≠ 999) : on x = nI x := if_neg h
theorem on_999 : on 999 = -1 := rfl
theorem on_m1 {x : Nat} (h : x < 2147483648) : on x = -1 ↔ x = 999 := by
  unfold on
  by_cases e : x = 999
  · rw [if_pos e]; exact ⟨fun _ => e, fun _ => rfl⟩
  · rw [if_neg e, nI_m1 h]; exact ⟨fun z => z.elim, fun z => absurd z e⟩
def vw (c : Nat) : Nat := if c = 97 then 0 else if c = 101 then 1 else if c = 105 then 2 else if c = 111 then 3 else if c = 117 then 4 else 999
theorem vw_bd (c : Nat) : vw c = 999 ∨ vw c < 5 := by
  unfold vw
  repeat' split
  all_goals omega
theorem e_vowelOf {c : Nat} (h : c < 1000) (σ : jM) : f_X12_vowelOf (nI c) σ = some (on (vw c), σ) := by
  unfold f_X12_vowelOf vw
  rw [show (97 : Int32) = nI 97 from rfl, show (101 : Int32) = nI 101 from rfl, show (105 : Int32) = nI 105 from rfl, show (111 : Int32) = nI 111 from rfl, show (117 : Int32) = nI 117 from rfl]
  simp (disch := omega) only [nI_eq2]
  repeat' split
  all_goals rfl
theorem m_vowel {c : Nat} (h : c < 1000) (σ : jM) : f_X13_vowel (nI c) σ = some (on (vw c), σ) := by
  unfold f_X13_vowel f_X13_vowel_51 vw
  rw [show (97 : Int32) = nI 97 from rfl, show (101 : Int32) = nI 101 from rfl, show (105 : Int32) = nI 105 from rfl, show (111 : Int32) = nI 111 from rfl, show (117 : Int32) = nI 117 from rfl]
  simp (disch := omega) only [nI_eq2]
  repeat' split
  all_goals rfl
/-! what the rules write for a letter, which they drop -/
def wrn (D : dD) (v c : Nat) : Nat → Nat := Nat.rec c (fun k r => if cl D v 332 k = 2 ∧ cl D v 333 k = c then cl D v 334 k else r)
theorem wrn_s (D : dD) (v c k : Nat) : wrn D v c (k + 1) = if cl D v 332 k = 2 ∧ cl D v 333 k = c then cl D v 334 k else wrn D v c k := rfl
def wr (D : dD) (v c : Nat) : Nat := wrn D v c (ncl D v)
def drn (D : dD) (v c : Nat) : Nat → Bool := Nat.rec false (fun k r => r || decide (cl D v 332 k = 3 ∧ cl D v 333 k = c))
theorem drn_s (D : dD) (v c k : Nat) : drn D v c (k + 1) = (drn D v c k || decide (cl D v 332 k = 3 ∧ cl D v 333 k = c)) := rfl
def drp (D : dD) (v c : Nat) : Bool := drn D v c (ncl D v)
theorem drn_mono (D : dD) (v c : Nat) {k n : Nat} (h : k ≤ n) (hd : drn D v c k = true) : drn D v c n = true := by
  induction n with
  | zero => have : k = 0 := by omega
            subst this; exact hd
  | succ n ih =>
    rcases Nat.lt_or_ge k (n + 1) with w | w
    · rw [drn_s, ih (by omega)]; rfl
    · have : k = n + 1 := by omega
      subst this; exact hd
/-! the rules as known: how many clauses, and what each is -/
theorem rIx_lt (hw : DWr D) (v : Nat) (h : rIx D v ≠ 10) : rIx D v < D 324 8 := by
  rcases ri_lt D v (D 324 8) with w | w
  · exact absurd w h
  · exact w
theorem rIx_le (hw : DWr D) (v : Nat) : rIx D v ≤ 10 := by
  by_cases h : rIx D v = 10
  · omega
  · have := rIx_lt hw v h
    have := hw.1
    omega
theorem ncl_le (hw : DWr D) (v : Nat) : ncl D v ≤ 12 := by
  unfold ncl
  split
  · omega
  · rename_i h
    exact (hw.2 _ (rIx_lt hw v h)).2.1
theorem ncl_ne {v c : Nat} (h : c < ncl D v) : rIx D v ≠ 10 := by
  intro e
  unfold ncl at h
  rw [if_pos e] at h
  omega
theorem ncl_eq {v : Nat} (h : rIx D v ≠ 10) : ncl D v = D 331 (rIx D v) := if_neg h
theorem cl_dw (hw : DWr D) {v c : Nat} (h : c < ncl D v) : cl D v 332 c ≤ 3 ∧ (cl D v 332 c < 2 → cl D v 333 c ≤ 7 ∧ 2 ≤ cl D v 334 c ∧ cl D v 334 c ≤ 6 ∧ 1 ≤ cl D v 335 c ∧ cl D v 335 c ≤ 99) ∧ (2 ≤ cl D v 332 c → 97 ≤ cl D v 333 c ∧ cl D v 333 c ≤ 122) ∧ (cl D v 332 c = 2 → 97 ≤ cl D v 334 c ∧ cl D v 334 c ≤ 122) := by
  have h0 := ncl_ne h
  rw [ncl_eq h0] at h
  exact (hw.2 _ (rIx_lt hw v h0)).2.2 c h
theorem c_ncl (hw : DWr D) (hc : CDr D σ) (v : Nat) : rI σ (rulX (rIx D v)) 1 = nI (ncl D v) := by
  unfold ncl
  by_cases h : rIx D v = 10
  · rw [if_pos h, h]; exact hc.2.1
  · rw [if_neg h]; exact (hc.2.2 _ (rIx_lt hw v h)).2.1
theorem c_cl (hw : DWr D) (hc : CDr D σ) {v c : Nat} (h : c < ncl D v) : rI σ (rulX (rIx D v) + 1) c = nI (cl D v 332 c) ∧ (cl D v 332 c < 2 → rI σ (rulX (rIx D v) + 2) c = nI (whc (cl D v 333 c)) ∧ rI σ (rulX (rIx D v) + 3) c = nI (cl D v 334 c) ∧ rI σ (rulX (rIx D v) + 4) c = nI (cl D v 335 c)) ∧ (2 ≤ cl D v 332 c → rI σ (rulX (rIx D v) + 5) c = nI (cl D v 333 c)) ∧ (cl D v 332 c = 2 → rI σ (rulX (rIx D v) + 6) c = nI (cl D v 334 c)) := by
  have h0 := ncl_ne h
  rw [ncl_eq h0] at h
  exact (hc.2.2 _ (rIx_lt hw v h0)).2.2 c h
theorem m_ncl (hw : DWr D) (hM : MD D σ) {v : Nat} (h : rIx D v ≠ 10) : rI σ 331 (rIx D v) = nI (ncl D v) := by
  have := rIx_lt hw v h
  have := hw.1
  rw [ncl_eq h, hM.r (by omega) (by omega)]
theorem m_cl (hw : DWr D) (hM : MD D σ) {v c : Nat} (h : c < ncl D v) {k : Nat} (hk : 332 ≤ k ∧ k ≤ 335) : rI σ k (12 * rIx D v + c) = nI (cl D v k c) ∧ 12 * rIx D v + c < 120 := by
  have h0 := ncl_ne h
  have := rIx_lt hw v h0
  have := hw.1
  have := ncl_le hw v
  exact ⟨hM.r (by omega) (by omega), by omega⟩
theorem wr_bd (hw : DWr D) (v : Nat) {c : Nat} (h : 97 ≤ c ∧ c ≤ 122) : 97 ≤ wr D v c ∧ wr D v c ≤ 122 := by
  have : ∀ n, n ≤ ncl D v → 97 ≤ wrn D v c n ∧ wrn D v c n ≤ 122 := by
    intro n
    induction n with
    | zero => intro _; exact h
    | succ n ih =>
      intro hn
      rw [wrn_s]
      split
      · rename_i hc
        exact (cl_dw hw (c := n) (by omega)).2.2.2 hc.1
      · exact ih (by omega)
  exact this _ (Nat.le_refl _)
/-! the vowel for a consonant; the cell that a letter makes -/
def fwd (V : Nat → Nat) : Nat → Nat → Nat := Nat.rec (fun _ => 999) (fun _ r k => if V k = 999 then r (k + 1) else V k)
theorem fwd_s (V : Nat → Nat) (m k : Nat) : fwd V (m + 1) k = if V k = 999 then fwd V m (k + 1) else V k := rfl
def bwd (V : Nat → Nat) : Nat → Nat := Nat.rec 999 (fun i r => if V i = 999 then r else V i)
theorem bwd_s (V : Nat → Nat) (i : Nat) : bwd V (i + 1) = if V i = 999 then bwd V i else V i := rfl
def vf (V : Nat → Nat) (i n : Nat) : Nat := if fwd V (n - (i + 1)) (i + 1) = 999 then bwd V i else fwd V (n - (i + 1)) (i + 1)
theorem fwd_bd {V : Nat → Nat} (h : ∀ i, V i = 999 ∨ V i < 5) (m k : Nat) : fwd V m k = 999 ∨ fwd V m k < 5 := by
  induction m generalizing k with
  | zero => exact Or.inl rfl
  | succ m ih =>
    rw [fwd_s]
    split
    · exact ih (k + 1)
    · exact h k
theorem bwd_bd {V : Nat → Nat} (h : ∀ i, V i = 999 ∨ V i < 5) (i : Nat) : bwd V i = 999 ∨ bwd V i < 5 := by
  induction i with
  | zero => exact Or.inl rfl
  | succ i ih =>
    rw [bwd_s]
    split
    · exact ih
    · exact h i
theorem vf_bd {V : Nat → Nat} (h : ∀ i, V i = 999 ∨ V i < 5) (i n : Nat) : vf V i n = 999 ∨ vf V i n < 5 := by
  unfold vf
  split
  · exact bwd_bd h i
  · exact fwd_bd h _ _
/-- W: the letters as written; V: which vowels they are -/
def cmW (D : dD) (v : Nat) (W V : Nat → Nat) (n i : Nat) : Nat :=
  if V i = 999 then (if (n ≤ i + 1 ∨ V (i + 1) = 999) ∧ drp D v (W i) = true then 999 else if vf V i n = 999 then 999 else (W i - 96) * 5 + vf V i n)
  else if i = 0 ∨ ¬ V (i - 1) = 999 then V i else 999
def cm (D : dD) (v : Nat) (L : Nat → Nat) (n i : Nat) : Nat := cmW D v (fun i => wr D v (L i)) (fun i => vw (wr D v (L i))) n i
theorem cm_bd (hw : DWr D) (v : Nat) {L : Nat → Nat} {n i : Nat} (h : 97 ≤ L i ∧ L i ≤ 122) : cm D v L n i = 999 ∨ cm D v L n i < 135 := by
  have hb := wr_bd hw v h
  have hv := vw_bd (wr D v (L i))
  have hf := vf_bd (V := fun i => vw (wr D v (L i))) (fun i => vw_bd _) i n
  unfold cm cmW
  dsimp only
  split
  · split
    · exact Or.inl rfl
    · split
      · exact Or.inl rfl
      · rename_i a b c
        have : vf (fun i => vw (wr D v (L i))) i n < 5 := hf.resolve_left c
        omega
  · split
    · omega
    · exact Or.inl rfl
/-! how many cells, and which -/
def cmp (D : dD) (v : Nat) (L : Nat → Nat) (n i : Nat) : Bool := decide (cm D v L n i ≠ 999)
def nce (D : dD) (v : Nat) (L : Nat → Nat) (n : Nat) : Nat := cnt (cmp D v L n) n
noncomputable def cev (D : dD) (v : Nat) (L : Nat → Nat) (n q : Nat) : Nat := cm D v L n (lst (fun i => cmp D v L n i = true ∧ cnt (cmp D v L n) i = q))
theorem cnt_at {p : Nat → Bool} {n q : Nat} (h : q < cnt p n) : ∃ i, i < n ∧ p i = true ∧ cnt p i = q := by
  induction n with
  | zero => rw [cnt_0] at h; omega
  | succ n ih =>
    rw [cnt_s] at h
    by_cases c : q < cnt p n
    · obtain ⟨i, h1, h2⟩ := ih c
      exact ⟨i, by omega, h2⟩
    · by_cases hp : p n = true
      · rw [if_pos hp] at h
        exact ⟨n, by omega, hp, by omega⟩
      · rw [if_neg hp] at h
        omega
theorem cnt_up {p : Nat → Bool} {i j : Nat} (h : i ≤ j) : cnt p i ≤ cnt p j := by
  induction j with
  | zero => have : i = 0 := by omega
            subst this; exact Nat.le_refl _
  | succ j ih =>
    rcases Nat.lt_or_ge i (j + 1) with w | w
    · rw [cnt_s]; have := ih (by omega); omega
    · have : i = j + 1 := by omega
      subst this; exact Nat.le_refl _
theorem cnt_uniq {p : Nat → Bool} {i j : Nat} (hi : p i = true) (hj : p j = true) (h : cnt p i = cnt p j) : i = j := by
  rcases Nat.lt_trichotomy i j with w | w | w
  · have := cnt_up (p := p) (i := i + 1) (j := j) (by omega)
    rw [cnt_s, if_pos hi] at this; omega
  · exact w
  · have := cnt_up (p := p) (i := j + 1) (j := i) (by omega)
    rw [cnt_s, if_pos hj] at this; omega
theorem cev_at {v : Nat} {L : Nat → Nat} {n i : Nat} (h : cmp D v L n i = true) : cev D v L n (cnt (cmp D v L n) i) = cm D v L n i := by
  unfold cev
  congr 1
  exact lst_eq ⟨h, rfl⟩ (fun m hm => by rw [cnt_uniq h hm.1 hm.2.symm]; exact Nat.le_refl _)
theorem cev_of {v : Nat} {L : Nat → Nat} {n q : Nat} (h : q < nce D v L n) : ∃ i, i < n ∧ cm D v L n i ≠ 999 ∧ cnt (cmp D v L n) i = q ∧ cev D v L n q = cm D v L n i := by
  obtain ⟨i, h1, h2, h3⟩ := cnt_at h
  exact ⟨i, h1, of_decide_eq_true h2, h3, by rw [← h3]; exact cev_at h2⟩
theorem cev_bd (hw : DWr D) {v : Nat} {L : Nat → Nat} {n q : Nat} (hL : ∀ i, i < n → 97 ≤ L i ∧ L i ≤ 122) (h : q < nce D v L n) : cev D v L n q < 135 := by
  obtain ⟨i, h1, h2, -, h4⟩ := cev_of h
  rw [h4]
  exact (cm_bd hw v (hL i h1)).resolve_left h2
theorem nce_le (v : Nat) (L : Nat → Nat) (n : Nat) : nce D v L n ≤ n := cnt_le _ _
/-- an array holds a name's cells -/
theorem cev_arr {v : Nat} {L : Nat → Nat} {n : Nat} {g : Nat → Int32} (h : ∀ i, i < n → cm D v L n i ≠ 999 → g (cnt (cmp D v L n) i) = nI (cm D v L n i)) {q : Nat} (hq : q < nce D v L n) : g q = nI (cev D v L n q) := by
  obtain ⟨i, h1, h2, h3, h4⟩ := cev_of hq
  rw [h4, ← h3]
  exact h i h1 h2
end SPL
