/-! AS WHICH SIGN EACH STANDS: both sides -/
section STD
variable {D : dD}
/-! arrays filled -/
theorem e_fillI (a : Nat) (v : Int32) (σ : jM) (hn : (shf a).2 < 1000000) : ok (f_J7_fill_53178 a v σ) (fun _ τ => (∀ j, j < (shf a).2 → rI τ a j = v) ∧ Fr (fun k _ => k = a) σ τ) := by
  unfold f_J7_fill_53178
  rw [o_n]
  refine L_J7_fill_53178_5 ((shf a).2) (fun k l2 τ => l2 = nI k ∧ (∀ j, j < k → rI τ a j = v) ∧ Fr (fun k _ => k = a) σ τ) (by omega) (fun k q l2 τ hk hI hq => ?_) (Nat.zero_le _) ⟨rfl, fun j hj => by omega, Fr.refl⟩
  obtain ⟨rfl, h1, h2⟩ := hI
  unfold s_J7_fill_53178_5
  simp (disch := omega) only [nI_le2, nI_ix]
  by_cases c : k < (shf a).2
  · rw [if_neg (by omega), gd_n (by omega) (by omega)]
    refine hq (k + 1) _ _ (by omega) (by omega) ⟨nI_1 k, fun j hj => ?_, h2.w rfl⟩
    by_cases e : j = k
    · subst e; exact rI_same _ _ _ _
    · rw [rI_nj e]; exact h1 j (by omega)
  · have e : k = (shf a).2 := by omega
    rw [if_pos (by omega)]
    exact ok_ret ⟨by rw [← e]; exact h1, h2⟩
theorem e_fillL (a : Nat) (v : Int64) (σ : jM) (hn : (shf a).2 < 1000000) : ok (f_J7_fill_d0a16 a v σ) (fun _ τ => (∀ j, j < (shf a).2 → rL τ a j = v) ∧ Fr (fun k _ => k = a) σ τ) := by
  unfold f_J7_fill_d0a16
  rw [o_n]
  refine L_J7_fill_d0a16_6 ((shf a).2) (fun k l2 τ => l2 = nI k ∧ (∀ j, j < k → rL τ a j = v) ∧ Fr (fun k _ => k = a) σ τ) (by omega) (fun k q l2 τ hk hI hq => ?_) (Nat.zero_le _) ⟨rfl, fun j hj => by omega, Fr.refl⟩
  obtain ⟨rfl, h1, h2⟩ := hI
  unfold s_J7_fill_d0a16_6
  simp (disch := omega) only [nI_le2, nI_ix]
  by_cases c : k < (shf a).2
  · rw [if_neg (by omega), gd_n (by omega) (by omega)]
    refine hq (k + 1) _ _ (by omega) (by omega) ⟨nI_1 k, fun j hj => ?_, h2.wl rfl⟩
    by_cases e : j = k
    · subst e; exact rL_same _ _ _ _
    · rw [rL_ne (fun _ z => e z)]; exact h1 j (by omega)
  · have e : k = (shf a).2 := by omega
    rw [if_pos (by omega)]
    exact ok_ret ⟨by rw [← e]; exact h1, h2⟩
/-! pairs numbered -/
def tr : Nat → Nat := Nat.rec 0 (fun n t => t + n)
theorem tr_s (n : Nat) : tr (n + 1) = tr n + n := rfl
theorem tr_mono {a b : Nat} (h : a ≤ b) : tr a ≤ tr b := by
  induction b with
  | zero => have : a = 0 := by omega
            subst this; exact Nat.le_refl _
  | succ b ih =>
    rcases Nat.lt_or_ge a (b + 1) with w | w
    · rw [tr_s]; have := ih (by omega); omega
    · have : a = b + 1 := by omega
      subst this; exact Nat.le_refl _
def pr (a b : Nat) : Nat := tr (max a b) + min a b
theorem pr_lt {a b : Nat} (ha : a < 40) (hb : b < 40) (h : a ≠ b) : pr a b < 780 := by
  have h1 := tr_mono (a := max a b + 1) (b := 40) (by omega)
  have h2 : tr 40 = 780 := by decide
  have h3 := tr_s (max a b)
  unfold pr
  omega
theorem pr_inj {a b c d : Nat} (h1 : a < b) (h2 : c < d) (h : pr a b = pr c d) : a = c ∧ b = d := by
  unfold pr at h
  rw [Nat.max_eq_right (by omega), Nat.max_eq_right (by omega), Nat.min_eq_left (by omega), Nat.min_eq_left (by omega)] at h
  have hb := tr_s b
  have hd := tr_s d
  rcases Nat.lt_trichotomy b d with w | w | w
  · have := tr_mono (a := b + 1) (b := d) (by omega); omega
  · subst w; omega
  · have := tr_mono (a := d + 1) (b := b) (by omega); omega
theorem pr_comm (a b : Nat) : pr a b = pr b a := by unfold pr; rw [Nat.max_comm, Nat.min_comm]
theorem pr_tr : ∀ a : Nat, a < 40 → (nI a * (nI a - 1)) / 2 = nI (tr a) := by decide +kernel
theorem e_pairOf {a b : Nat} (ha : a < 40) (hb : b < 40) (σ : jM) : f_X12_pairOf (nI a) (nI b) σ = some (nI (pr a b), σ) := by
  unfold f_X12_pairOf
  rw [nI_max (by omega) (by omega), i_min (by omega) (by omega), pr_tr (max a b) (by omega), nI_add]
  rfl
/-! two joined -/
theorem Adj_fr {σ τ : jM} {a : Nat} {L : Nat → Nat → Prop} (h : Adj σ a L) (he : ∀ j, rL τ a j = rL σ a j) : Adj τ a L := ⟨h.1, fun s hs t ht => by rw [he s]; exact h.2.1 s hs t ht, h.2.2⟩
theorem e_join {σ : jM} {k : Nat} {L : Nat → Nat → Prop} (h : Adj σ k L) {a b : Nat} (ha : a < 40) (hb : b < 40) : ok (f_X12_join k (nI a) (nI b) σ) (fun _ τ => Adj τ k (fun s t => L s t ∨ (s = a ∧ t = b) ∨ (s = b ∧ t = a)) ∧ Fr (fun k' _ => k' = k) σ τ) := by
  unfold f_X12_join
  rw [h.1]
  simp (disch := omega) only [gd_n, nI_ix]
  refine ok_ret ⟨⟨h.1, fun s hs t ht => ?_, fun s t z => ?_⟩, Fr.wl (W := fun k' _ => k' = k) (Fr.wl Fr.refl rfl) rfl⟩
  · have b1 : ∀ x : Int64, bt (x ||| jlshl 1 (nI b)) t = true ↔ (bt x t = true ∨ t = b) := fun x => by rw [bt_or, Bool.or_eq_true, bt_one (by omega) ht, decide_eq_true_eq]
    have b2 : ∀ x : Int64, bt (x ||| jlshl 1 (nI a)) t = true ↔ (bt x t = true ∨ t = a) := fun x => by rw [bt_or, Bool.or_eq_true, bt_one (by omega) ht, decide_eq_true_eq]
    have hL := h.2.1 s hs t ht
    rw [rL_wL]
    by_cases c1 : s = b
    · subst c1
      rw [if_pos ⟨rfl, rfl⟩, b2, rL_wL]
      by_cases c2 : s = a
      · subst c2
        rw [if_pos ⟨rfl, rfl⟩, b1, hL]
        exact ⟨fun z => by rcases z with (z | z) | z; exact Or.inl z; exact Or.inr (Or.inl ⟨rfl, z⟩); exact Or.inr (Or.inl ⟨rfl, z⟩), fun z => by rcases z with z | z | z; exact Or.inl (Or.inl z); exact Or.inr z.2; exact Or.inr z.2⟩
      · rw [if_neg (fun z => c2 z.2), hL]
        exact ⟨fun z => by rcases z with z | z; exact Or.inl z; exact Or.inr (Or.inr ⟨rfl, z⟩), fun z => by rcases z with z | z | z; exact Or.inl z; exact absurd z.1 c2; exact Or.inr z.2⟩
    · rw [if_neg (fun z => c1 z.2), rL_wL]
      by_cases c2 : s = a
      · subst c2
        rw [if_pos ⟨rfl, rfl⟩, b1, hL]
        exact ⟨fun z => by rcases z with z | z; exact Or.inl z; exact Or.inr (Or.inl ⟨rfl, z⟩), fun z => by rcases z with z | z | z; exact Or.inl z; exact Or.inr z.2; exact absurd z.1 c1⟩
      · rw [if_neg (fun z => c2 z.2), hL]
        exact ⟨fun z => Or.inl z, fun z => by rcases z with z | z | z; exact z; exact absurd z.1 c2; exact absurd z.1 c1⟩
  · rcases z with z | z | z
    · exact h.2.2 s t z
    · omega
    · omega
theorem Adj_iff {σ : jM} {a : Nat} {L M : Nat → Nat → Prop} (h : Adj σ a L) (e : ∀ s t, L s t ↔ M s t) : Adj σ a M := ⟨h.1, fun s hs t ht => (h.2.1 s hs t ht).trans (e s t), fun s t z => h.2.2 s t ((e s t).mpr z)⟩
theorem Adj_0 {σ : jM} {a : Nat} (h0 : (shf a).2 = 40) (h : ∀ j, j < 40 → rL σ a j = 0) : Adj σ a (fun _ _ => False) := ⟨h0, fun s hs t _ => by rw [h s hs, bt_0]; exact ⟨fun z => (by cases z), fun z => z.elim⟩, fun _ _ z => z.elim⟩
/-! what a hand told last, from behind -/
def sn (D : dD) (v h a b i d : Nat) : Prop := ∃ e, e < d ∧ mat D v h a b (i + e)
theorem lw_none {v h a b i d : Nat} (hn : ¬ sn D v h a b i d) : lw D v h a b i d = 2 := by
  induction d with
  | zero => rfl
  | succ d ih => rw [lw_s, if_neg (fun z => hn ⟨d, by omega, z⟩)]; exact ih (fun ⟨e, he, hm⟩ => hn ⟨e, by omega, hm⟩)
theorem sn_front {v h a b i d : Nat} : sn D v h a b i (d + 1) ↔ mat D v h a b i ∨ sn D v h a b (i + 1) d := by
  refine ⟨fun ⟨e, he, hm⟩ => ?_, fun z => ?_⟩
  · rcases Nat.eq_zero_or_pos e with w | w
    · subst w; exact Or.inl hm
    · refine Or.inr ⟨e - 1, by omega, ?_⟩
      rw [show i + 1 + (e - 1) = i + e by omega]
      exact hm
  · rcases z with z | ⟨e, he, hm⟩
    · exact ⟨0, by omega, z⟩
    · refine ⟨e + 1, by omega, ?_⟩
      rw [show i + (e + 1) = i + 1 + e by omega]
      exact hm
theorem lw_seen {v h a b i d : Nat} (hs : sn D v h a b (i + 1) d) : lw D v h a b i (d + 1) = lw D v h a b (i + 1) d := by
  induction d with
  | zero => obtain ⟨e, he, _⟩ := hs; omega
  | succ d ih =>
    rw [lw_s D v h a b i (d + 1), lw_s D v h a b (i + 1) d, show i + (d + 1) = i + 1 + d by omega]
    by_cases c : mat D v h a b (i + 1 + d)
    · rw [if_pos c, if_pos c]
    · rw [if_neg c, if_neg c]
      refine ih ?_
      obtain ⟨e, he, hm⟩ := hs
      refine ⟨e, ?_, hm⟩
      rcases Nat.lt_or_ge e d with w | w
      · exact w
      · have : e = d := by omega
        subst this; exact absurd hm c
theorem lw_new {v h a b i d : Nat} (hs : ¬ sn D v h a b (i + 1) d) (hm : mat D v h a b i) : lw D v h a b i (d + 1) = D 341 i := by
  induction d with
  | zero => rw [lw_s]; exact if_pos hm
  | succ d ih =>
    rw [lw_s, show i + (d + 1) = i + 1 + d by omega, if_neg (fun z => hs ⟨d, by omega, z⟩)]
    exact ih (fun ⟨e, he, hm⟩ => hs ⟨e, by omega, hm⟩)
theorem lw_old {v h a b i d : Nat} (hm : ¬ mat D v h a b i) : lw D v h a b i (d + 1) = lw D v h a b (i + 1) d := by
  by_cases hs : sn D v h a b (i + 1) d
  · exact lw_seen hs
  · rw [lw_none hs]
    exact lw_none (fun z => (sn_front.mp z).elim hm hs)
theorem tws_4 (v a b i d : Nat) : tws D v a b i d 4 = wgt D 0 (lw D v 0 a b i d) + wgt D 1 (lw D v 1 a b i d) + wgt D 2 (lw D v 2 a b i d) + wgt D 3 (lw D v 3 a b i d) := by
  show (((0 + wgt D 0 (lw D v 0 a b i d)) + wgt D 1 (lw D v 1 a b i d)) + wgt D 2 (lw D v 2 a b i d)) + wgt D 3 (lw D v 3 a b i d) = _
  rw [Int.zero_add]
theorem wgt_2 (h : Nat) : wgt D h 2 = 0 := rfl
theorem wgt_bd (hw : DWh D) {h : Nat} (hh : h < 4) (x : Nat) : -99 ≤ wgt D h x ∧ wgt D h x ≤ 99 := by
  have := hw.2.1 h hh
  unfold wgt
  split
  · omega
  · split <;> omega
theorem tws_bd (hw : DWh D) (v a b i d : Nat) {h : Nat} (hh : h ≤ 4) : -(99 * h : Nat) ≤ tws D v a b i d h ∧ tws D v a b i d h ≤ (99 * h : Nat) := by
  induction h with
  | zero => exact ⟨by show (_ : Int) ≤ 0; omega, by show (0 : Int) ≤ _; omega⟩
  | succ h ih =>
    rw [tws_s]
    have := ih (by omega)
    have := wgt_bd hw (h := h) (by omega) (lw D v h a b i d)
    omega
theorem tws_front_none (v a b i d : Nat) (hn : ∀ h, h < 4 → mat D v h a b i → sn D v h a b (i + 1) d) : tws D v a b i (d + 1) 4 = tws D v a b (i + 1) d 4 := by
  have e : ∀ h, h < 4 → lw D v h a b i (d + 1) = lw D v h a b (i + 1) d := fun h hh => by
    by_cases c : mat D v h a b i
    · exact lw_seen (hn h hh c)
    · exact lw_old c
  rw [tws_4, tws_4, e 0 (by omega), e 1 (by omega), e 2 (by omega), e 3 (by omega)]
theorem tws_front (v a b i d h : Nat) (hh : h < 4) (hm : mat D v h a b i) (hs : ¬ sn D v h a b (i + 1) d) : tws D v a b i (d + 1) 4 = tws D v a b (i + 1) d 4 + wgt D h (D 341 i) := by
  have e : ∀ g, g ≠ h → lw D v g a b i (d + 1) = lw D v g a b (i + 1) d := fun g hg => lw_old (fun z => hg (z.1.symm.trans hm.1))
  have e0 : wgt D h (lw D v h a b (i + 1) d) = 0 := by rw [lw_none hs, wgt_2]
  have e1 : wgt D h (lw D v h a b i (d + 1)) = wgt D h (D 341 i) := by rw [lw_new hs hm]
  rw [tws_4, tws_4]
  rcases (by omega : h = 0 ∨ h = 1 ∨ h = 2 ∨ h = 3) with rfl | rfl | rfl | rfl
  · rw [e 1 (by omega), e 2 (by omega), e 3 (by omega), e0, e1]; omega
  · rw [e 0 (by omega), e 2 (by omega), e 3 (by omega), e0, e1]; omega
  · rw [e 0 (by omega), e 1 (by omega), e 3 (by omega), e0, e1]; omega
  · rw [e 0 (by omega), e 1 (by omega), e 2 (by omega), e0, e1]; omega
end STD
