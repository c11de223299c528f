/-! name -/
section NAME
variable {K : dD → Nat → jM → Prop} {σ : jM}
/-- the tape, as both hold it -/
def TP (n : Nat) (T : Nat → Nat) (σ : jM) : Prop := n ≤ 300 ∧ rI σ 324 16 = nI n ∧ rI σ 262 1 = nI n ∧ ∀ j, j < n → T j < 256 ∧ rI σ 263 j = nI (T j) ∧ rI σ 336 j = (nI (T j)).toInt8.toInt32
theorem TP_of (h : TD σ) : ∃ n T, TP n T σ := by
  obtain ⟨n, h1, h2, h3, h4⟩ := h.2.1
  refine ⟨n, fun j => (rI σ 263 j).toNatClampNeg, h1, h2, h3, fun j hj => ?_⟩
  obtain ⟨b, b1, b2, b3⟩ := h4 j hj
  show (rI σ 263 j).toNatClampNeg < 256 ∧ rI σ 263 j = nI (rI σ 263 j).toNatClampNeg ∧ _ = (nI (rI σ 263 j).toNatClampNeg).toInt8.toInt32
  rw [b2, nI_ix (by omega)]
  exact ⟨b1, rfl, b3⟩
theorem TP_fr {n : Nat} {T : Nat → Nat} {τ : jM} {W : Nat → Nat → Prop} (h : TP n T σ) (hF : Fr W σ τ) (w1 : ¬ W 324 16) (w2 : ¬ W 262 1) (w3 : ∀ j, ¬ W 263 j) (w4 : ∀ j, ¬ W 336 j) : TP n T τ :=
  ⟨h.1, (hF.I _ _ w1).trans h.2.1, (hF.I _ _ w2).trans h.2.2.1, fun j hj => ⟨(h.2.2.2 j hj).1, (hF.I _ _ (w3 j)).trans (h.2.2.2 j hj).2.1, (hF.I _ _ (w4 j)).trans (h.2.2.2 j hj).2.2⟩⟩
/-- the reference's half of it -/
def TPm (n : Nat) (T : Nat → Nat) (σ : jM) : Prop := n ≤ 300 ∧ rI σ 324 16 = nI n ∧ ∀ j, j < n → T j < 256 ∧ rI σ 336 j = (nI (T j)).toInt8.toInt32
theorem TP.m {n : Nat} {T : Nat → Nat} (h : TP n T σ) : TPm n T σ := ⟨h.1, h.2.1, fun j hj => ⟨(h.2.2.2 j hj).1, (h.2.2.2 j hj).2.2⟩⟩
theorem TPm_fr {n : Nat} {T : Nat → Nat} {τ : jM} {W : Nat → Nat → Prop} (h : TPm n T σ) (hF : Fr W σ τ) (w1 : ¬ W 324 16) (w4 : ∀ j, ¬ W 336 j) : TPm n T τ :=
  ⟨h.1, (hF.I _ _ w1).trans h.2.1, fun j hj => ⟨(h.2.2 j hj).1, (hF.I _ _ (w4 j)).trans (h.2.2 j hj).2⟩⟩
theorem by_small : ∀ b : Nat, b < 256 → ((97 ≤ (nI b).toInt8.toInt32 ∧ (nI b).toInt8.toInt32 ≤ 122) ↔ (97 ≤ b ∧ b ≤ 122)) := by decide +kernel
theorem by_low : ∀ b : Nat, b < 128 → (nI b).toInt8.toInt32 = nI b := by decide +kernel
abbrev nmok (n : Nat) (T : Nat → Nat) : Prop := 1 ≤ n ∧ n ≤ 8 ∧ ∀ i, i < n → 97 ≤ T i ∧ T i ≤ 122
theorem c_isName {n : Nat} {T : Nat → Nat} (h : TP n T σ) : f_X11_isName σ = some (bI (nmok n T), σ) := by
  obtain ⟨h1, h2, h3, h4⟩ := h
  refine ok_eq ?_
  unfold f_X11_isName f_X11_isName_17
  rw [h3, ite_iff (show nI n < 1 ↔ n < 1 from nI_lt2 (b := 1) (by omega) (by omega)), ite_iff (show nI n ≤ 8 ↔ n ≤ 8 from nI_le2 (b := 8) (by omega) (by omega))]
  refine ok_ite (fun z => ok_ret ⟨by rw [bI_neg (fun y => by omega)], rfl⟩) (fun z => ok_ite (fun z2 => ?_) (fun z2 => ok_ret ⟨by rw [bI_neg (fun y => z2 y.2.1)], rfl⟩))
  refine L_X11_isName_21 n (fun k l1 τ => l1 = nI k ∧ τ = σ ∧ ∀ i, i < k → 97 ≤ T i ∧ T i ≤ 122) (by omega) (fun k q l1 τ hk hI hq => ?_) (Nat.zero_le _) ⟨rfl, rfl, fun i hi => by omega⟩
  obtain ⟨rfl, rfl, h5⟩ := hI
  unfold s_X11_isName_21
  rw [h3]
  simp (disch := omega) only [nI_le2]
  by_cases c : k < n
  · obtain ⟨b1, b2, -⟩ := h4 k c
    have i1 : (97 ≤ nI (T k) ∧ nI (T k) ≤ 122) ↔ (97 ≤ T k ∧ T k ≤ 122) := and_congr (nI_le2 (a := 97) (by omega) (by omega)) (nI_le2 (b := 122) (by omega) (by omega))
    rw [if_neg (by omega), e_isLetterAt (by omega), bd_some, ite_bI, b2, ite_iff i1]
    refine ok_ite (fun y => hq (k + 1) _ _ (by omega) (by omega) ⟨nI_1 k, rfl, fun i hi => ?_⟩) (fun y => ok_ret ⟨by rw [bI_neg (fun w => y (w.2.2 k c))], rfl⟩)
    by_cases e : i = k
    · subst e; exact y
    · exact h5 i (by omega)
  · have e : k = n := by omega
    subst e
    rw [if_pos (by omega)]
    exact ok_ret ⟨by rw [bI_pos ⟨by omega, z2, h5⟩], rfl⟩
theorem m_isName {n : Nat} {T : Nat → Nat} (h : TPm n T σ) : f_X13_isName σ = some (bI (nmok n T), σ) := by
  obtain ⟨h1, h2, h4⟩ := h
  refine ok_eq ?_
  have key : ∀ (s0 : Int32), s0 = bI (1 ≤ n ∧ n ≤ 8) → ok (f_X13_isName_25 Fu s0 0 σ) (fun a s => a = bI (nmok n T) ∧ s = σ) := by
    intro s0 e0
    refine L_X13_isName_25 n (fun k l1 l2 τ => l1 = bI ((1 ≤ n ∧ n ≤ 8) ∧ ∀ i, i < k → 97 ≤ T i ∧ T i ≤ 122) ∧ l2 = nI k ∧ τ = σ) (by omega) (fun k q l1 l2 τ hk hI hq => ?_) (Nat.zero_le _) ⟨?_, rfl, rfl⟩
    · obtain ⟨rfl, rfl, rfl⟩ := hI
      unfold s_X13_isName_25 f_X13_isName_53
      rw [h2, gd_bI, ite_bI]
      simp (disch := omega) only [nI_le2, nI_ix]
      by_cases c : k < n
      · obtain ⟨b1, b3⟩ := h4 k c
        rw [if_neg (by omega), gd_n (by omega) (by omega), b3, e_isSmall, bd_some]
        refine ok_ite (fun y => hq (k + 1) _ _ _ (by omega) (by omega) ⟨?_, nI_1 k, rfl⟩) (fun y => ok_ret ⟨?_, rfl⟩)
        · refine bI_congr ((by_small (T k) b1).trans ⟨fun w => ⟨y.1, fun i hi => ?_⟩, fun w => w.2 k (by omega)⟩)
          by_cases e : i = k
          · subst e; exact w
          · exact y.2 i (by omega)
        · rw [bI_neg y, bI_neg (fun w => y ⟨⟨w.1, w.2.1⟩, fun i hi => w.2.2 i (by omega)⟩)]
      · have e : k = n := by omega
        subst e
        rw [if_pos (by omega)]
        exact ok_ret ⟨bI_congr ⟨fun w => ⟨w.1.1, w.1.2, w.2⟩, fun w => ⟨⟨w.1, w.2.1⟩, w.2.2⟩⟩, rfl⟩
    · rw [e0]
      exact bI_congr ⟨fun w => ⟨w, fun i hi => by omega⟩, fun w => w.1⟩
  unfold f_X13_isName f_X13_isName_21 f_X13_isName_22
  rw [h2, ite_iff (show nI n < 1 ↔ n < 1 from nI_lt2 (b := 1) (by omega) (by omega)), ite_iff (show 8 < nI n ↔ 8 < n from nI_lt2 (a := 8) (by omega) (by omega))]
  exact ok_ite (fun z => key _ (by rw [bI_neg (by omega)])) (fun z => ok_ite (fun z2 => key _ (by rw [bI_neg (by omega)])) (fun z2 => key _ (by rw [bI_pos (by omega)])))
abbrev wtn (m n : Nat) (k j : Nat) : Prop := (k = 359 ∧ j = m) ∨ (k = 360 ∧ 8 * m ≤ j ∧ j < 8 * m + n) ∨ (k = 361 ∧ j = m) ∨ (k = 324 ∧ j = 16)
theorem m_takesName {n m : Nat} {T : Nat → Nat} (h : TPm n T σ) (hn : nmok n T) (hm : m < 7) (a : Int32) : ok (f_X13_takesName (nI m) a σ) (fun _ τ => rI τ 359 m = nI n ∧ (∀ i, i < n → rI τ 360 (8 * m + i) = nI (T i)) ∧ rI τ 361 m = a ∧ rI τ 324 16 = 0 ∧ Fr (wtn m n) σ τ) := by
  obtain ⟨h1, h2, h4⟩ := h
  obtain ⟨n1, n2, n3⟩ := hn
  unfold f_X13_takesName
  rw [gd_n hm (by omega), nI_ix (by omega), h2]
  refine L_X13_takesName_12 n (fun k l3 τ => l3 = nI k ∧ rI τ 359 m = nI n ∧ rI τ 324 16 = nI n ∧ (∀ i, i < k → rI τ 360 (8 * m + i) = nI (T i)) ∧ Fr (wtn m n) σ τ) (by omega) (fun k q l3 τ hk hI hq => ?_) (Nat.zero_le _) ⟨rfl, rI_same _ _ _ _, h2, fun i hi => by omega, Fr.refl.w (by omega)⟩
  obtain ⟨rfl, g1, g2, g3, g4⟩ := hI
  unfold s_X13_takesName_12
  rw [g2]
  simp (disch := omega) only [nI_le2, nI_ix, li8, pk_mul, nI_add]
  by_cases c : k < n
  · obtain ⟨b1, b3⟩ := h4 k c
    have := n3 k c
    rw [if_neg (by omega), gd_n (by omega) (by omega), gd_n (by omega) (by omega), g4.I 336 k (by omega), b3, by_low (T k) (by omega)]
    refine hq (k + 1) _ _ (by omega) (by omega) ⟨nI_1 k, ?_, ?_, fun i hi => ?_, g4.w (by omega)⟩
    · rw [rI_nk (by omega)]; exact g1
    · rw [rI_nk (by omega)]; exact g2
    · by_cases e : i = k
      · subst e; exact rI_same _ _ _ _
      · rw [rI_nj (by omega)]; exact g3 i (by omega)
  · have e : k = n := by omega
    subst e
    rw [if_pos (by omega), gd_n hm (by omega)]
    refine ok_ret ⟨?_, fun i hi => ?_, ?_, rI_same _ _ _ _, (g4.w (by omega)).w (by omega)⟩
    · rw [rI_nk (by omega), rI_nk (by omega)]; exact g1
    · rw [rI_nk (by omega), rI_nk (by omega)]; exact g3 i hi
    · rw [rI_nk (by omega), rI_same]
theorem rI_cp (σ : jM) (a k n k' j : Nat) (hn : n < 2147483648) : rI (wCp σ a 0 k 0 (nI n)) k' j = if k' = k ∧ j < n then rI σ a j else rI σ k' j := by
  show (if k' = k then (if (0 : Int32).toNatClampNeg ≤ j ∧ j < (0 : Int32).toNatClampNeg + (nI n).toNatClampNeg then σ.1 a ((0 : Int32).toNatClampNeg + (j - (0 : Int32).toNatClampNeg)) else σ.1 k j) else σ.1 k' j) = _
  rw [nI_ix hn, show (0 : Int32).toNatClampNeg = 0 from rfl]
  by_cases e : k' = k
  · subst e
    rw [if_pos rfl]
    by_cases c : j < n
    · rw [if_pos ⟨Nat.zero_le _, by omega⟩, if_pos ⟨rfl, c⟩, Nat.zero_add, Nat.sub_zero]; rfl
    · rw [if_neg (fun z => c (by omega)), if_neg (fun z => c z.2)]; rfl
  · rw [if_neg e, if_neg (fun z => e z.1)]; rfl
theorem Fr_cp {W : Nat → Nat → Prop} {τ : jM} {a k n : Nat} (hF : Fr W σ τ) (hn : n < 2147483648) (hw : ∀ j, j < n → W k j) : Fr W σ (wCp τ a 0 k 0 (nI n)) :=
  ⟨fun k' j' w => by
    rw [rI_cp _ _ _ _ _ _ hn, if_neg (fun z => w (by rw [z.1]; exact hw j' z.2))]
    exact hF.1 k' j' w, hF.2.1, hF.2.2⟩
abbrev wnm (m : Nat) (k j : Nat) : Prop := k = 250 + 2 * m ∧ (j = 0 ∨ j = 3 ∨ j = 4) ∨ k = 251 + 2 * m ∨ (k = 3 ∧ (j = 8 ∨ j = 10)) ∨ (k = 262 ∧ j = 1)
theorem c_name {n m d : Nat} {T : Nat → Nat} (h : TP n T σ) (hn : nmok n T) (hm : m < 6) (e8 : rI σ 3 8 = nI m) (e0 : rI σ 3 0 = nI d) {a : Int32} (ha : 0 ≤ a ∧ a < rI σ 3 2) : ok (f_X12_name a σ) (fun r τ => r = nI m ∧ rI τ (250 + 2 * m) 3 = nI n ∧ rI τ (250 + 2 * m) 4 = a ∧ rI τ (250 + 2 * m) 0 = nI d ∧ (∀ i, i < n → rI τ (251 + 2 * m) i = nI (T i)) ∧ rI τ 3 8 = nI (m + 1) ∧ rI τ 3 10 = -1 ∧ rI τ 262 1 = 0 ∧ Fr (wnm m) σ τ) := by
  have hnx : namX m = 250 + 2 * m := rfl
  rw [q_X12_name, e_hasTablet, bd_some, ite_bI, if_pos ha, c_isName h, bd_some, ite_bI, if_pos hn, e8, if_pos (show nI m < 6 from (nI_lt2 (b := 6) (by omega) (by omega)).mpr hm), gd_n hm (by omega)]
  obtain ⟨h1, h2, h3, h4⟩ := h
  obtain ⟨n1, n2, n3⟩ := hn
  rw [h3, gd_pos (show cpOk 0 0 (nI n) 300 8 from ⟨by decide, by decide, nI_pos' (by omega), by rw [nI_ix (by omega)]; show 0 + n ≤ 300; omega, by rw [nI_ix (by omega)]; show 0 + n ≤ 8; omega⟩)]
  simp (disch := omega) only [nI_ix]
  rw [hnx]
  have r1 : ∀ k j, (k ≠ 250 + 2 * m + 1) → rI (wCp σ 263 0 (250 + 2 * m + 1) 0 (nI n)) k j = rI σ k j := fun k j hk => by rw [rI_cp _ _ _ _ _ _ (by omega), if_neg (fun z => hk z.1)]
  rw [r1 262 1 (by omega), h3, rI_nk (show 3 ≠ 250 + 2 * m by omega), rI_nk (show 3 ≠ 250 + 2 * m by omega), r1 3 0 (by omega), e0, rI_nk (show 3 ≠ 250 + 2 * m by omega), rI_nk (show 3 ≠ 250 + 2 * m by omega), rI_nk (show 3 ≠ 250 + 2 * m by omega), r1 3 8 (by omega), e8, nI_1, e_forget, bd_some]
  refine ok_ret ⟨rfl, ?_, ?_, ?_, fun i hi => ?_, ?_, rfl, ?_, ?_⟩
  · rw [rI_nk (by omega), rI_nk (by omega), rI_nk (by omega), rI_nj (by omega), rI_nj (by omega), rI_same]
  · rw [rI_nk (by omega), rI_nk (by omega), rI_nk (by omega), rI_nj (by omega), rI_same]
  · rw [rI_nk (by omega), rI_nk (by omega), rI_nk (by omega), rI_same]
  · rw [rI_nk (by omega), rI_nk (by omega), rI_nk (by omega), rI_nk (by omega), rI_nk (by omega), rI_nk (by omega), rI_cp _ _ _ _ _ _ (by omega), if_pos ⟨by omega, hi⟩]
    exact (h4 i hi).2.1
  · rw [rI_ne (by omega), rI_nk (by omega), rI_same]
  · rw [rI_nk (by omega), rI_same]
  · exact Fr.w (Fr.w (Fr.w (Fr.w (Fr.w (Fr.w (Fr_cp Fr.refl (by omega) (fun j hj => by omega)) (by omega)) (by omega)) (by omega)) (by omega)) (by omega)) (by omega)
theorem c_name_no {n m : Nat} {T : Nat → Nat} (h : TP n T σ) (hm : m ≤ 6) (e8 : rI σ 3 8 = nI m) {a : Int32} (hc : ¬ ((0 ≤ a ∧ a < rI σ 3 2) ∧ nmok n T ∧ m < 6)) : f_X12_name a σ = some (-1, σ) := by
  rw [q_X12_name]
  unfold f_X12_name_35
  rw [e_hasTablet, bd_some, ite_bI]
  by_cases c1 : 0 ≤ a ∧ a < rI σ 3 2
  · rw [if_pos c1, c_isName h, bd_some, ite_bI]
    by_cases c2 : nmok n T
    · rw [if_pos c2, e8, if_neg (show ¬ nI m < 6 from fun z => hc ⟨c1, c2, (nI_lt2 (b := 6) (by omega) (by omega)).mp z⟩)]
    · rw [if_neg c2]
  · rw [if_neg c1]
abbrev wtx (m : Nat) (k j : Nat) : Prop := (k = 324 ∧ (j = 0 ∨ j = 16 ∨ j = 55)) ∨ (k = 359 ∧ j = m) ∨ (361 ≤ k ∧ k ≤ 363 ∧ j = m) ∨ (k = 360 ∧ 8 * m ≤ j ∧ j < 8 * m + 8)
theorem wtn_tx {m n k j : Nat} (hn : n ≤ 8) (h : wtn m n k j) : wtx m k j := by
  rcases h with h | h | h | h
  · exact Or.inr (Or.inl h)
  · exact Or.inr (Or.inr (Or.inr ⟨h.1, h.2.1, by omega⟩))
  · exact Or.inr (Or.inr (Or.inl ⟨by omega, by omega, h.2⟩))
  · exact Or.inl ⟨h.1, Or.inr (Or.inl h.2)⟩
set_option maxHeartbeats 4000000 in
theorem op_name (h : Inv K σ) (hK : KX K) (a1 a2 a3 a4 a5 : Int32) : ∃ σ', lw_op 17 a1 a2 a3 a4 a5 σ σ' ∧ Inv K σ' := by
  show ∃ σ', (∃ (r : Int32) (σ1 : jM), f_X12_name a1 σ = some (r, σ1) ∧ f_X13_name a1 σ1 = some (r, σ')) ∧ Inv K σ'
  obtain ⟨n, T, hT⟩ := TP_of h.2.2.2.1
  obtain ⟨d, hd, ed1, ed2⟩ := h.2.2.2.1.1
  have h6 := (gN h).1.1
  have h24 := (gT h).1.1
  have e8 := (gN h).2.1
  have e2 := (gT h).2.1
  have m55 : rI σ 324 55 = nI (dm σ 324 55) := (md h.1 (by omega) (by omega)).1
  have m2 : rI σ 324 2 = nI (dm σ 324 2) := (md h.1 (by omega) (by omega)).1
  by_cases c : (0 ≤ a1 ∧ a1 < rI σ 3 2) ∧ nmok n T ∧ dm σ 324 55 < 6
  · obtain ⟨c1, c2, c3⟩ := c
    obtain ⟨w, hw, rfl⟩ := i_lt c1.1 (by rw [← e2]; exact c1.2) (by omega)
    generalize hm : dm σ 324 55 = m at *
    refine op_mk (c_name hT c2 c3 e8 ed2 c1) (fun r τ hq => ?_)
    obtain ⟨rfl, g1, g2, g3, g4, g5, g6, g7, g8⟩ := hq
    have hTm : TPm n T (wI τ 324 0 0) := ⟨hT.1, (g8.I _ _ (by omega)).trans hT.2.1, fun j hj => ⟨(hT.2.2.2 j hj).1, (g8.I _ _ (by omega)).trans (hT.2.2.2 j hj).2.2⟩⟩
    rw [q_X13_name, show rI τ 324 2 = nI (dm σ 324 2) from (g8.I _ _ (by omega)).trans m2, e_within, bd_some, ite_bI, if_pos ((nI_sub1 (by omega)).mpr ⟨nI_pos' (by omega), (nI_lt2 (by omega) (by omega)).mpr hw⟩), m_isName hTm, bd_some, ite_bI, if_pos c2, show rI (wI τ 324 0 0) 324 55 = nI m from (g8.I _ _ (by omega)).trans m55, if_neg (show ¬ nI m = 6 from fun z => by have := (nI_eq2 (b := 6) (by omega) (by omega)).mp z; omega)]
    refine ok_bd (m_takesName hTm c2 (by omega) (nI w)) (fun _ τ' hh => ?_)
    obtain ⟨p1, p2, p3, p4, p5⟩ := hh
    rw [show rI τ' 324 55 = nI m from (p5.I _ _ (by omega)).trans ((g8.I _ _ (by omega)).trans m55), show rI τ' 324 1 = nI d from (p5.I _ _ (by omega)).trans ((g8.I _ _ (by omega)).trans ed1), gd_n (by omega) (by omega), gd_n (by omega) (by omega), nI_ix (by omega), nI_1, sub1_n (by omega), Nat.add_sub_cancel]
    have hF1 : Fr (fun k j => wnm m k j ∨ wtx m k j) σ (wI (wI (wI τ' 362 m (nI d)) 363 m 1000000) 324 55 (nI (m + 1))) := Fr.w (Fr.w (Fr.w (Fr.trans (Fr.w (W := fun k j => wnm m k j ∨ wtx m k j) (g8.mono (fun k j z => Or.inl z)) (Or.inr (Or.inl ⟨rfl, Or.inl rfl⟩))) (p5.mono (fun k j z => Or.inr (wtn_tx c2.2.1 z)))) (Or.inr (Or.inr (Or.inr (Or.inl ⟨by omega, by omega, rfl⟩))))) (Or.inr (Or.inr (Or.inr (Or.inl ⟨by omega, by omega, rfl⟩))))) (Or.inr (Or.inl ⟨rfl, Or.inr (Or.inr rfl)⟩))
    have q9 : rI (wI (wI (wI τ' 362 m (nI d)) 363 m 1000000) 324 55 (nI (m + 1))) 359 m = nI n := by rw [rI_nk (by omega), rI_nk (by omega), rI_nk (by omega)]; exact p1
    have q0 : ∀ i, i < n → rI (wI (wI (wI τ' 362 m (nI d)) 363 m 1000000) 324 55 (nI (m + 1))) 360 (8 * m + i) = nI (T i) := fun i hi => by rw [rI_nk (by omega), rI_nk (by omega), rI_nk (by omega)]; exact p2 i hi
    have q1 : rI (wI (wI (wI τ' 362 m (nI d)) 363 m 1000000) 324 55 (nI (m + 1))) 361 m = nI w := by rw [rI_nk (by omega), rI_nk (by omega), rI_nk (by omega)]; exact p3
    have q2 : rI (wI (wI (wI τ' 362 m (nI d)) 363 m 1000000) 324 55 (nI (m + 1))) 362 m = nI d := by rw [rI_nk (by omega), rI_nk (by omega), rI_same]
    have q3 : rI (wI (wI (wI τ' 362 m (nI d)) 363 m 1000000) 324 55 (nI (m + 1))) 363 m = nI 1000000 := by rw [rI_nk (by omega), rI_same]; rfl
    have q5 : rI (wI (wI (wI τ' 362 m (nI d)) 363 m 1000000) 324 55 (nI (m + 1))) 324 55 = nI (m + 1) := rI_same _ _ _ _
    have q6 : rI (wI (wI (wI τ' 362 m (nI d)) 363 m 1000000) 324 55 (nI (m + 1))) 324 16 = nI 0 := by rw [rI_nj (by omega), rI_nk (by omega), rI_nk (by omega)]; exact p4
    have qx : ∀ j, 8 * m + n ≤ j → rI (wI (wI (wI τ' 362 m (nI d)) 363 m 1000000) 324 55 (nI (m + 1))) 360 j = rI σ 360 j := fun j hj => by rw [rI_nk (by omega), rI_nk (by omega), rI_nk (by omega), p5.I 360 j (by omega), rI_nk (by omega), g8.I 360 j (by omega)]
    have cc : ∀ k j, k < 324 → rI (wI (wI (wI τ' 362 m (nI d)) 363 m 1000000) 324 55 (nI (m + 1))) k j = rI τ k j := fun k j hk => by rw [rI_nk (by omega), rI_nk (by omega), rI_nk (by omega), p5.I k j (by omega), rI_nk (by omega)]
    generalize wI (wI (wI τ' 362 m (nI d)) 363 m 1000000) 324 55 (nI (m + 1)) = υ at *
    refine ok_ret ⟨rfl, ?_⟩
    have u1 : dm υ 324 55 = m + 1 := md_val (by omega) (by omega) (by omega) q5
    have u9 : dm υ 359 m = n := md_val (by omega) (by omega) (by omega) q9
    have u0 : ∀ i, i < n → dm υ 360 (8 * m + i) = T i := fun i hi => by have := c2.2.2 i hi; exact md_val (by have := c2.2.1; omega) (by omega) (by omega) (q0 i hi)
    have u2 : dm υ 361 m = w := md_val (by omega) (by omega) (by omega) q1
    have u3 : dm υ 362 m = d := md_val (by omega) (by omega) (by omega) q2
    have u4 : dm υ 363 m = 1000000 := md_val (by omega) (by omega) (by omega) q3
    have u5 : dm υ 324 2 = dm σ 324 2 := dm_pt (hF1.I _ _ (by omega))
    have uo : ∀ k i, i ≠ m → (k = 359 ∨ k = 361 ∨ k = 362 ∨ k = 363) → dm υ k i = dm σ k i := fun k i hi hk => dm_pt (hF1.I _ _ (by omega))
    have uo0 : ∀ x i, x < m → i < 8 → dm υ 360 (8 * x + i) = dm σ 360 (8 * x + i) := fun x i hx hi => dm_pt (hF1.I _ _ (by omega))
    have nW : ∀ k j, (k < 250 ∧ k ≠ 3) ∨ (k = 3 ∧ j ≠ 8 ∧ j ≠ 10) ∨ (262 < k ∧ k < 359 ∧ k ≠ 324) ∨ (k = 324 ∧ j ≠ 0 ∧ j ≠ 16 ∧ j ≠ 55) ∨ 363 < k → ¬ (wnm m k j ∨ wtx m k j) := by
      intro k j hk z
      rcases z with z | z
      · rcases z with z | z | z | z <;> omega
      · rcases z with z | z | z | z <;> omega
    refine Inv_mut ?_ (keepT (fun k j hp => hF1.I k j (nW k j (by rcases hp with z | z | z | z | z | z <;> omega))) (gT h)) (keepR (fun k j hp => hF1.I k j (nW k j (by rcases hp with z | z | z | z | z | z <;> omega))) (gR h)) (keepH (fun k j hp => hF1.I k j (nW k j (by rcases hp with z | z | z | z | z <;> omega))) (gH h)) (keepS (fun k j hp => hF1.I k j (nW k j (by rcases hp with z | z | z | z <;> omega))) (gS h)) ⟨?_, ?_⟩ ?_ ((cc 3 10 (by omega)).trans g6)
    · intro k j hp
      by_cases e1 : k = 359 ∧ j = m
      · obtain ⟨rfl, rfl⟩ := e1; rw [q9]; exact ⟨fun _ => nI_pos' (by have := c2.2.1; omega), fun z => absurd z (by decide)⟩
      by_cases e2 : k = 361 ∧ j = m
      · obtain ⟨rfl, rfl⟩ := e2; rw [q1]; exact ⟨fun _ => nI_pos' (by omega), fun z => absurd z (by decide)⟩
      by_cases e3 : k = 362 ∧ j = m
      · obtain ⟨rfl, rfl⟩ := e3; rw [q2]; exact ⟨fun _ => nI_pos' (by omega), fun z => absurd z (by decide)⟩
      by_cases e4 : k = 363 ∧ j = m
      · obtain ⟨rfl, rfl⟩ := e4; rw [q3]; exact ⟨fun _ => nI_pos' (by omega), fun z => absurd z (by decide)⟩
      by_cases e5 : k = 324 ∧ j = 55
      · obtain ⟨rfl, rfl⟩ := e5; rw [q5]; exact ⟨fun _ => nI_pos' (by omega), fun z => absurd z (by decide)⟩
      by_cases e6 : k = 360 ∧ 8 * m ≤ j ∧ j < 8 * m + 8
      · obtain ⟨rfl, e6, e7⟩ := e6
        refine ⟨fun _ => ?_, fun z => absurd z (by decide)⟩
        by_cases e8 : j < 8 * m + n
        · have := q0 (j - 8 * m) (by omega)
          rw [show 8 * m + (j - 8 * m) = j by omega] at this
          rw [this]
          exact nI_pos' (by have := c2.2.2 (j - 8 * m) (by omega); omega)
        · rw [qx j (by omega)]
          exact (h.1 360 j hp).1 (by omega)
      · rw [hF1.I k j (fun z => ?_)]
        · exact h.1 k j hp
        · have := pex_ge hp
          rcases z with z | z
          · rcases z with z | z | z | z <;> omega
          · rcases z with z | z | z | z
            · omega
            · exact e1 z
            · rcases (by omega : k = 361 ∨ k = 362 ∨ k = 363) with y | y | y
              · exact e2 ⟨y, z.2.2⟩
              · exact e3 ⟨y, z.2.2⟩
              · exact e4 ⟨y, z.2.2⟩
            · exact e6 z
    · obtain ⟨w1, w2⟩ := (gN h).1
      unfold DWn
      rw [u1, u5]
      refine ⟨by omega, fun x hx => ?_⟩
      by_cases e : x = m
      · subst e
        rw [u9, u2, u3, u4]
        exact ⟨c2.1, c2.2.1, hw, hd, Or.inl rfl, fun i hi => by rw [u0 i hi]; exact c2.2.2 i hi⟩
      · rw [uo 359 x e (by omega), uo 361 x e (by omega), uo 362 x e (by omega), uo 363 x e (by omega)]
        obtain ⟨v1, v2, v3, v4, v5, v6⟩ := w2 x (by omega)
        exact ⟨v1, v2, v3, v4, v5, fun i hi => by rw [uo0 x i (by omega) (by omega)]; exact v6 i hi⟩
    · obtain ⟨w1, w2, w3⟩ := (gN h).2
      unfold CDn
      rw [u1]
      refine ⟨(cc _ _ (by omega)).trans g5, fun x hx => ?_, fun x hx1 hx2 => ?_⟩
      · have hnx : namX x = 250 + 2 * x := rfl
        by_cases e : x = m
        · subst e
          rw [u9, u2, u3, u4, hnx, cc _ _ (by omega), cc _ _ (by omega), cc _ _ (by omega), cc _ _ (by omega), g1, g2, g3]
          refine ⟨rfl, rfl, rfl, Or.inl ⟨rfl, ?_⟩, fun i hi => ?_⟩
          · rw [g8.I _ _ (by omega)]
            exact w3 x (by omega) (by omega)
          · rw [u0 i hi, cc _ _ (by omega), show 250 + 2 * x + 1 = 251 + 2 * x by omega]
            exact g4 i hi
        · obtain ⟨v1, v2, v3, v4, v5⟩ := w2 x (by omega)
          obtain ⟨-, z2, -⟩ := (gN h).1.2 x (by omega)
          rw [uo 359 x e (by omega), uo 361 x e (by omega), uo 362 x e (by omega), uo 363 x e (by omega), hF1.I (namX x) 3 (by omega), hF1.I (namX x) 4 (by omega), hF1.I (namX x) 0 (by omega), hF1.I (namX x) 1 (by omega)]
          exact ⟨v1, v2, v3, v4, fun i hi => by rw [hF1.I (namX x + 1) i (by omega), uo0 x i (by omega) (by omega)]; exact v5 i hi⟩
      · have hnx : namX x = 250 + 2 * x := rfl
        rw [hF1.I (namX x) 1 (by omega)]
        exact w3 x hx1 (by omega)
    · obtain ⟨⟨d', a1', a2', a3'⟩, -, x1, y, x2, x3, x4, x5⟩ := h.2.2.2.1
      refine ⟨⟨d', a1', (hF1.I _ _ (by omega)).trans a2', (hF1.I _ _ (by omega)).trans a3'⟩, ⟨0, by omega, q6, (cc _ _ (by omega)).trans g7, fun j hj => by omega⟩, ?_, y, x2, (hF1.I _ _ (by omega)).trans x3, (hF1.I _ _ (by omega)).trans x4, fun j hj => ?_⟩
      · rw [hF1.I 262 3 (by omega), hF1.I 324 23 (by omega)]; exact x1
      · rw [hF1.I 1 j (by omega), hF1.I 374 j (by omega)]; exact x5 j hj
  · refine ⟨_, ⟨-1, σ, c_name_no hT h6 e8 c, ?_⟩, Inv_thr hK h 0⟩
    have hTm : TPm n T (wI σ 324 0 0) := TPm_fr hT.m (Fr_thr σ 0) (scr_td (by omega)) (fun j => scr_lo (by omega))
    rw [q_X13_name]
    unfold f_X13_name_35
    rw [m2, e_within, bd_some, ite_bI]
    by_cases c1 : 0 ≤ a1 ∧ a1 < rI σ 3 2
    · rw [if_pos ((nI_sub1 (by omega)).mpr (by rw [← e2]; exact c1)), m_isName hTm, bd_some, ite_bI]
      by_cases c2 : nmok n T
      · rw [if_pos c2, show rI (wI σ 324 0 0) 324 55 = nI (dm σ 324 55) from m55, if_pos]
        have : ¬ dm σ 324 55 < 6 := fun z => c ⟨c1, c2, z⟩
        rw [show dm σ 324 55 = 6 by omega]
        rfl
      · rw [if_neg c2]
    · rw [if_neg (fun z => c1 (by rw [e2]; exact (nI_sub1 (by omega)).mp z))]
end NAME
