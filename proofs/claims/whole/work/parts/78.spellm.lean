/-! the reference spells -/
section SPM
variable {D : dD} {σ : jM}
theorem rxI_ix {v : Nat} (h : rIx D v ≠ 10) : rxI D v = nI (rIx D v) := if_neg h
theorem rxI_no {v : Nat} (h : rIx D v = 10) : rxI D v = -1 := if_pos h
theorem m_writes (hw : DWr D) (hM : MD D σ) {v c : Nat} (h : 97 ≤ c ∧ c ≤ 122) : f_X13_writes (rxI D v) (nI c) σ = some (nI (wr D v c), σ) := by
  have hN := ncl_le hw v
  refine ok_eq ?_
  unfold f_X13_writes
  refine L_X13_writes_5 (ncl D v) (fun k l3 l4 τ => l3 = nI (wrn D v c k) ∧ l4 = nI k ∧ τ = σ) (by omega) (fun k q l3 l4 τ hk hI hq => ?_) (Nat.zero_le _) ⟨rfl, rfl, rfl⟩
  obtain ⟨rfl, rfl, rfl⟩ := hI
  unfold s_X13_writes_5 f_X13_writes_66 f_X13_writes_72
  by_cases c0 : rIx D v = 10
  · rw [rxI_no c0, if_pos rfl]
    have e : k = ncl D v := by unfold ncl at hk ⊢; rw [if_pos c0] at hk ⊢; omega
    subst e
    exact ok_ret ⟨rfl, rfl⟩
  · have hx := rIx_lt hw v c0
    have h10 := hw.1
    rw [rxI_ix c0] at hq
    rw [rxI_ix c0, if_neg (show ¬ nI (rIx D v) = -1 from fun z => (nI_m1 (by omega)).mp z), gd_n (by omega) (by omega)]
    simp (disch := omega) only [nI_ix]
    rw [m_ncl hw hM c0]
    simp (disch := omega) only [nI_le2, li12, pk_mul, nI_add, nI_ix]
    by_cases c1 : k < ncl D v
    · obtain ⟨g1, g2, g3, g4⟩ := cl_dw hw c1
      obtain ⟨f2, f0⟩ := m_cl hw hM c1 (k := 332) (by omega)
      obtain ⟨f3, -⟩ := m_cl hw hM c1 (k := 333) (by omega)
      obtain ⟨f4, -⟩ := m_cl hw hM c1 (k := 334) (by omega)
      rw [if_neg (by omega), li2]
      simp (disch := omega) only [gd_n, f2, f3, f4, nI_eq2]
      have go : ¬ (cl D v 332 k = 2 ∧ cl D v 333 k = c) → ok (q (nI (rIx D v)) (nI c) (nI (wrn D v c k)) (nI k + 1) τ) (fun a s => a = nI (wr D v c) ∧ s = τ) := fun z => hq (k + 1) _ _ _ (by omega) (by omega) ⟨by rw [wrn_s, if_neg z], nI_1 k, rfl⟩
      refine ok_ite (fun z1 => ?_) (fun z1 => go (fun z => z1 z.1))
      refine ok_ite (fun z2 => ?_) (fun z2 => go (fun z => z2 z.2))
      exact hq (k + 1) _ _ _ (by omega) (by omega) ⟨by rw [wrn_s, if_pos ⟨z1, z2⟩], nI_1 k, rfl⟩
    · have e : k = ncl D v := by omega
      subst e
      rw [if_pos (by omega)]
      exact ok_ret ⟨rfl, rfl⟩
theorem m_drops (hw : DWr D) (hM : MD D σ) {v c : Nat} (h : 97 ≤ c ∧ c ≤ 122) : f_X13_drops (rxI D v) (nI c) σ = some (bI (drp D v c = true), σ) := by
  have hN := ncl_le hw v
  refine ok_eq ?_
  unfold f_X13_drops
  refine L_X13_drops_5 (ncl D v) (fun k l3 l4 τ => l3 = bI (drn D v c k = true) ∧ l4 = nI k ∧ τ = σ) (by omega) (fun k q l3 l4 τ hk hI hq => ?_) (Nat.zero_le _) ⟨rfl, rfl, rfl⟩
  obtain ⟨rfl, rfl, rfl⟩ := hI
  unfold s_X13_drops_5 f_X13_drops_69 f_X13_drops_57 f_X13_drops_61 f_X13_drops_62
  rw [gd_bI]
  by_cases c0 : rIx D v = 10
  · rw [rxI_no c0, if_pos rfl]
    have e : k = ncl D v := by unfold ncl at hk ⊢; rw [if_pos c0] at hk ⊢; omega
    subst e
    exact ok_ret ⟨rfl, rfl⟩
  · have hx := rIx_lt hw v c0
    have h10 := hw.1
    rw [rxI_ix c0] at hq
    rw [rxI_ix c0, if_neg (show ¬ nI (rIx D v) = -1 from fun z => (nI_m1 (by omega)).mp z), gd_n (by omega) (by omega)]
    simp (disch := omega) only [nI_ix]
    rw [m_ncl hw hM c0]
    simp (disch := omega) only [nI_le2, li12, pk_mul, nI_add, nI_ix]
    by_cases c1 : k < ncl D v
    · obtain ⟨g1, g2, g3, g4⟩ := cl_dw hw c1
      obtain ⟨f2, f0⟩ := m_cl hw hM c1 (k := 332) (by omega)
      obtain ⟨f3, -⟩ := m_cl hw hM c1 (k := 333) (by omega)
      rw [if_neg (by omega), li3, ite_bI]
      simp (disch := omega) only [gd_n, f2, f3, nI_eq2]
      have go : ∀ x : Int32, x = bI (drn D v c (k + 1) = true) → ok (q (nI (rIx D v)) (nI c) x (nI k + 1) τ) (fun a s => a = bI (drp D v c = true) ∧ s = τ) := fun x z => hq (k + 1) _ _ _ (by omega) (by omega) ⟨z, nI_1 k, rfl⟩
      have no : drn D v c k ≠ true → ¬ (cl D v 332 k = 3 ∧ cl D v 333 k = c) → (0 : Int32) = bI (drn D v c (k + 1) = true) := fun z1 z2 => by
        rw [bI_neg]
        rw [drn_s, Bool.eq_false_iff.mpr z1, decide_eq_false z2]
        decide
      refine ok_ite (fun z => go _ ?_) (fun z => ?_)
      · rw [bI_pos]; rw [drn_s, z]; rfl
      · refine ok_ite (fun z1 => ?_) (fun z1 => go _ (no z (fun y => z1 y.1)))
        refine ok_ite (fun z2 => go _ ?_) (fun z2 => go _ (no z (fun y => z2 y.2)))
        rw [bI_pos]; rw [drn_s, decide_eq_true ⟨z1, z2⟩, Bool.or_true]
    · have e : k = ncl D v := by omega
      subst e
      rw [if_pos (by omega)]
      exact ok_ret ⟨rfl, rfl⟩
theorem m_vowelFor {i n : Nat} {W : Nat → Nat} (hW : ∀ k, k < n → W k < 1000) (h6 : ∀ k, k < n → rI σ 366 k = nI (W k)) (hi : i < n) (hn : n ≤ 8) : f_X13_vowelFor (nI i) (nI n) σ = some (on (vf (fun k => vw (W k)) i n), σ) := by
  refine ok_eq ?_
  unfold f_X13_vowelFor
  have B : fwd (fun k => vw (W k)) (n - (i + 1)) (i + 1) = 999 → ok (f_X13_vowelFor_42 Fu (nI i - 1) σ) (fun a s => a = on (vf (fun k => vw (W k)) i n) ∧ s = σ) := by
    intro hf
    have ev : vf (fun k => vw (W k)) i n = bwd (fun k => vw (W k)) i := by unfold vf; rw [if_pos hf]
    rw [ev]
    refine L_X13_vowelFor_42 i (fun d l3 τ => l3 = zi ((i : Int) - d - 1) ∧ bwd (fun k => vw (W k)) i = bwd (fun k => vw (W k)) (i - d) ∧ τ = σ) (by omega) (fun d q l3 τ hk hI hq => ?_) (Nat.zero_le _) ⟨?_, rfl, rfl⟩
    · obtain ⟨rfl, h1, rfl⟩ := hI
      unfold s_X13_vowelFor_42
      have e0 : (zi ((i : Int) - d - 1) < 0) ↔ (i : Int) - d - 1 < 0 := zi_lt (b := 0) (by omega) (by omega) (by omega) (by omega)
      by_cases cc : d < i
      · rw [if_neg (fun z => by have := e0.mp z; omega)]
        obtain ⟨j, ej, ek, ci⟩ : ∃ j, i - d = j + 1 ∧ i - (d + 1) = j ∧ j < n := ⟨i - d - 1, by omega, by omega, by omega⟩
        have ei : zi ((i : Int) - d - 1) = nI j := by rw [nI_zi]; congr 1; omega
        have en : zi ((i : Int) - d - 1) + -1 = zi ((i : Int) - (d + 1 : Nat) - 1) := by rw [show (-1 : Int32) = zi (-1) from rfl, zi_add]; congr 1; omega
        rw [en, ei]
        rw [ej, bwd_s] at h1
        have hb := vw_bd (W j)
        simp (disch := omega) only [nI_ix]
        rw [gd_n (by omega) (by omega), h6 j ci, m_vowel (hW j ci), bd_some, ite_iff (on_m1 (by omega))]
        refine ok_ite (fun z => ?_) (fun z => ?_)
        · rw [if_pos z] at h1
          exact hq (d + 1) _ _ (by omega) (by omega) ⟨rfl, by rw [ek]; exact h1, rfl⟩
        · rw [if_neg z] at h1
          rw [gd_n (by omega) (by omega), h6 j ci, m_vowel (hW j ci), bd_some]
          exact ok_ret ⟨by rw [h1], rfl⟩
      · rw [if_pos (e0.mpr (by omega))]
        refine ok_ret ⟨?_, rfl⟩
        rw [h1, show i - d = 0 by omega]
        rfl
    · rw [nI_zi, show (1 : Int32) = zi 1 from rfl, zi_sub]
      congr 1
  refine L_X13_vowelFor_4 n (fun k l3 τ => i + 1 ≤ k ∧ l3 = nI k ∧ fwd (fun k => vw (W k)) (n - (i + 1)) (i + 1) = fwd (fun k => vw (W k)) (n - k) k ∧ τ = σ) (by omega) (fun k q l3 τ hk hI hq => ?_) (k := i + 1) (by omega) ⟨Nat.le_refl _, nI_1 i, rfl, rfl⟩
  obtain ⟨hik, rfl, h1, rfl⟩ := hI
  unfold s_X13_vowelFor_4
  simp (disch := omega) only [nI_le2, nI_ix]
  by_cases cc : k < n
  · have hb := vw_bd (W k)
    rw [if_neg (by omega), gd_n (by omega) (by omega), h6 k cc, m_vowel (hW k cc), bd_some, ite_iff (on_m1 (by omega))]
    rw [show n - k = n - (k + 1) + 1 by omega, fwd_s] at h1
    refine ok_ite (fun z => ?_) (fun z => ?_)
    · rw [if_pos z] at h1
      exact hq (k + 1) _ _ (by omega) (by omega) ⟨by omega, nI_1 k, h1, rfl⟩
    · rw [if_neg z] at h1
      rw [gd_n (by omega) (by omega), h6 k cc, m_vowel (hW k cc), bd_some]
      refine ok_ret ⟨?_, rfl⟩
      unfold vf
      rw [h1, if_neg z]
  · rw [if_pos (by omega)]
    refine B ?_
    rw [h1, show n - k = 0 by omega]
    rfl
theorem m_addV {m q y : Nat} (hm : m < 7) (hq : q < 8) (h : rI σ 365 m = nI q) : f_X13_addCell (nI m) 0 (nI y) σ = some ((), wI (wI σ 364 (8 * m + q) (nI y)) 365 m (nI (q + 1))) := by
  unfold f_X13_addCell
  rw [gd_n hm (by omega), if_pos rfl, nI_ix (by omega), h, li8, pk_mul, nI_add, q_X13_addCell_30]
  simp (disch := omega) only [gd_n, nI_ix, h, nI_1]
  rw [show ((5 : Int32) * 0) + nI y = nI y from by rw [show (5 : Int32) * 0 = nI 0 from rfl, nI_add, Nat.zero_add]]
theorem m_addC {m q y w : Nat} (hm : m < 7) (hq : q < 8) (hw : 97 ≤ w ∧ w ≤ 122) (h : rI σ 365 m = nI q) : f_X13_addCell (nI m) (nI w) (nI y) σ = some ((), wI (wI σ 364 (8 * m + q) (nI ((w - 96) * 5 + y))) 365 m (nI (q + 1))) := by
  unfold f_X13_addCell
  rw [gd_n hm (by omega), if_neg (fun z => by have := (eq0_n (by omega)).mp z; omega), nI_ix (by omega), h, li8, pk_mul, nI_add, q_X13_addCell_30]
  simp (disch := omega) only [gd_n, nI_ix, h, nI_1]
  rw [show (97 : Int32) = nI 97 from rfl, pk_sub (by omega), nI_1, li5, pk_mul, nI_add, show 5 * (w - 97 + 1) + y = (w - 96) * 5 + y by omega]
abbrev wms (m : Nat) (k j : Nat) : Prop := (k = 364 ∧ 8 * m ≤ j ∧ j < 8 * m + 8) ∨ (k = 365 ∧ j = m) ∨ k = 366
set_option maxHeartbeats 4000000 in
theorem m_spells (hw : DWr D) (hM : MD D σ) {v n m : Nat} {L : Nat → Nat} (hv : v ≤ 100000) (hm : m < 7) (hL : ∀ i, i < n → 97 ≤ L i ∧ L i ≤ 122) (hn : n ≤ 8) (h9 : rI σ 359 m = nI n) (h0 : ∀ i, i < n → rI σ 360 (8 * m + i) = nI (L i)) :
    ok (f_X13_spells (nI m) (nI v) σ) (fun _ τ => rI τ 365 m = nI (nce D v L n) ∧ (∀ q, q < nce D v L n → rI τ 364 (8 * m + q) = nI (cev D v L n q)) ∧ Fr (wms m) σ τ) := by
  have hMf : ∀ τ, Fr (wms m) σ τ → MD D τ := fun τ hF => MD_fr hM hF (fun k j hp => by omega)
  have h9f : ∀ τ, Fr (wms m) σ τ → rI τ 359 m = nI n := fun τ hF => (hF.I _ _ (by omega)).trans h9
  have A60 : ∀ τ, Fr (wms m) σ τ → rI τ 365 m = 0 → (∀ k, k < n → rI τ 366 k = nI (wr D v (L k))) → ok (f_X13_spells_60 Fu (nI m) (rxI D v) 0 τ) (fun _ τ => rI τ 365 m = nI (nce D v L n) ∧ (∀ q, q < nce D v L n → rI τ 364 (8 * m + q) = nI (cev D v L n q)) ∧ Fr (wms m) σ τ) := by
    intro τ hF h5 h6
    refine L_X13_spells_60 n (fun i l4 τ => l4 = nI i ∧ rI τ 365 m = nI (cnt (cmp D v L n) i) ∧ Fr (wms m) σ τ ∧ (∀ k, k < n → rI τ 366 k = nI (wr D v (L k))) ∧ ∀ k, k < i → cm D v L n k ≠ 999 → rI τ 364 (8 * m + cnt (cmp D v L n) k) = nI (cm D v L n k)) (by omega) (fun i q l4 τ hk hI hq => ?_) (Nat.zero_le _) ⟨rfl, h5, hF, h6, fun k hk => by omega⟩
    obtain ⟨rfl, h5, hF, h6, h7⟩ := hI
    have hci := cnt_le (cmp D v L n) i
    have hWb : ∀ k, k < n → 97 ≤ wr D v (L k) ∧ wr D v (L k) ≤ 122 := fun k hk => wr_bd hw v (hL k hk)
    have hvb : ∀ k, vw (wr D v (L k)) = 999 ∨ vw (wr D v (L k)) < 5 := fun k => vw_bd _
    unfold s_X13_spells_60 f_X13_spells_110 f_X13_spells_150 f_X13_spells_155 f_X13_spells_197 f_X13_spells_211
    rw [gd_n hm (by omega)]
    simp (disch := omega) only [nI_ix]
    rw [h9f τ hF]
    simp (disch := omega) only [nI_le2]
    by_cases c : i < n
    · have hb := cm_bd hw v (n := n) (hL i c)
      have none : cm D v L n i = 999 → ok (q (nI m) (rxI D v) (nI i + 1) τ) (fun _ τ => rI τ 365 m = nI (nce D v L n) ∧ (∀ q, q < nce D v L n → rI τ 364 (8 * m + q) = nI (cev D v L n q)) ∧ Fr (wms m) σ τ) := by
        intro z
        refine hq (i + 1) _ _ (by omega) (by omega) ⟨nI_1 i, ?_, hF, h6, fun k hk y => ?_⟩
        · rw [h5, cnt_s, if_neg (fun y => (of_decide_eq_true y) z), Nat.add_zero]
        · by_cases e : k = i
          · subst e; exact absurd z y
          · exact h7 k (by omega) y
      have some_ : ∀ x : Nat, x = cm D v L n i → x ≠ 999 → ok (q (nI m) (rxI D v) (nI i + 1) (wI (wI τ 364 (8 * m + cnt (cmp D v L n) i) (nI x)) 365 m (nI (cnt (cmp D v L n) i + 1)))) (fun _ τ => rI τ 365 m = nI (nce D v L n) ∧ (∀ q, q < nce D v L n → rI τ 364 (8 * m + q) = nI (cev D v L n q)) ∧ Fr (wms m) σ τ) := by
        intro x ex zx
        have z : cm D v L n i ≠ 999 := by rw [← ex]; exact zx
        have hp : cmp D v L n i = true := decide_eq_true z
        refine hq (i + 1) _ _ (by omega) (by omega) ⟨nI_1 i, ?_, (hF.w (Or.inl ⟨rfl, by omega, by omega⟩)).w (Or.inr (Or.inl ⟨rfl, rfl⟩)), fun k hk => ?_, fun k hk y => ?_⟩
        · rw [rI_same, cnt_s, if_pos hp]
        · rw [rI_nk (by omega), rI_nk (by omega)]; exact h6 k hk
        · rw [rI_nk (by omega)]
          by_cases e : k = i
          · subst e; rw [rI_same, ex]
          · rw [rI_nj (fun y2 => e (cnt_uniq (decide_eq_true y) hp (by omega)))]
            exact h7 k (by omega) y
      rw [if_neg (by omega), gd_n (by omega) (by omega), h6 i c, m_vowel (by have := hWb i c; omega), bd_some, ite_iff (on_m1 (by have := hvb i; omega))]
      refine ok_ite (fun z1 => ?_) (fun z1 => ?_)
      · rw [gd_n (by omega) (by omega), h9f τ hF, nI_1]
        simp (disch := omega) only [nI_eq2, nI_ix]
        have fin : ∀ s0 : Int32, (s0 = 0 ∨ s0 = 1) → (s0 = 0 ↔ ¬ (n ≤ i + 1 ∨ vw (wr D v (L (i + 1))) = 999)) → ok (gd (inb (nI m) 7) (bd (f_X13_vowelFor (nI i) (nI n) τ) (fun r22 σ23 => if r22 = -1 then q (nI m) (rxI D v) (nI (i + 1)) σ23 else if s0 = 0 then gd (inb (nI i) 8) (bd (f_X13_addCell (nI m) (rI σ23 366 i) r22 σ23) (fun _ σ15 => q (nI m) (rxI D v) (nI (i + 1)) σ15)) else gd (inb (nI i) 8) (bd (f_X13_drops (rxI D v) (rI σ23 366 i) σ23) (fun r28 σ29 => if r28 = 0 then gd (inb (nI i) 8) (bd (f_X13_addCell (nI m) (rI σ29 366 i) r22 σ29) (fun _ σ15 => q (nI m) (rxI D v) (nI (i + 1)) σ15)) else q (nI m) (rxI D v) (nI (i + 1)) σ29))))) (fun _ τ => rI τ 365 m = nI (nce D v L n) ∧ (∀ q, q < nce D v L n → rI τ 364 (8 * m + q) = nI (cev D v L n q)) ∧ Fr (wms m) σ τ) := by
          intro s0 hs01 hs0
          have hf := vf_bd (V := fun k => vw (wr D v (L k))) (fun k => vw_bd _) i n
          rw [gd_n (by omega) (by omega), m_vowelFor (W := fun k => wr D v (L k)) (fun k hk => by have := hWb k hk; omega) h6 c hn, bd_some, ite_iff (on_m1 (by omega)), ← nI_1]
          have ec : ¬ ((n ≤ i + 1 ∨ vw (wr D v (L (i + 1))) = 999) ∧ drp D v (wr D v (L i)) = true) → vf (fun k => vw (wr D v (L k))) i n ≠ 999 → cm D v L n i = (wr D v (L i) - 96) * 5 + vf (fun k => vw (wr D v (L k))) i n := fun y1 y2 => by
            unfold cm cmW
            dsimp only
            rw [if_pos z1, if_neg y1, if_neg y2]
          refine ok_ite (fun z2 => none ?_) (fun z2 => ?_)
          · unfold cm cmW
            dsimp only
            rw [if_pos z1, if_pos z2]
            split <;> rfl
          · have h5' : vf (fun k => vw (wr D v (L k))) i n < 5 := hf.resolve_left z2
            have hwi := hWb i c
            refine ok_ite (fun z3 => ?_) (fun z3 => ?_)
            · rw [gd_n (by omega) (by omega), h6 i c, on_n z2, m_addC hm (by omega) (hWb i c) h5, bd_some]
              exact some_ _ (ec (fun y => (hs0.mp z3) y.1) z2).symm (by omega)
            · have hor : (n ≤ i + 1 ∨ vw (wr D v (L (i + 1))) = 999) := Classical.byContradiction (fun y => z3 (hs0.mpr y))
              rw [gd_n (by omega) (by omega), h6 i c, m_drops hw (hMf τ hF) (hWb i c), bd_some, ite_bI]
              refine ok_ite (fun z4 => none ?_) (fun z4 => ?_)
              · unfold cm cmW
                dsimp only
                rw [if_pos z1, if_pos ⟨hor, z4⟩]
              · rw [gd_n (by omega) (by omega), h6 i c, on_n z2, m_addC hm (by omega) (hWb i c) h5, bd_some]
                exact some_ _ (ec (fun y => z4 y.2) z2).symm (by omega)
        refine ok_ite (fun z2 => fin 1 (Or.inr rfl) ⟨fun y => absurd y (by decide), fun y => absurd (Or.inl (by omega)) y⟩) (fun z2 => ?_)
        rw [gd_n (by omega) (by omega), h6 (i + 1) (by omega), m_vowel (by have := hWb (i + 1) (by omega); omega), bd_some, ite_iff (on_m1 (by have := hvb (i + 1); omega))]
        rw [h9f τ hF]
        refine ok_ite (fun z3 => fin 1 (Or.inr rfl) ⟨fun y => absurd y (by decide), fun y => absurd (Or.inr z3) y⟩) (fun z3 => ?_)
        have f0 := fin 0 (Or.inl rfl) ⟨fun _ y => y.elim (by omega) z3, fun _ => rfl⟩
        simp only [eq_self, if_true] at f0 ⊢
        exact f0
      · have hvi : vw (wr D v (L i)) < 5 := (hvb i).resolve_left z1
        have yes : (i = 0 ∨ ¬ vw (wr D v (L (i - 1))) = 999) → ok (bd (f_X13_addCell (nI m) 0 (on (vw (wr D v (L i)))) τ) (fun _ σ44 => q (nI m) (rxI D v) (nI i + 1) σ44)) (fun _ τ => rI τ 365 m = nI (nce D v L n) ∧ (∀ q, q < nce D v L n → rI τ 364 (8 * m + q) = nI (cev D v L n q)) ∧ Fr (wms m) σ τ) := by
          intro y
          rw [on_n z1, m_addV hm (by omega) h5, bd_some]
          refine some_ _ ?_ (by omega)
          unfold cm cmW
          dsimp only
          rw [if_neg z1, if_pos y]
        rw [ite_iff (eq0_n (by omega))]
        refine ok_ite (fun z2 => yes (Or.inl z2)) (fun z2 => ?_)
        rw [sub1_n (by omega), gd_n (by omega) (by omega), nI_ix (by omega), h6 (i - 1) (by omega), m_vowel (by have := hWb (i - 1) (by omega); omega), bd_some, ite_iff (on_m1 (by have := hvb (i - 1); omega))]
        refine ok_ite (fun z3 => none ?_) (fun z3 => yes (Or.inr z3))
        unfold cm cmW
        dsimp only
        rw [if_neg z1, if_neg (fun y => y.elim z2 (fun w => w z3))]
    · have e : i = n := by omega
      subst e
      rw [if_pos (by omega)]
      exact ok_ret ⟨h5, fun q hq => cev_arr (g := fun q => rI τ 364 (8 * m + q)) h7 hq, hF⟩
  unfold f_X13_spells
  rw [m_rulesBy hw hM hv, bd_some, gd_n hm (by omega), nI_ix (by omega)]
  refine L_X13_spells_16 n (fun i l4 τ => l4 = nI i ∧ rI τ 365 m = 0 ∧ Fr (wms m) σ τ ∧ (∀ k, k < i → rI τ 366 k = nI (wr D v (L k)))) (by omega) (fun i q l4 τ hk hI hq => ?_) (Nat.zero_le _) ⟨rfl, rI_same _ _ _ _, Fr.refl.w (Or.inr (Or.inl ⟨rfl, rfl⟩)), fun k hk => by omega⟩
  obtain ⟨rfl, h5, hF, h6⟩ := hI
  unfold s_X13_spells_16
  rw [gd_n hm (by omega)]
  simp (disch := omega) only [nI_ix]
  rw [h9f τ hF]
  simp (disch := omega) only [nI_le2, nI_ix, li8, pk_mul, nI_add]
  by_cases c : i < n
  · rw [if_neg (by omega), gd_n (by omega) (by omega), show rI τ 360 (8 * m + i) = nI (L i) from (hF.I _ _ (by omega)).trans (h0 i c), m_writes hw (hMf τ hF) (hL i c), bd_some, gd_n (by omega) (by omega)]
    refine hq (i + 1) _ _ (by omega) (by omega) ⟨nI_1 i, h5, hF.w (Or.inr (Or.inr rfl)), fun k hk => ?_⟩
    by_cases e : k = i
    · subst e; exact rI_same _ _ _ _
    · rw [rI_nj e]; exact h6 k (by omega)
  · have e : i = n := by omega
    subst e
    rw [if_pos (by omega)]
    exact A60 τ hF h5 h6
end SPM
