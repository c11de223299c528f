/-! the class spells -/
section SPC
variable {D : dD} {σ : jM}
theorem c_writtenFor (hw : DWr D) (hc : CDr D σ) {v c : Nat} (h : 97 ≤ c ∧ c ≤ 122) : f_X7_writtenFor (rIx D v) (nI c) σ = some (nI (wr D v c), σ) := by
  have hN := ncl_le hw v
  refine ok_eq ?_
  unfold f_X7_writtenFor
  rw [c_ncl hw hc v]
  refine L_X7_writtenFor_7 (ncl D v) (fun d l2 τ => l2 = zi ((ncl D v : Int) - d - 1) ∧ wr D v c = wrn D v c (ncl D v - d) ∧ τ = σ) (by omega) (fun d q l2 τ hk hI hq => ?_) (Nat.zero_le _) ⟨?_, rfl, rfl⟩
  · obtain ⟨rfl, h1, rfl⟩ := hI
    unfold s_X7_writtenFor_7 f_X7_writtenFor_38
    have e0 : (zi ((ncl D v : Int) - d - 1) < 0) ↔ (ncl D v : Int) - d - 1 < 0 := zi_lt (b := 0) (by omega) (by omega) (by omega) (by omega)
    by_cases cc : d < ncl D v
    · rw [if_neg (fun z => by have := e0.mp z; omega)]
      obtain ⟨i, ej, ek, ci⟩ : ∃ i, ncl D v - d = i + 1 ∧ ncl D v - (d + 1) = i ∧ i < ncl D v := ⟨ncl D v - d - 1, by omega, by omega, by omega⟩
      have ei : zi ((ncl D v : Int) - d - 1) = nI i := by rw [nI_zi]; congr 1; omega
      have en : zi ((ncl D v : Int) - d - 1) + -1 = zi ((ncl D v : Int) - (d + 1 : Nat) - 1) := by rw [show (-1 : Int32) = zi (-1) from rfl, zi_add]; congr 1; omega
      rw [en, ei]
      rw [ej, wrn_s] at h1
      obtain ⟨f1, f2, f3, f4⟩ := c_cl hw hc ci
      obtain ⟨g1, g2, g3, g4⟩ := cl_dw hw ci
      rw [li2]
      simp (disch := omega) only [gd_n, nI_ix, f1, nI_eq2]
      have go : ¬ (cl D v 332 i = 2 ∧ cl D v 333 i = c) → ok (q (rIx D v) (nI c) (zi ((ncl D v : Int) - (d + 1 : Nat) - 1)) τ) (fun a s => a = nI (wr D v c) ∧ s = τ) := fun z => by
        rw [if_neg z] at h1
        exact hq (d + 1) _ _ (by omega) (by omega) ⟨rfl, by rw [ek]; exact h1, rfl⟩
      refine ok_ite (fun z1 => ?_) (fun z1 => go (fun z => z1 z.1))
      rw [f3 (by omega), f4 z1, ite_iff (nI_eq2 (by have := g3 (by omega); omega) (by omega))]
      refine ok_ite (fun z2 => ?_) (fun z2 => go (fun z => z2 z.2))
      rw [if_pos ⟨z1, z2⟩] at h1
      exact ok_ret ⟨by rw [h1], rfl⟩
    · rw [if_pos (e0.mpr (by omega))]
      refine ok_ret ⟨?_, rfl⟩
      rw [h1, show ncl D v - d = 0 by omega]
      rfl
  · rw [nI_zi, show (1 : Int32) = zi 1 from rfl, zi_sub]
    congr 1
theorem c_drops (hw : DWr D) (hc : CDr D σ) {v c : Nat} (h : 97 ≤ c ∧ c ≤ 122) : f_X7_drops (rIx D v) (nI c) σ = some (bI (drp D v c = true), σ) := by
  have hN := ncl_le hw v
  refine ok_eq ?_
  unfold f_X7_drops
  refine L_X7_drops_2 (ncl D v) (fun k l2 τ => l2 = nI k ∧ drn D v c k = false ∧ τ = σ) (by omega) (fun k q l2 τ hk hI hq => ?_) (Nat.zero_le _) ⟨rfl, rfl, rfl⟩
  obtain ⟨rfl, h1, rfl⟩ := hI
  unfold s_X7_drops_2 f_X7_drops_32
  rw [c_ncl hw hc v, li3]
  simp (disch := omega) only [nI_le2]
  by_cases cc : k < ncl D v
  · obtain ⟨f1, f2, f3, f4⟩ := c_cl hw hc cc
    obtain ⟨g1, g2, g3, g4⟩ := cl_dw hw cc
    rw [if_neg (by omega)]
    simp (disch := omega) only [gd_n, nI_ix, f1, nI_eq2]
    have go : ¬ (cl D v 332 k = 3 ∧ cl D v 333 k = c) → ok (q (rIx D v) (nI c) (nI k + 1) τ) (fun a s => a = bI (drp D v c = true) ∧ s = τ) := fun z => hq (k + 1) _ _ (by omega) (by omega) ⟨nI_1 k, by rw [drn_s, h1, decide_eq_false z]; rfl, rfl⟩
    refine ok_ite (fun z1 => ?_) (fun z1 => go (fun z => z1 z.1))
    rw [f3 (by omega), ite_iff (nI_eq2 (by have := g3 (by omega); omega) (by omega))]
    refine ok_ite (fun z2 => ?_) (fun z2 => go (fun z => z2 z.2))
    refine ok_ret ⟨?_, rfl⟩
    have : drp D v c = true := drn_mono D v c (k := k + 1) (by omega) (by rw [drn_s, decide_eq_true ⟨z1, z2⟩, Bool.or_true])
    rw [bI_pos this]
  · have e : k = ncl D v := by omega
    subst e
    rw [if_pos (by omega)]
    refine ok_ret ⟨?_, rfl⟩
    have : ¬ drp D v c = true := fun z => by unfold drp at z; rw [h1] at z; cases z
    rw [bI_neg this]
theorem c_vowelFor {t0 i n : Nat} {V : Nat → Nat} (hV : ∀ k, V k = 999 ∨ V k < 5) (h8 : ∀ k, k < n → rI σ (rulX t0 + 8) k = on (V k)) (hi : i < n) (hn : n ≤ 8) : f_X7_vowelFor t0 (nI i) (nI n) σ = some (on (vf V i n), σ) := by
  refine ok_eq ?_
  unfold f_X7_vowelFor
  have B : bwd V i = bwd V i → fwd V (n - (i + 1)) (i + 1) = 999 → ok (f_X7_vowelFor_36 Fu t0 (nI i - 1) σ) (fun a s => a = on (vf V i n) ∧ s = σ) := by
    intro _ hf
    have ev : vf V i n = bwd V i := by unfold vf; rw [if_pos hf]
    rw [ev]
    refine L_X7_vowelFor_36 i (fun d l3 τ => l3 = zi ((i : Int) - d - 1) ∧ bwd V i = bwd V (i - d) ∧ τ = σ) (by omega) (fun d q l3 τ hk hI hq => ?_) (Nat.zero_le _) ⟨?_, rfl, rfl⟩
    · obtain ⟨rfl, h1, rfl⟩ := hI
      unfold s_X7_vowelFor_36
      have e0 : (zi ((i : Int) - d - 1) < 0) ↔ (i : Int) - d - 1 < 0 := zi_lt (b := 0) (by omega) (by omega) (by omega) (by omega)
      by_cases cc : d < i
      · rw [if_neg (fun z => by have := e0.mp z; omega)]
        obtain ⟨j, ej, ek, ci⟩ : ∃ j, i - d = j + 1 ∧ i - (d + 1) = j ∧ j < n := ⟨i - d - 1, by omega, by omega, by omega⟩
        have ei : zi ((i : Int) - d - 1) = nI j := by rw [nI_zi]; congr 1; omega
        have en : zi ((i : Int) - d - 1) + -1 = zi ((i : Int) - (d + 1 : Nat) - 1) := by rw [show (-1 : Int32) = zi (-1) from rfl, zi_add]; congr 1; omega
        rw [en, ei]
        rw [ej, bwd_s] at h1
        simp (disch := omega) only [gd_n, nI_ix, h8 j ci]
        rw [ite_iff (on_m1 (by have := hV j; omega))]
        refine ok_ite (fun z => ?_) (fun z => ?_)
        · rw [if_pos z] at h1
          exact hq (d + 1) _ _ (by omega) (by omega) ⟨rfl, by rw [ek]; exact h1, rfl⟩
        · rw [if_neg z] at h1
          exact ok_ret ⟨by rw [h1], rfl⟩
      · rw [if_pos (e0.mpr (by omega))]
        refine ok_ret ⟨?_, rfl⟩
        rw [h1, show i - d = 0 by omega]
        rfl
    · rw [nI_zi, show (1 : Int32) = zi 1 from rfl, zi_sub]
      congr 1
  refine L_X7_vowelFor_4 n (fun k l3 τ => i + 1 ≤ k ∧ l3 = nI k ∧ fwd V (n - (i + 1)) (i + 1) = fwd V (n - k) k ∧ τ = σ) (by omega) (fun k q l3 τ hk hI hq => ?_) (k := i + 1) (by omega) ⟨Nat.le_refl _, nI_1 i, rfl, rfl⟩
  obtain ⟨hik, rfl, h1, rfl⟩ := hI
  unfold s_X7_vowelFor_4
  simp (disch := omega) only [nI_le2, nI_ix]
  by_cases cc : k < n
  · rw [if_neg (by omega)]
    simp (disch := omega) only [gd_n, h8 k cc]
    rw [ite_iff (on_m1 (by have := hV k; omega))]
    rw [show n - k = n - (k + 1) + 1 by omega, fwd_s] at h1
    refine ok_ite (fun z => ?_) (fun z => ?_)
    · rw [if_pos z] at h1
      exact hq (k + 1) _ _ (by omega) (by omega) ⟨by omega, nI_1 k, h1, rfl⟩
    · rw [if_neg z] at h1
      refine ok_ret ⟨?_, rfl⟩
      unfold vf
      rw [h1, if_neg z]
  · rw [if_pos (by omega)]
    refine B rfl ?_
    rw [h1, show n - k = 0 by omega]
    rfl
theorem c_cellMadeBy (hw : DWr D) (hc : CDr D σ) {v i n : Nat} {W V : Nat → Nat} (hV : ∀ k, V k = 999 ∨ V k < 5) (hW : ∀ k, k < n → 97 ≤ W k ∧ W k ≤ 122) (h7 : ∀ k, k < n → rI σ (rulX (rIx D v) + 7) k = nI (W k)) (h8 : ∀ k, k < n → rI σ (rulX (rIx D v) + 8) k = on (V k)) (hi : i < n) (hn : n ≤ 8) : f_X7_cellMadeBy (rIx D v) (nI i) (nI n) σ = some (on (cmW D v W V n i), σ) := by
  have hWi := hW i hi
  have hf := vf_bd hV i n
  have A91 : V i = 999 → ¬ ((n ≤ i + 1 ∨ V (i + 1) = 999) ∧ drp D v (W i) = true) → f_X7_cellMadeBy_91 (rIx D v) (nI i) (nI n) σ = some (on (cmW D v W V n i), σ) := by
    intro z1 z2
    unfold f_X7_cellMadeBy_91 f_X7_cellMadeBy_125 cmW
    rw [c_vowelFor hV h8 hi hn, bd_some, ite_iff (on_m1 (by omega)), if_pos z1, if_neg z2]
    by_cases c : vf V i n = 999
    · rw [if_pos c, if_pos c]; rfl
    · have h5 : vf V i n < 5 := hf.resolve_left c
      rw [if_neg c, if_neg c, gd_n (by omega) (by omega), nI_ix (by omega), h7 i hi, on_n c, on_n (by omega), show (97 : Int32) = nI 97 from rfl, pk_sub (by omega), nI_1, li5, pk_mul, nI_add, show W i - 97 + 1 = W i - 96 by omega]
  have A71 : V i = 999 → (n ≤ i + 1 ∨ V (i + 1) = 999) → f_X7_cellMadeBy_71 (rIx D v) (nI i) (nI n) 0 σ = some (on (cmW D v W V n i), σ) := by
    intro z1 z2
    unfold f_X7_cellMadeBy_71
    rw [if_pos rfl, gd_n (by omega) (by omega), nI_ix (by omega), h7 i hi, c_drops hw hc hWi, bd_some, ite_bI]
    by_cases c : drp D v (W i) = true
    · rw [if_pos c]
      unfold cmW
      rw [if_pos z1, if_pos ⟨z2, c⟩]
      rfl
    · rw [if_neg c]
      exact A91 z1 (fun z => c z.2)
  unfold f_X7_cellMadeBy
  rw [gd_n (by omega) (by omega), nI_ix (by omega), h8 i hi, ite_iff (on_m1 (by have := hV i; omega))]
  by_cases c : V i = 999
  · rw [if_pos c, nI_1, ite_iff (nI_le2 (by omega) (by omega))]
    unfold f_X7_cellMadeBy_70
    by_cases c1 : n ≤ i + 1
    · rw [if_pos c1]
      exact A71 c (Or.inl c1)
    · rw [if_neg c1, gd_n (by omega) (by omega), nI_ix (by omega), h8 (i + 1) (by omega), ite_iff (on_m1 (by have := hV (i + 1); omega))]
      by_cases c2 : V (i + 1) = 999
      · rw [if_pos c2]
        exact A71 c (Or.inr c2)
      · rw [if_neg c2]
        unfold f_X7_cellMadeBy_71
        rw [if_neg (by decide)]
        exact A91 c (fun z => z.1.elim c1 c2)
  · rw [if_neg c]
    unfold f_X7_cellMadeBy_26 f_X7_cellMadeBy_31 f_X7_cellMadeBy_46 cmW
    rw [if_neg c, ite_iff (eq0_n (by omega))]
    simp (disch := omega) only [gd_n, nI_ix, h8 i hi]
    by_cases c1 : i = 0
    · rw [if_pos c1, if_neg (by decide), if_pos (Or.inl c1)]
    · rw [if_neg c1, sub1_n (by omega), gd_n (by omega) (by omega), nI_ix (by omega), h8 (i - 1) (by omega), ite_iff (on_m1 (by have := hV (i - 1); omega))]
      by_cases c2 : V (i - 1) = 999
      · rw [if_pos c2, if_pos trivial, if_neg (fun z => z.elim c1 (fun y => y c2))]; rfl
      · rw [if_neg c2, if_neg (by decide), if_pos (Or.inr c2)]
abbrev wsp (t a : Nat) (k _j : Nat) : Prop := k = a ∨ k = rulX t + 7 ∨ k = rulX t + 8
theorem rulX_cases (t : Nat) : (t < 10 ∧ rulX t = 100 + 9 * t) ∨ (10 ≤ t ∧ rulX t = 19) := by
  unfold rulX
  by_cases h : t < 10
  · rw [if_pos h]; exact Or.inl ⟨h, rfl⟩
  · rw [if_neg h]; exact Or.inr ⟨by omega, rfl⟩
theorem c_spell (hw : DWr D) (hc : CDr D σ) {v n a b : Nat} {L : Nat → Nat} (hL : ∀ i, i < n → 97 ≤ L i ∧ L i ≤ 122) (ha : ∀ i, i < n → rI σ a i = nI (L i)) (hn : n ≤ 8) (hsa : n ≤ (shf a).2 ∧ (shf a).2 < 1000000) (hsb : (shf b).2 = 8) (hab : (251 ≤ a ∧ a ≤ 263) ∧ (b = 2 ∨ (303 ≤ b ∧ b ≤ 309))) :
    ok (f_X7_spell (rIx D v) a (nI n) b σ) (fun r τ => r = nI (nce D v L n) ∧ (∀ q, q < nce D v L n → rI τ b q = nI (cev D v L n q)) ∧ Fr (wsp (rIx D v) b) σ τ) := by
  have hrx := rulX_cases (rIx D v)
  have hrl := rIx_le hw v
  have hcr : ∀ τ, Fr (wsp (rIx D v) b) σ τ → CDr D τ := fun τ hF => CDr_eq hw rfl rfl rfl rfl rfl rfl rfl (hF.I _ _ (by omega)) (hF.I _ _ (by omega)) (fun k j h1 h2 i => hF.I _ _ (by omega)) hc
  have A53 : ∀ τ, Fr (wsp (rIx D v) b) σ τ → (∀ k, k < n → rI τ (rulX (rIx D v) + 7) k = nI (wr D v (L k))) → (∀ k, k < n → rI τ (rulX (rIx D v) + 8) k = on (vw (wr D v (L k)))) → ok (f_X7_spell_53 Fu (rIx D v) (nI n) b 0 0 τ) (fun r τ => r = nI (nce D v L n) ∧ (∀ q, q < nce D v L n → rI τ b q = nI (cev D v L n q)) ∧ Fr (wsp (rIx D v) b) σ τ) := by
    intro τ hF h7 h8
    refine L_X7_spell_53 n (fun i l4 l5 τ => l4 = nI (cnt (cmp D v L n) i) ∧ l5 = nI i ∧ Fr (wsp (rIx D v) b) σ τ ∧ (∀ k, k < n → rI τ (rulX (rIx D v) + 7) k = nI (wr D v (L k))) ∧ (∀ k, k < n → rI τ (rulX (rIx D v) + 8) k = on (vw (wr D v (L k)))) ∧ ∀ k, k < i → cm D v L n k ≠ 999 → rI τ b (cnt (cmp D v L n) k) = nI (cm D v L n k)) (by omega) (fun i q l4 l5 τ hk hI hq => ?_) (Nat.zero_le _) ⟨rfl, rfl, hF, h7, h8, fun k hk => by omega⟩
    obtain ⟨rfl, rfl, hF, h7, h8, h9⟩ := hI
    unfold s_X7_spell_53 f_X7_spell_83
    simp (disch := omega) only [nI_le2]
    have hci := cnt_le (cmp D v L n) i
    by_cases c : i < n
    · rw [if_neg (by omega), c_cellMadeBy hw (hcr τ hF) (W := fun k => wr D v (L k)) (V := fun k => vw (wr D v (L k))) (fun k => vw_bd _) (fun k hk => wr_bd hw v (hL k hk)) h7 h8 c hn, bd_some]
      have hb := cm_bd hw v (n := n) (hL i c)
      rw [show cmW D v (fun k => wr D v (L k)) (fun k => vw (wr D v (L k))) n i = cm D v L n i from rfl, ite_iff (on_m1 (by omega))]
      refine ok_ite (fun z => ?_) (fun z => ?_)
      · refine hq (i + 1) _ _ _ (by omega) (by omega) ⟨?_, nI_1 i, hF, h7, h8, fun k hk y => ?_⟩
        · rw [cnt_s, if_neg (fun y => (of_decide_eq_true y) z), Nat.add_zero]
        · by_cases e : k = i
          · subst e; exact absurd z y
          · exact h9 k (by omega) y
      · have hp : cmp D v L n i = true := decide_eq_true z
        rw [hsb, gd_n (by omega) (by omega), nI_ix (by omega), on_n z]
        refine hq (i + 1) _ _ _ (by omega) (by omega) ⟨?_, nI_1 i, hF.w (Or.inl rfl), fun k hk => ?_, fun k hk => ?_, fun k hk y => ?_⟩
        · rw [cnt_s, if_pos hp, nI_1]
        · rw [rI_nk (by omega)]; exact h7 k hk
        · rw [rI_nk (by omega)]; exact h8 k hk
        · by_cases e : k = i
          · subst e; exact rI_same _ _ _ _
          · rw [rI_nj (fun y2 => e (cnt_uniq (decide_eq_true y) hp y2))]
            exact h9 k (by omega) y
    · have e : i = n := by omega
      subst e
      rw [if_pos (by omega)]
      exact ok_ret ⟨rfl, fun q hq => cev_arr (g := fun q => rI τ b q) h9 hq, hF⟩
  unfold f_X7_spell
  refine L_X7_spell_3 n (fun i l4 τ => l4 = nI i ∧ Fr (wsp (rIx D v) b) σ τ ∧ (∀ k, k < i → rI τ (rulX (rIx D v) + 7) k = nI (wr D v (L k))) ∧ (∀ k, k < i → rI τ (rulX (rIx D v) + 8) k = on (vw (wr D v (L k))))) (by omega) (fun i q l4 τ hk hI hq => ?_) (Nat.zero_le _) ⟨rfl, Fr.refl, fun k hk => by omega, fun k hk => by omega⟩
  obtain ⟨rfl, hF, h7, h8⟩ := hI
  unfold s_X7_spell_3
  simp (disch := omega) only [nI_le2, nI_ix]
  by_cases c : i < n
  · have hb := wr_bd hw v (hL i c)
    rw [if_neg (by omega), gd_n (by omega) (by omega), show rI τ a i = nI (L i) from (hF.I _ _ (by omega)).trans (ha i c), c_writtenFor hw (hcr τ hF) (hL i c), bd_some, gd_n (by omega) (by omega), gd_n (by omega) (by omega)]
    rw [rI_same, e_vowelOf (by omega), bd_some, gd_n (by omega) (by omega)]
    refine hq (i + 1) _ _ (by omega) (by omega) ⟨nI_1 i, (hF.w (Or.inr (Or.inl rfl))).w (Or.inr (Or.inr rfl)), fun k hk => ?_, fun k hk => ?_⟩
    · rw [rI_nk (by omega)]
      by_cases e : k = i
      · subst e; exact rI_same _ _ _ _
      · rw [rI_nj e]; exact h7 k (by omega)
    · by_cases e : k = i
      · subst e; exact rI_same _ _ _ _
      · rw [rI_nj e, rI_nk (by omega)]; exact h8 k (by omega)
  · have e : i = n := by omega
    subst e
    rw [if_pos (by omega)]
    exact A53 τ hF h7 h8
end SPC
