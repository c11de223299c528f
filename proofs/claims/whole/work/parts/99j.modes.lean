/-! THE SEARCH: what the reference does at each way -/
section MODES
variable {D : dD} {σ : jM} {v : Nat} {e : seT} {K : Nat → Nat} {n : Nat}
theorem lct_1 (s c : Nat) (L : List (gF × gF)) (x : gF × gF) : lct s c (L ++ [x]) = lct s c L + if x.1 s = c then 1 else 0 := by
  unfold lct
  rw [List.countP_append]
  congr 1
  rw [List.countP_cons, List.countP_nil, Nat.zero_add]
  by_cases h : x.1 s = c
  · rw [if_pos h, if_pos (decide_eq_true h)]
  · rw [if_neg h, if_neg (fun z => h (of_decide_eq_true z))]
def J0 (L : List (gF × gF)) (τ : jM) : Prop := rI τ 324 68 = nI L.length ∧ ∀ s, s < 40 → ∀ c, c ≤ 135 → rI τ 372 (136 * s + c) = nI (lct s c L)
theorem J0_st : ∀ L τ τ', J0 L τ → Fr (fun k _ => k = 368 ∨ k = 369) τ τ' → J0 L τ' := fun L τ τ' h hF => ⟨(hF.I _ _ (by omega)).trans h.1, fun s hs c hc => (hF.I _ _ (by omega)).trans (h.2 s hs c hc)⟩
theorem m_meets0 {L : List (gF × gF)} {g r : gF} {a2 : Int32} (hn : n ≤ 7) (h64 : rI σ 324 64 = nI n) (hg : MG n g σ) (hJ : J0 L σ) : ok (f_X13_meets 0 a2 σ) (fun ret τ' => Fr wme σ τ' ∧ ((ret = 1 ∧ J0 (L ++ [(g, r)]) τ') ∨ (ret = 0 ∧ False))) := by
  unfold f_X13_meets
  rw [if_pos rfl]
  simp (disch := omega) only [rI_nj]
  rw [h64, li40, pk_mul, hJ.1, nI_1]
  refine L_X13_meets_25 40 (fun s l4 τ => l4 = nI s ∧ Fr wme σ τ ∧ rI τ 324 68 = nI (L.length + 1) ∧ (∀ s', s' < s → ∀ c, c ≤ 135 → rI τ 372 (136 * s' + c) = nI (lct s' c (L ++ [(g, r)]))) ∧ (∀ s', s ≤ s' → s' < 40 → ∀ c, c ≤ 135 → rI τ 372 (136 * s' + c) = nI (lct s' c L)) ∧ MG n g τ) (by omega) (fun s p l4 τ hk hI hp => ?_) (Nat.zero_le _) ⟨rfl, Fr.w Fr.refl (Or.inl ⟨rfl, rfl⟩), rI_same _ _ _ _, fun s' hs' => by omega, fun s' _ hs' c hc => by rw [rI_nk (by omega)]; exact hJ.2 s' hs' c hc, MG_fr hg (fun j _ _ => rI_nk (by omega))⟩
  obtain ⟨rfl, hF, e68, hA, hB, hg⟩ := hI
  unfold s_X13_meets_25 f_X13_meets_70 f_X13_meets_179 f_X13_meets_189
  rw [li40, li136]
  simp (disch := omega) only [pk_mul, nI_add]
  rw [ite_iff (nI_le2 (by omega) (by omega))]
  by_cases cs : s < 40
  · obtain ⟨u1, u2⟩ := hg s cs
    rw [if_neg (by omega), gd_n (by omega) (by omega)]
    simp (disch := omega) only [nI_ix]
    rw [u1]
    have fin : ok (gd (inb (nI (136 * s) + nI (g s)) 5440) (gd (inb (nI (136 * s) + nI (g s)) 5440) (p 0 (nI (40 * n)) (nI s + 1) (wI τ 372 (Int32.toNatClampNeg (nI (136 * s) + nI (g s))) (rI τ 372 (Int32.toNatClampNeg (nI (136 * s) + nI (g s))) + 1))))) (fun ret τ' => Fr wme σ τ' ∧ ((ret = 1 ∧ J0 (L ++ [(g, r)]) τ') ∨ (ret = 0 ∧ False))) := by
      rw [nI_add, gd_n (by omega) (by omega), gd_n (by omega) (by omega), nI_ix (by omega)]
      refine hp (s + 1) _ _ (by omega) (by omega) ⟨nI_1 s, Fr.w hF (Or.inr (Or.inl (by omega))), by rw [rI_nk (by omega)]; exact e68, fun s' hs' c hc => ?_, fun s' h1 h2 c hc => ?_, MG_fr hg (fun j _ _ => rI_nk (by omega))⟩
      · by_cases es : s' = s
        · subst es
          by_cases ec : g s' = c
          · subst ec
            rw [rI_same, hB s' (Nat.le_refl _) cs _ hc, lct_1, if_pos (show (g, r).1 s' = g s' from rfl), nI_1]
          · rw [rI_nj (by omega), hB s' (Nat.le_refl _) cs c hc, lct_1, if_neg (show ¬ (g, r).1 s' = c from ec), Nat.add_zero]
        · rw [rI_nj (by omega)]
          exact hA s' (by omega) c hc
      · rw [rI_nj (by omega)]
        exact hB s' (by omega) h2 c hc
    refine ok_ite (fun z => ?_) (fun z => ?_)
    · have z := (gz_m1 (by omega)).mp z
      rw [z] at fin
      exact fin
    · have z : g s ≠ 135 := fun y => z ((gz_m1 (by omega)).mpr y)
      rw [gd_n (by omega) (by omega), gz_n z]
      exact fin
  · have es : s = 40 := by omega
    subst es
    rw [if_pos (by omega), if_neg (by decide), gd_T2]
    exact ok_ret ⟨hF, Or.inl ⟨rfl, by rw [List.length_append]; exact e68, fun s' hs' c hc => hA s' hs' c hc⟩⟩
/-! one -/
def J1 (L : List (gF × gF)) (τ : jM) : Prop := rI τ 324 68 = 0 ∧ L = []
theorem m_meets1 {L : List (gF × gF)} {x : gF × gF} {a2 : Int32} (hJ : J1 L σ) : ok (f_X13_meets 1 a2 σ) (fun ret τ' => Fr wme σ τ' ∧ ((ret = 1 ∧ J1 (L ++ [x]) τ') ∨ (ret = 0 ∧ rI τ' 324 68 = 1))) := by
  unfold f_X13_meets f_X13_meets_169 f_X13_meets_179 f_X13_meets_189
  rw [if_neg (by decide), if_neg (by decide), if_neg (by decide), if_pos rfl, gd_0, hJ.1]
  exact ok_ret ⟨Fr.w Fr.refl (Or.inl ⟨rfl, rfl⟩), Or.inr ⟨rfl, rI_same _ _ _ _⟩⟩
/-! with a new one -/
def J6 (L : List (gF × gF)) (τ : jM) : Prop := rI τ 324 68 = nI L.length
theorem m_meets6 {L : List (gF × gF)} {x : gF × gF} {a2 : Int32} (hJ : J6 L σ) : ok (f_X13_meets 6 a2 σ) (fun ret τ' => Fr wme σ τ' ∧ ((ret = 1 ∧ J6 (L ++ [x]) τ') ∨ (ret = 0 ∧ False))) := by
  unfold f_X13_meets f_X13_meets_169 f_X13_meets_179 f_X13_meets_189
  have hJ : rI σ 324 68 = nI L.length := hJ
  rw [if_neg (by decide), if_neg (by decide), if_neg (by decide), if_neg (by decide), gd_1, hJ, nI_1]
  exact ok_ret ⟨Fr.w Fr.refl (Or.inl ⟨rfl, rfl⟩), Or.inl ⟨rfl, by show rI _ 324 68 = _; rw [rI_same, List.length_append]; rfl⟩⟩
/-! all ways -/
noncomputable def WW (D : dD) (v a : Nat) : List (gF × gF) := lvs D v (ese D v a) (nse D v a) 0 g0 r0
abbrev wfa (k j : Nat) : Prop := wtk k j ∨ wG k j
theorem wfa_scr {k j : Nat} (h : wfa k j) : scr k j := by
  rcases h with (h | h | h) | h | h
  · exact wlks_scr h
  · exact Or.inl (by omega)
  · exact Or.inr (Or.inr (Or.inr (Or.inr (Or.inr (Or.inr (Or.inr (Or.inr (Or.inr (Or.inr (Or.inr (by omega)))))))))))
  · exact Or.inr (Or.inr (Or.inr (Or.inr (Or.inr (Or.inr (Or.inr (Or.inr (Or.inr (Or.inr (Or.inr (by omega)))))))))))
  · exact Or.inl (by omega)
theorem m_findAll (hw : DW D) (hM : MD D σ) (hv : v ≤ 100000) : ok (f_X13_findAll (nI v) σ) (fun _ τ => J0 (WW D v 0) τ ∧ MD D τ ∧ (∀ s, s < 40 → rI τ 343 s = nI (std D v s)) ∧ Fr wfa σ τ) := by
  unfold f_X13_findAll
  refine ok_bd (m_takes hw hM (a := 0) (by omega) hv) (fun _ τ1 t => ?_)
  obtain ⟨hX, hF1⟩ := t
  refine L_X13_findAll_8 5440 (fun j l2 τ => l2 = nI j ∧ Fr (fun k _ => k = 372) τ1 τ ∧ ∀ j', j' < j → rI τ 372 j' = 0) (by omega) (fun j p l2 τ hk hI hp => ?_) (Nat.zero_le _) ⟨rfl, Fr.refl, fun j' hj' => by omega⟩
  obtain ⟨rfl, hF, hZ⟩ := hI
  unfold s_X13_findAll_8
  rw [show (5440 : Int32) = nI 5440 from rfl, ite_iff (nI_le2 (by omega) (by omega))]
  by_cases cj : j < 5440
  · rw [if_neg (by omega), gd_n (by omega) (by omega), nI_ix (by omega)]
    refine hp (j + 1) _ _ (by omega) (by omega) ⟨nI_1 j, Fr.w hF rfl, fun j' hj' => ?_⟩
    by_cases ej : j' = j
    · subst ej; exact rI_same _ _ _ _
    · rw [rI_nj ej]; exact hZ j' (by omega)
  · rw [if_pos (by omega)]
    have hX2 : MX D v (ese D v 0) (nmo D v 0) (nse D v 0) τ := MX_fr hX (hF.mono (fun k j z => by omega))
    refine ok_bd (m_goesThrough hw J0 (fun _ _ _ => False) J0_st (fun L g r τ' h1 h2 h3 h4 h5 => m_meets0 h1.2.2.1 h1.2.2.2.1 h2 h5) hX2 ⟨rI_same _ _ _ _, fun s hs c hc => by rw [rI_nk (by omega), hZ _ (by omega)]; rfl⟩) (fun _ τ2 t => ?_)
    obtain ⟨t1, t2⟩ := t
    have hX3 := MX_fr hX2 t1
    rcases t2 with t2 | ⟨_, _, _, _, t2⟩
    · exact ok_ret ⟨t2, hX3.1, hX3.2.1.1, ((hF1.mono (V := wfa) (fun k j z => Or.inl z)).trans (hF.mono (fun k j z => Or.inr (by omega)))).trans (t1.mono (fun k j z => Or.inr z))⟩
    · exact t2.elim
end MODES
