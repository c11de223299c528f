/-! a clause: the reference reads it -/
section CLM
variable {σ : jM} {n p q s y : Nat} {T : Nat → Nat}
theorem nI_nz3 {f : Nat} (h : f ≠ 0) (hf : f ≤ 3) : ¬ nI f = 0 := fun z => by have := (nI_eq2 (b := 0) (by omega) (by omega)).mp z; omega
theorem m_nx (hT : TPm n T σ) (h : TKm n T q σ) (hq : q ≤ n) : ok (f_X13_next σ) (fun _ τ => TKm n T (en n T q) τ ∧ Fr wmT σ τ) := m_next hT (en_le hq).2 h.2.1
theorem t442 (h : ¬ rI σ 324 21 = 0) : f_X13_readClause_442 σ = some ((), σ) := by
  unfold f_X13_readClause_442 f_X13_wantSign
  rw [e_isWell, bd_some, bI_neg h, if_pos rfl, bd_some]
theorem t244 (h : ¬ rI σ 324 21 = 0) (l : Int32) : f_X13_readClause_244 l σ = f_X13_readClause_442 σ := by
  unfold f_X13_readClause_244
  rw [e_isWell, bd_some, bI_neg h, if_pos rfl]
theorem t210 (h : ¬ rI σ 324 21 = 0) (l : Int32) : f_X13_readClause_210 l σ = f_X13_readClause_442 σ := by
  unfold f_X13_readClause_210
  rw [e_isWell, bd_some, bI_neg h, if_pos rfl, t244 h]
theorem t431 (h : ¬ rI σ 324 21 = 0) : f_X13_readClause_431 σ = f_X13_readClause_442 σ := by
  unfold f_X13_readClause_431
  rw [e_isWell, bd_some, bI_neg h, if_pos rfl]
theorem t370 (h : ¬ rI σ 324 21 = 0) (hy : y < 132) : f_X13_readClause_370 (nI y) σ = f_X13_readClause_442 (wI σ 334 y 97) := by
  unfold f_X13_readClause_370 f_X13_letterHere f_X13_letterHere_33 f_X13_letterHere_49
  have h2 : ¬ rI (wI σ 334 y 97) 324 21 = 0 := by rw [rI_nk (by omega)]; exact h
  rw [e_isWell, bd_some, bI_neg h, if_pos rfl, e_isWell, bd_some, bI_neg h, if_pos rfl, bd_some, gd_n hy (by omega)]
  simp (disch := omega) only [nI_ix]
  rw [e_isWell, bd_some, bI_neg h2, if_pos rfl, t431 h2]
theorem t359 (h : ¬ rI σ 324 21 = 0) (hy : y < 132) : f_X13_readClause_359 (nI y) σ = f_X13_readClause_442 (wI σ 334 y 97) := by
  unfold f_X13_readClause_359
  rw [e_isWell, bd_some, bI_neg h, if_pos rfl, t370 h hy]
theorem t321w (h : ¬ rI σ 324 21 = 0) (hy : y < 132) : f_X13_readClause_321 2 (nI y) σ = f_X13_readClause_442 (wI σ 334 y 97) := by
  unfold f_X13_readClause_321 f_X13_readClause_332
  rw [e_isWell, bd_some, bI_neg h, if_pos rfl, if_pos rfl, e_isWell, bd_some, bI_neg h, if_pos rfl, t359 h hy]
theorem t321d (h : ¬ rI σ 324 21 = 0) (l : Int32) : f_X13_readClause_321 3 l σ = f_X13_readClause_442 σ := by
  unfold f_X13_readClause_321 f_X13_readClause_332
  rw [e_isWell, bd_some, bI_neg h, if_pos rfl, if_neg (by decide)]
theorem numc_ne {lo hi : Nat} (h : ¬ (kdt n T p = 2 ∧ lo ≤ vvs n T (stt n T p) ∧ vvs n T (stt n T p) ≤ hi)) : numc n T p lo hi = if kdt n T p = 2 then 2 else 1 := by
  unfold numc
  by_cases c : kdt n T p = 2
  · rw [if_pos c, if_pos c, if_neg (fun z => h ⟨c, z⟩)]
  · rw [if_neg c, if_neg c]
abbrev wky (A y k j : Nat) : Prop := (k = 324 ∧ 17 ≤ j ∧ j ≤ 22) ∨ (k = A ∧ j = y)
theorem m_244 (hT : TPm n T σ) (h : TKm n T q σ) (hq : q ≤ n) (hwl : rI σ 324 21 = 0) (hS : SG σ) (hy : y < 132) (h5 : rI σ 335 y = nI 1) {Q : Unit → jM → Prop} (K : ∀ τ, SG τ → Fr (wky 335 y) σ τ → (((opR n T 8 1 99 1 q).1 = 0 ∧ rI τ 324 21 = 0 ∧ TKm n T (opR n T 8 1 99 1 q).2.1 τ ∧ rI τ 335 y = nI (opR n T 8 1 99 1 q).2.2) ∨ ((opR n T 8 1 99 1 q).1 ≠ 0 ∧ rI τ 324 21 = nI (opR n T 8 1 99 1 q).1 ∧ rI τ 324 22 = nI (opR n T 8 1 99 1 q).2.1)) → ok (f_X13_readClause_442 τ) Q) : ok (f_X13_readClause_244 (nI y) σ) Q := by
  have l1 := (en_le (T := T) hq).2
  unfold f_X13_readClause_244
  rw [e_isWell, bd_some, bI_pos hwl, if_neg (by decide), m_isWord hT h hq (by omega), bd_some, ite_bI]
  unfold opR at K
  by_cases c1 : isW n T q 8
  · rw [if_pos c1] at K ⊢
    refine ok_bd (m_nx hT h hq) (fun _ τ u => ?_)
    have hT1 : TPm n T τ := TPm_fr hT u.2 (by omega) (fun j => by omega)
    have hnum := m_number (lo := 1) (hi := 99) hT1 u.1 l1 ((u.2.I _ _ (by omega)).trans hwl) (by omega) (by omega)
    refine ok_bd hnum (fun r τ1 x => ?_)
    obtain ⟨x1, x2⟩ := x
    have hF1 : Fr (wky 335 y) σ τ1 := (u.2.mono (V := wky 335 y) (fun k j z => by omega)).trans (x1.mono (fun k j z => Or.inl z))
    have hS1 : SG τ1 := SG_fr (SG_fr hS u.2 (fun k j z => by omega)) x1 (fun k j z => by omega)
    rw [gd_n hy (by omega), nI_ix (by omega)]
    rcases x2 with ⟨a1, a2, a3, rfl, a5, a6⟩ | ⟨a1, rfl, a3, a4⟩
    · rw [if_pos (numc_0.mpr ⟨a1, a2, a3⟩)] at K
      exact K _ (SG_w hS1 (fun _ => nI_pos' (by omega)) (fun z => absurd z (by decide))) (Fr.w hF1 (Or.inr ⟨rfl, rfl⟩)) (Or.inl ⟨rfl, by rw [rI_nk (by omega)]; exact a5, TKm_fr a6 (fun j _ _ => rI_nk (by omega)), rI_same _ _ _ _⟩)
    · have hnz : ¬ numc n T (en n T q) 1 99 = 0 := fun z => a1 (numc_0.mp z)
      rw [if_neg hnz] at K
      rw [← numc_ne a1] at a3
      exact K _ (SG_w hS1 (fun _ => by decide) (fun z => absurd z (by decide))) (Fr.w hF1 (Or.inr ⟨rfl, rfl⟩)) (Or.inr ⟨hnz, by rw [rI_nk (by omega)]; exact a3, by rw [rI_nk (by omega)]; exact a4⟩)
  · rw [if_neg c1] at K ⊢
    exact K σ hS Fr.refl (Or.inl ⟨rfl, hwl, h, h5⟩)
theorem m_210 (hT : TPm n T σ) (h : TKm n T q σ) (hq : q ≤ n) (hwl : rI σ 324 21 = 0) (hS : SG σ) (hy : y < 132) (h5 : rI σ 334 y = nI 3) {Q : Unit → jM → Prop} (K : ∀ τ, SG τ → Fr (wky 334 y) σ τ → (((opR n T 7 2 6 3 q).1 = 0 ∧ rI τ 324 21 = 0 ∧ TKm n T (opR n T 7 2 6 3 q).2.1 τ ∧ rI τ 334 y = nI (opR n T 7 2 6 3 q).2.2) ∨ ((opR n T 7 2 6 3 q).1 ≠ 0 ∧ rI τ 324 21 = nI (opR n T 7 2 6 3 q).1 ∧ rI τ 324 22 = nI (opR n T 7 2 6 3 q).2.1)) → ok (f_X13_readClause_244 (nI y) τ) Q) : ok (f_X13_readClause_210 (nI y) σ) Q := by
  have l1 := (en_le (T := T) hq).2
  unfold f_X13_readClause_210
  rw [e_isWell, bd_some, bI_pos hwl, if_neg (by decide), m_isWord hT h hq (by omega), bd_some, ite_bI]
  unfold opR at K
  by_cases c1 : isW n T q 7
  · rw [if_pos c1] at K ⊢
    refine ok_bd (m_nx hT h hq) (fun _ τ u => ?_)
    have hT1 : TPm n T τ := TPm_fr hT u.2 (by omega) (fun j => by omega)
    have hnum := m_number (lo := 2) (hi := 6) hT1 u.1 l1 ((u.2.I _ _ (by omega)).trans hwl) (by omega) (by omega)
    refine ok_bd hnum (fun r τ1 x => ?_)
    obtain ⟨x1, x2⟩ := x
    have hF1 : Fr (wky 334 y) σ τ1 := (u.2.mono (V := wky 334 y) (fun k j z => by omega)).trans (x1.mono (fun k j z => Or.inl z))
    have hS1 : SG τ1 := SG_fr (SG_fr hS u.2 (fun k j z => by omega)) x1 (fun k j z => by omega)
    rw [gd_n hy (by omega), nI_ix (by omega)]
    rcases x2 with ⟨a1, a2, a3, rfl, a5, a6⟩ | ⟨a1, rfl, a3, a4⟩
    · rw [if_pos (numc_0.mpr ⟨a1, a2, a3⟩)] at K
      exact K _ (SG_w hS1 (fun _ => nI_pos' (by omega)) (fun z => absurd z (by decide))) (Fr.w hF1 (Or.inr ⟨rfl, rfl⟩)) (Or.inl ⟨rfl, by rw [rI_nk (by omega)]; exact a5, TKm_fr a6 (fun j _ _ => rI_nk (by omega)), rI_same _ _ _ _⟩)
    · have hnz : ¬ numc n T (en n T q) 2 6 = 0 := fun z => a1 (numc_0.mp z)
      rw [if_neg hnz] at K
      rw [← numc_ne a1] at a3
      exact K _ (SG_w hS1 (fun _ => by decide) (fun z => absurd z (by decide))) (Fr.w hF1 (Or.inr ⟨rfl, rfl⟩)) (Or.inr ⟨hnz, by rw [rI_nk (by omega)]; exact a3, by rw [rI_nk (by omega)]; exact a4⟩)
  · rw [if_neg c1] at K ⊢
    exact K σ hS Fr.refl (Or.inl ⟨rfl, hwl, h, h5⟩)
/-- what the reference has of a clause -/
def CDm (y kd : Nat) (X : Nat × Nat × Nat) (τ : jM) : Prop := rI τ 333 y = nI X.1 ∧ (kd < 2 → rI τ 334 y = nI X.2.1 ∧ rI τ 335 y = nI X.2.2) ∧ (kd = 2 → rI τ 334 y = nI X.2.1)
abbrev wrc (y k j : Nat) : Prop := (k = 324 ∧ 17 ≤ j ∧ j ≤ 22) ∨ (333 ≤ k ∧ k ≤ 335 ∧ j = y)
def PSm (n : Nat) (T : Nat → Nat) (y kd : Nat) (R : Nat × Nat × Nat × Nat × Nat) (σ τ : jM) : Prop := SG τ ∧ Fr (wrc y) σ τ ∧ ((R.1 = 0 ∧ rI τ 324 21 = 0 ∧ TKm n T R.2.1 τ ∧ CDm y kd R.2.2 τ) ∨ (R.1 ≠ 0 ∧ rI τ 324 21 = nI R.1 ∧ rI τ 324 22 = nI R.2.1))
/-- behind the where: the two options -/
theorem m_shTail (hT : TPm n T σ) (hS0 : SG σ) {τ : jM} (hF : Fr (wrc y) σ τ) (hS : SG τ) (hy : 120 ≤ y ∧ y < 132) {kd : Nat} (hk : kd < 2) (h4 : rI τ 334 y = nI 3) (h5 : rI τ 335 y = nI 1) (hq : q ≤ n) (hW : ((whR n T q).1 = 0 ∧ rI τ 324 21 = 0 ∧ TKm n T (whR n T q).2.1 τ ∧ rI τ 333 y = nI (whR n T q).2.2) ∨ ((whR n T q).1 ≠ 0 ∧ rI τ 324 21 = nI (whR n T q).1 ∧ rI τ 324 22 = nI (whR n T q).2.1 ∧ (whR n T q).1 ≤ 3)) {Q : Unit → jM → Prop} (K : ∀ τ, PSm n T y kd (shR n T q) σ τ → ok (f_X13_readClause_442 τ) Q) : ok (f_X13_readClause_210 (nI y) τ) Q := by
  have ocd : ∀ w lo hi df q, (opR n T w lo hi df q).1 ≤ 3 := fun w lo hi df q => by
    unfold opR
    split
    · split
      · exact Nat.zero_le _
      · exact Nat.le_trans (numc_le _ _ _) (by decide)
    · exact Nat.zero_le _
  unfold PSm shR at K
  rcases hW with ⟨a1, a2, a3, a4⟩ | ⟨a1, a2, a3, a5⟩
  · rw [if_pos a1] at K
    obtain ⟨w1, w2⟩ := whR_ok hq a1
    have hT1 : TPm n T τ := TPm_fr hT hF (by omega) (fun j => by omega)
    refine m_210 hT1 a3 w1 a2 hS hy.2 h4 (fun τ2 s2 f2 o2 => ?_)
    have hF2 : Fr (wrc y) σ τ2 := hF.trans (f2.mono (fun k j z => by omega))
    rcases o2 with ⟨b1, b2, b3, b4⟩ | ⟨b1, b2, b3⟩
    · rw [if_pos b1] at K
      obtain ⟨o1, -, -⟩ := opR_ok (by omega) w1 b1
      have hT2 : TPm n T τ2 := TPm_fr hT hF2 (by omega) (fun j => by omega)
      refine m_244 hT2 b3 o1 b2 s2 hy.2 (by rw [f2.I _ _ (by omega)]; exact h5) (fun τ3 s3 f3 o3 => ?_)
      have hF3 : Fr (wrc y) σ τ3 := hF2.trans (f3.mono (fun k j z => by omega))
      rcases o3 with ⟨d1, d2, d3, d4⟩ | ⟨d1, d2, d3⟩
      · rw [if_pos d1] at K
        refine K τ3 ⟨s3, hF3, Or.inl ⟨rfl, d2, d3, ?_, fun _ => ⟨?_, d4⟩, fun z => by omega⟩⟩
        · rw [f3.I _ _ (by omega), f2.I _ _ (by omega)]; exact a4
        · rw [f3.I _ _ (by omega)]; exact b4
      · rw [if_neg d1] at K
        exact K τ3 ⟨s3, hF3, Or.inr ⟨d1, d2, d3⟩⟩
    · rw [if_neg b1] at K
      rw [t244 (by rw [b2]; exact nI_nz3 b1 (ocd _ _ _ _ _))]
      exact K τ2 ⟨s2, hF2, Or.inr ⟨b1, b2, b3⟩⟩
  · rw [if_neg a1] at K
    rw [t210 (by rw [a2]; exact nI_nz3 a1 a5)]
    exact K τ ⟨hS, hF, Or.inr ⟨a1, a2, a3⟩⟩
end CLM
