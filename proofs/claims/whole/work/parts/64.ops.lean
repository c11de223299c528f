/-! THE CALLS THAT TELL OR ASK LITTLE -/
section OPS
variable {K : dD → Nat → jM → Prop} {σ : jM}
theorem TD_thr (h : TD σ) (x : Int32) : TD (wI σ 324 0 x) := h
theorem Inv_thr (hK : KX K) (h : Inv K σ) (x : Int32) : Inv K (wI σ 324 0 x) :=
  Inv_keep hK h (fun k j hp => rI_ne (fun e1 e2 => by omega)) (fun k j a b => ⟨rI_nk (by omega), rfl⟩) (fun j => rI_nk (by decide)) rfl rfl (TD_thr h.2.2.2.1 x) (Int32.le_refl _)
/-! what was told, by sorts: each stays where its cells do -/
abbrev ivT (k j : Nat) : Prop := (k = 324 ∧ j = 2) ∨ ((k = 325 ∨ k = 326 ∨ k = 327) ∧ j < 24) ∨ (k = 328 ∧ j < 192) ∨ (k = 329 ∧ j < 1152) ∨ (k = 3 ∧ j = 2) ∨ (28 ≤ k ∧ k ≤ 99)
abbrev ivR (k j : Nat) : Prop := (k = 324 ∧ j = 8) ∨ ((k = 330 ∨ k = 331) ∧ j < 10) ∨ ((332 ≤ k ∧ k ≤ 335) ∧ j < 120) ∨ (k = 3 ∧ j = 4) ∨ (k = 19 ∧ j = 1) ∨ (100 ≤ k ∧ k ≤ 189 ∧ (k - 100) % 9 ≠ 7 ∧ (k - 100) % 9 ≠ 8)
abbrev ivH (k j : Nat) : Prop := (k = 324 ∧ j = 25) ∨ (k = 337 ∧ j < 4) ∨ ((338 ≤ k ∧ k ≤ 342) ∧ j < 200) ∨ (k = 8 ∧ j = 1) ∨ (9 ≤ k ∧ k ≤ 14)
abbrev ivS (k j : Nat) : Prop := (k = 324 ∧ j = 32) ∨ ((344 ≤ k ∧ k ≤ 349) ∧ j < 60) ∨ (k = 3 ∧ j = 6) ∨ (190 ≤ k ∧ k ≤ 249)
abbrev ivN (k j : Nat) : Prop := (k = 324 ∧ j = 55) ∨ ((k = 359 ∨ (361 ≤ k ∧ k ≤ 363)) ∧ j < 6) ∨ (k = 360 ∧ j < 48) ∨ (k = 3 ∧ j = 8) ∨ (250 ≤ k ∧ k ≤ 261)
theorem dm_cp {σ τ : jM} {k : Nat} (h : ∀ j, pers k j → rI τ k j = rI σ k j) : dm τ k = dm σ k := by
  funext j
  unfold dm
  by_cases hp : pers k j
  · rw [if_pos hp, if_pos hp, h j hp]
  · rw [if_neg hp, if_neg hp]
theorem keepT {τ : jM} (h : ∀ k j, ivT k j → rI τ k j = rI σ k j) (g : DWt (dm σ) ∧ CDt (dm σ) σ) : DWt (dm τ) ∧ CDt (dm τ) τ := by
  have h0 : dm τ 324 2 = dm σ 324 2 := dm_pt (h _ _ (by omega))
  have h5 : dm τ 325 = dm σ 325 := dm_cp (fun j hp => h _ _ (by omega))
  have h6 : dm τ 326 = dm σ 326 := dm_cp (fun j hp => h _ _ (by omega))
  have h7 : dm τ 327 = dm σ 327 := dm_cp (fun j hp => h _ _ (by omega))
  have h8 : dm τ 328 = dm σ 328 := dm_cp (fun j hp => h _ _ (by omega))
  have h9 : dm τ 329 = dm σ 329 := dm_cp (fun j hp => h _ _ (by omega))
  exact ⟨DWt_eq h0 h5 h6 h7 h8 h9 g.1, CDt_eq g.1 h0 h5 h6 h7 h8 h9 (h _ _ (by omega)) (fun k j a b => h k j (by omega)) g.2⟩
theorem keepR {τ : jM} (h : ∀ k j, ivR k j → rI τ k j = rI σ k j) (g : DWr (dm σ) ∧ CDr (dm σ) σ) : DWr (dm τ) ∧ CDr (dm τ) τ := by
  have h0 : dm τ 324 8 = dm σ 324 8 := dm_pt (h _ _ (by omega))
  have h1 : dm τ 330 = dm σ 330 := dm_cp (fun j hp => h _ _ (by omega))
  have h2 : dm τ 331 = dm σ 331 := dm_cp (fun j hp => h _ _ (by omega))
  have h3 : dm τ 332 = dm σ 332 := dm_cp (fun j hp => h _ _ (by omega))
  have h4 : dm τ 333 = dm σ 333 := dm_cp (fun j hp => h _ _ (by omega))
  have h5 : dm τ 334 = dm σ 334 := dm_cp (fun j hp => h _ _ (by omega))
  have h6 : dm τ 335 = dm σ 335 := dm_cp (fun j hp => h _ _ (by omega))
  exact ⟨DWr_eq h0 h1 h2 h3 h4 h5 h6 g.1, CDr_eq g.1 h0 h1 h2 h3 h4 h5 h6 (h _ _ (by omega)) (h _ _ (by omega)) (fun k j a b i => h _ _ (by omega)) g.2⟩
theorem keepH {τ : jM} (h : ∀ k j, ivH k j → rI τ k j = rI σ k j) (g : DWh (dm σ) ∧ CDh (dm σ) σ) : DWh (dm τ) ∧ CDh (dm τ) τ := by
  have h0 : dm τ 324 25 = dm σ 324 25 := dm_pt (h _ _ (by omega))
  have h7 : dm τ 337 = dm σ 337 := dm_cp (fun j hp => h _ _ (by omega))
  have h1 : dm τ 338 = dm σ 338 := dm_cp (fun j hp => h _ _ (by omega))
  have h2 : dm τ 339 = dm σ 339 := dm_cp (fun j hp => h _ _ (by omega))
  have h3 : dm τ 340 = dm σ 340 := dm_cp (fun j hp => h _ _ (by omega))
  have h4 : dm τ 341 = dm σ 341 := dm_cp (fun j hp => h _ _ (by omega))
  have h5 : dm τ 342 = dm σ 342 := dm_cp (fun j hp => h _ _ (by omega))
  exact ⟨DWh_eq h0 h7 h1 h2 h3 h4 h5 g.1, CDh_eq h0 h7 h1 h2 h3 h4 h5 (h _ _ (by omega)) (fun k j a b => h k j (by omega)) g.2⟩
theorem keepS {τ : jM} (h : ∀ k j, ivS k j → rI τ k j = rI σ k j) (g : DWs (dm σ) ∧ CDs (dm σ) σ) : DWs (dm τ) ∧ CDs (dm τ) τ := by
  have h0 : dm τ 324 32 = dm σ 324 32 := dm_pt (h _ _ (by omega))
  have h1 : dm τ 344 = dm σ 344 := dm_cp (fun j hp => h _ _ (by omega))
  have h2 : dm τ 345 = dm σ 345 := dm_cp (fun j hp => h _ _ (by omega))
  have h3 : dm τ 346 = dm σ 346 := dm_cp (fun j hp => h _ _ (by omega))
  have h4 : dm τ 347 = dm σ 347 := dm_cp (fun j hp => h _ _ (by omega))
  have h5 : dm τ 348 = dm σ 348 := dm_cp (fun j hp => h _ _ (by omega))
  have h6 : dm τ 349 = dm σ 349 := dm_cp (fun j hp => h _ _ (by omega))
  exact ⟨DWs_eq h0 h1 h2 h3 h4 h5 h6 g.1, CDs_eq g.1 h0 h1 h2 h3 h4 h5 h6 (h _ _ (by omega)) (fun k j a b => h k j (by omega)) g.2⟩
theorem keepN {τ : jM} (h : ∀ k j, ivN k j → rI τ k j = rI σ k j) (h2 : dm σ 324 2 ≤ dm τ 324 2) (g : DWn (dm σ) ∧ CDn (dm σ) σ) : DWn (dm τ) ∧ CDn (dm τ) τ := by
  have h0 : dm τ 324 55 = dm σ 324 55 := dm_pt (h _ _ (by omega))
  have h1 : dm τ 359 = dm σ 359 := dm_cp (fun j hp => h _ _ (by omega))
  have h3 : dm τ 360 = dm σ 360 := dm_cp (fun j hp => h _ _ (by omega))
  have h4 : dm τ 361 = dm σ 361 := dm_cp (fun j hp => h _ _ (by omega))
  have h5 : dm τ 362 = dm σ 362 := dm_cp (fun j hp => h _ _ (by omega))
  have h6 : dm τ 363 = dm σ 363 := dm_cp (fun j hp => h _ _ (by omega))
  exact ⟨DWn_eq h0 h2 h1 h3 h4 h5 h6 g.1, CDn_eq g.1 h0 h1 h3 h4 h5 h6 (h _ _ (by omega)) (fun k j a b => h k j (by omega)) g.2⟩
theorem Inv_mut {τ : jM} (hM : MI τ) (ht : DWt (dm τ) ∧ CDt (dm τ) τ) (hr : DWr (dm τ) ∧ CDr (dm τ) τ) (hh : DWh (dm τ) ∧ CDh (dm τ) τ) (hs : DWs (dm τ) ∧ CDs (dm τ) τ) (hn : DWn (dm τ) ∧ CDn (dm τ) τ) (hT : TD τ) (hv : rI τ 3 10 = -1) : Inv K τ :=
  ⟨hM, ⟨ht.1, hr.1, hh.1, hs.1, hn.1⟩, ⟨ht.2, hr.2, hh.2, hs.2, hn.2⟩, hT, Or.inl hv⟩
theorem gT (h : Inv K σ) : DWt (dm σ) ∧ CDt (dm σ) σ := ⟨h.2.1.1, h.2.2.1.1⟩
theorem gR (h : Inv K σ) : DWr (dm σ) ∧ CDr (dm σ) σ := ⟨h.2.1.2.1, h.2.2.1.2.1⟩
theorem gH (h : Inv K σ) : DWh (dm σ) ∧ CDh (dm σ) σ := ⟨h.2.1.2.2.1, h.2.2.1.2.2.1⟩
theorem gS (h : Inv K σ) : DWs (dm σ) ∧ CDs (dm σ) σ := ⟨h.2.1.2.2.2.1, h.2.2.1.2.2.2.1⟩
theorem gN (h : Inv K σ) : DWn (dm σ) ∧ CDn (dm σ) σ := ⟨h.2.1.2.2.2.2, h.2.2.1.2.2.2.2⟩
theorem op_mk {F : Option (Int32 × jM)} {G : jM → Option (Int32 × jM)} {Q : Int32 → jM → Prop} {P : jM → Prop} (h1 : ok F Q) (h2 : ∀ r σ1, Q r σ1 → ok (G σ1) (fun r' σ' => r' = r ∧ P σ')) : ∃ σ', (∃ (r : Int32) (σ1 : jM), F = some (r, σ1) ∧ G σ1 = some (r, σ')) ∧ P σ' := by
  obtain ⟨r, σ1, e1, hq⟩ := h1
  obtain ⟨r', σ', e2, rfl, hp⟩ := h2 r σ1 hq
  exact ⟨σ', ⟨r', σ1, e1, e2⟩, hp⟩
theorem op_day (hK : KX K) (h : Inv K σ) (a1 a2 a3 a4 a5 : Int32) : ∃ σ', lw_op 0 a1 a2 a3 a4 a5 σ σ' ∧ Inv K σ' := by
  obtain ⟨d, hd, e1, e2⟩ := h.2.2.2.1.1
  by_cases c : 0 ≤ a1 ∧ a1 ≤ 1000
  · obtain ⟨n, hn, rfl⟩ := i_le (n := 1000) c.1 c.2 (by omega)
    by_cases c2 : d + n ≤ 100000
    · have g1 : rI σ 3 0 + nI n ≤ 100000 := by rw [e2, nI_add]; exact (nI_le2 (b := 100000) (by omega) (by omega)).mpr c2
      refine ⟨wI (wI (wI σ 3 0 (rI σ 3 0 + nI n)) 324 0 0) 324 1 (rI σ 3 0 + nI n), ⟨rI σ 3 0 + nI n, wI σ 3 0 (rI σ 3 0 + nI n), ?_, ?_⟩, ?_⟩
      · unfold f_X12_day
        rw [if_neg (i_nlt.mpr c.1), if_neg (i_nlt.mpr c.2), if_pos g1]
        rfl
      · unfold f_X13_day
        rw [e_within, bd_some, ite_bI, if_pos c]
        show (if rI σ 324 1 + nI n ≤ 100000 then _ else _) = _
        rw [e1, ← e2, if_pos g1]
        show some (rI σ 324 1 + nI n, wI _ 324 1 (rI σ 324 1 + nI n)) = _
        rw [show rI σ 324 1 = rI σ 3 0 from e1.trans e2.symm]
      · refine Inv_keep hK h (fun k j hp => (rI_ne (fun x y => by omega)).trans ((rI_ne (fun x y => by omega)).trans (rI_ne (fun x y => by omega)))) (fun k j a b => ⟨(rI_nk (by omega)).trans ((rI_nk (by omega)).trans (rI_nk (by omega))), rfl⟩) (fun j => rfl) rfl rfl ?_ ?_
        · refine ⟨⟨d + n, c2, ?_, ?_⟩, h.2.2.2.1.2⟩
          · show rI σ 3 0 + nI n = _
            rw [e2, nI_add]
          · show rI σ 3 0 + nI n = _
            rw [e2, nI_add]
        · show rI σ 3 0 ≤ rI σ 3 0 + nI n
          rw [e2, nI_add]
          exact (nI_le2 (by omega) (by omega)).mpr (by omega)
    · have g1 : ¬ rI σ 3 0 + nI n ≤ 100000 := by rw [e2, nI_add]; exact fun z => c2 ((nI_le2 (b := 100000) (by omega) (by omega)).mp z)
      refine ⟨_, ⟨-1, σ, ?_, ?_⟩, Inv_thr hK h 0⟩
      · unfold f_X12_day f_X12_day_25
        rw [if_neg (i_nlt.mpr c.1), if_neg (i_nlt.mpr c.2), if_neg g1]
      · unfold f_X13_day f_X13_day_27
        rw [e_within, bd_some, ite_bI, if_pos c]
        show (if rI σ 324 1 + nI n ≤ 100000 then _ else _) = _
        rw [e1, ← e2, if_neg g1]
  · refine ⟨_, ⟨-1, σ, ?_, ?_⟩, Inv_thr hK h 0⟩
    · unfold f_X12_day f_X12_day_25
      by_cases c1 : a1 < 0
      · rw [if_pos c1]
      · rw [if_neg c1, if_pos (i_nle.mp (fun z => c ⟨i_nlt.mp c1, z⟩))]
    · unfold f_X13_day f_X13_day_27
      rw [e_within, bd_some, ite_bI, if_neg c]
theorem op_end (hK : KX K) (h : Inv K σ) (a1 a2 a3 a4 a5 : Int32) : ∃ σ', lw_op 2 a1 a2 a3 a4 a5 σ σ' ∧ Inv K σ' := by
  obtain ⟨n, hn, e1, e2, e3⟩ := h.2.2.2.1.2.1
  by_cases c1 : a1 < 0
  · refine ⟨_, ⟨-1, σ, ?_, ?_⟩, Inv_thr hK h 0⟩
    · unfold f_X12_end; rw [if_pos c1]; rfl
    · unfold f_X13_end; rw [if_pos c1]; rfl
  · by_cases c2 : a1 ≤ nI n
    · obtain ⟨m, hm, rfl⟩ := i_le (i_nlt.mp c1) c2 (by omega)
      refine ⟨wI (wI (wI σ 262 1 (nI m)) 324 0 0) 324 16 (nI m), ⟨nI m, wI σ 262 1 (nI m), ?_, ?_⟩, ?_⟩
      · unfold f_X12_end; rw [if_neg c1, e2, if_pos c2]
      · unfold f_X13_end; rw [if_neg c1]
        show (if nI m ≤ rI σ 324 16 then _ else _) = _
        rw [e1, if_pos c2]
      · refine Inv_keep hK h (fun k j hp => (rI_ne (fun x y => by omega)).trans ((rI_ne (fun x y => by omega)).trans (rI_ne (fun x y => by omega)))) (fun k j a b => ⟨(rI_nk (by omega)).trans ((rI_nk (by omega)).trans (rI_nk (by omega))), rfl⟩) (fun j => rfl) rfl rfl ?_ (Int32.le_refl _)
        exact ⟨h.2.2.2.1.1, ⟨m, by omega, rfl, rfl, fun j hj => e3 j (by omega)⟩, h.2.2.2.1.2.2⟩
    · refine ⟨_, ⟨-1, σ, ?_, ?_⟩, Inv_thr hK h 0⟩
      · unfold f_X12_end; rw [if_neg c1, e2, if_neg c2]; rfl
      · unfold f_X13_end; rw [if_neg c1]
        show (if a1 ≤ rI σ 324 16 then _ else _) = _
        rw [e1, if_neg c2]; rfl
theorem op_place (hK : KX K) (h : Inv K σ) (a1 a2 a3 a4 a5 : Int32) : ∃ σ', lw_op 5 a1 a2 a3 a4 a5 σ σ' ∧ Inv K σ' :=
  ⟨_, ⟨rI σ 262 3, σ, rfl, by rw [h.2.2.2.1.2.2.1]; rfl⟩, Inv_thr hK h 0⟩
theorem nI_sub1 {n : Nat} {a : Int32} (hn : n < 2147483648) : (0 ≤ a ∧ a ≤ nI n - 1) ↔ (0 ≤ a ∧ a < nI n) := by
  refine ⟨fun z => ⟨z.1, ?_⟩, fun z => ⟨z.1, ?_⟩⟩
  · obtain ⟨m, hm, rfl⟩ := i_of z.1
    rcases Nat.eq_zero_or_pos n with h0 | h0
    · subst h0
      have := (Int32.le_iff_toInt_le).mp z.2
      rw [nI_toInt (by omega), show (nI 0 - 1).toInt = -1 by decide] at this
      omega
    · have e : nI n - 1 = nI (n - 1) := pk_sub (b := 1) h0
      rw [e] at z
      exact (nI_lt2 hm hn).mpr (by have := (nI_le2 hm (by omega)).mp z.2; omega)
  · obtain ⟨m, hm, rfl⟩ := i_of z.1
    have h1 := (nI_lt2 hm hn).mp z.2
    have e : nI n - 1 = nI (n - 1) := pk_sub (b := 1) (by omega)
    rw [e]
    exact (nI_le2 hm (by omega)).mpr (by omega)
theorem op_letter (hK : KX K) (h : Inv K σ) (a1 a2 a3 a4 a5 : Int32) : ∃ σ', lw_op 25 a1 a2 a3 a4 a5 σ σ' ∧ Inv K σ' := by
  obtain ⟨n, hn, e1, e2, e3⟩ := h.2.2.2.1.2.2.2
  have M : f_X13_letter a1 σ = some (if 0 ≤ a1 ∧ a1 < nI n then rI σ 374 (Int32.toNatClampNeg a1) else -1, wI σ 324 0 0) := by
    unfold f_X13_letter f_X13_letter_29
    rw [e_within, bd_some, ite_bI]
    show (if 0 ≤ a1 ∧ a1 ≤ rI σ 324 75 - 1 then _ else _) = _
    rw [e1]
    by_cases c : 0 ≤ a1 ∧ a1 < nI n
    · obtain ⟨m, hm, rfl⟩ := i_lt c.1 c.2 (by omega)
      rw [if_pos ((nI_sub1 (by omega)).mpr c), if_pos c, gd_pos (nI_inb (by omega) (by omega))]
      rfl
    · rw [if_neg (fun z => c ((nI_sub1 (by omega)).mp z)), if_neg c]
  have C : f_X12_letter a1 σ = some (if 0 ≤ a1 ∧ a1 < nI n then rI σ 1 (Int32.toNatClampNeg a1) else -1, σ) := by
    unfold f_X12_letter f_X12_letter_21 f_X12_letter_22
    rw [e2]
    by_cases c : 0 ≤ a1 ∧ a1 < nI n
    · obtain ⟨m, hm, rfl⟩ := i_lt c.1 c.2 (by omega)
      rw [if_neg (i_nlt.mpr c.1), if_neg (i_nle.mpr c.2), if_pos c, gd_pos (nI_inb (by omega) (by omega))]
    · by_cases c1 : a1 < 0
      · rw [if_pos c1, if_neg c]
      · rw [if_neg c1, if_pos (i_nlt.mp (fun z => c ⟨i_nlt.mp c1, z⟩)), if_neg c]
  refine ⟨_, ⟨_, _, C, ?_⟩, Inv_thr hK h 0⟩
  rw [M]
  by_cases c : 0 ≤ a1 ∧ a1 < nI n
  · obtain ⟨m, hm, rfl⟩ := i_lt c.1 c.2 (by omega)
    rw [if_pos c, if_pos c, nI_ix (by omega), e3 m hm]
  · rw [if_neg c, if_neg c]
end OPS
