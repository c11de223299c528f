/-! every call; the state in which they begin -/
section ALL
variable {σ : jM}
abbrev KF : dD → Nat → jM → Prop := KK GK CK WK DK PK
theorem SK_all : SK GK CK WK DK PK := ⟨GK_St, CK_St, WK_St, DK_St, PK_St⟩
theorem all_ops (k : Nat) (a1 a2 a3 a4 a5 : Int32) (σ : jM) (hk : k < 36) (h : Inv KF σ) : ∃ σ', lw_op k a1 a2 a3 a4 a5 σ σ' ∧ Inv KF σ' := by
  have hK : KX KF := KK_KX SK_all
  have hC : KC KF := KK_KC
  match k, hk with
  | 0, _ => exact op_day hK h a1 a2 a3 a4 a5
  | 1, _ => exact op_feed h hK a1 a2 a3 a4 a5
  | 2, _ => exact op_end hK h a1 a2 a3 a4 a5
  | 3, _ => exact op_tablet h hK a1 a2 a3 a4 a5
  | 4, _ => exact op_rules h hK a1 a2 a3 a4 a5
  | 5, _ => exact op_place hK h a1 a2 a3 a4 a5
  | 6, _ => exact op_away h hK a1 a2 a3 a4 a5
  | 7, _ => exact op_trust h hK a1 a2 a3 a4 a5
  | 8, _ => exact op_holds h hK a1 a2 a3 a4 a5
  | 9, _ => exact op_sign h hK hC a1 a2 a3 a4 a5
  | 10, _ => exact op_told h hK a1 a2 a3 a4 a5
  | 11, _ => exact op_share h hK a1 a2 a3 a4 a5
  | 12, _ => exact op_pairs h SK_all a1 a2 a3 a4 a5
  | 13, _ => exact op_links h SK_all a1 a2 a3 a4 a5
  | 14, _ => exact op_classOf h SK_all a1 a2 a3 a4 a5
  | 15, _ => exact op_clash h SK_all a1 a2 a3 a4 a5
  | 16, _ => exact op_reason h SK_all a1 a2 a3 a4 a5
  | 17, _ => exact op_name h hK a1 a2 a3 a4 a5
  | 18, _ => exact op_spelled h hK hC a1 a2 a3 a4 a5
  | 19, _ => exact op_cell h hK hC a1 a2 a3 a4 a5
  | 20, _ => exact op_ways h SK_all a1 a2 a3 a4 a5
  | 21, _ => exact op_way h SK_all a1 a2 a3 a4 a5
  | 22, _ => exact op_given h SK_all a1 a2 a3 a4 a5
  | 23, _ => exact op_forced h SK_all a1 a2 a3 a4 a5
  | 24, _ => exact op_reads h SK_all a1 a2 a3 a4 a5
  | 25, _ => exact op_letter hK h a1 a2 a3 a4 a5
  | 26, _ => exact op_settles h SK_all a1 a2 a3 a4 a5
  | 27, _ => exact op_would h SK_all a1 a2 a3 a4 a5
  | 28, _ => exact op_fits h SK_all a1 a2 a3 a4 a5
  | 29, _ => exact op_doubt h SK_all a1 a2 a3 a4 a5
  | 30, _ => exact op_could h SK_all a1 a2 a3 a4 a5
  | 31, _ => exact op_inGrid h SK_all a1 a2 a3 a4 a5
  | 32, _ => exact op_where h SK_all a1 a2 a3 a4 a5
  | 33, _ => exact op_often h SK_all a1 a2 a3 a4 a5
  | 34, _ => exact op_rank h SK_all a1 a2 a3 a4 a5
  | 35, _ => exact op_count h hK a1 a2 a3 a4 a5
  | (n + 36), hk => exact absurd hk (by omega)
theorem s0_I (k j : Nat) : rI sig0 k j = (lfin.getD k dC).2.1.getD j 0 := rfl
theorem s0_nil : ∀ k : Nat, k < 376 → 325 ≤ k → k ≠ 337 → (lfin.getD k dC).2.1 = [] := by decide +kernel
theorem s0_337 : ∀ j : Nat, j < 4 → rI sig0 337 j = nI 10 := by decide +kernel
theorem s0_324 : ∀ j : Nat, j < 77 → (j ≠ 23 → rI sig0 324 j = 0) := by decide +kernel
theorem s0_0 {k j : Nat} (h1 : 325 ≤ k) (h2 : k < 376) (h3 : k ≠ 337) : rI sig0 k j = 0 := by
  rw [s0_I, s0_nil k h2 h1 h3]; rfl
theorem s0_tab : ∀ t : Nat, t < 24 → rI sig0 (tabX t) 1 = -1 := by decide +kernel
theorem s0_sha : ∀ t : Nat, t < 60 → rI sig0 (shaX t) 1 = -1 := by decide +kernel
theorem s0_nam : ∀ t : Nat, t < 6 → rI sig0 (namX t) 1 = -1 := by decide +kernel
theorem s0_9 : ∀ t : Nat, t < 4 → rI sig0 9 t = nI 10 := by decide +kernel
theorem s0_c : rI sig0 3 0 = 0 ∧ rI sig0 3 2 = 0 ∧ rI sig0 3 4 = 0 ∧ rI sig0 3 6 = 0 ∧ rI sig0 3 8 = 0 ∧ rI sig0 3 10 = -1 ∧ rI sig0 8 1 = 0 ∧ rI sig0 19 1 = 0 ∧ rI sig0 262 1 = 0 ∧ rI sig0 262 3 = -1 ∧ rI sig0 324 23 = -1 ∧ rI sig0 0 7 = 0 := by decide +kernel
theorem Inv_0 : Inv KF sig0 := by
  obtain ⟨c0, c2, c4, c6, c8, c10, c81, c19, c621, c623, c23, c07⟩ := s0_c
  have hMI : MI sig0 := by
    intro k j hp
    have hg := pex_ge hp
    by_cases e1 : k = 324
    · subst e1
      rw [s0_324 j (by omega) (by omega)]
      exact ⟨fun _ => by decide, fun z => absurd z (by decide)⟩
    · by_cases e2 : k = 337
      · subst e2
        have hj : j < 4 := by
          rcases hp with hp | hp
          · rcases hp with hp | hp | hp | hp | hp | hp | hp | hp | hp | hp | hp <;> omega
          · omega
        rw [s0_337 j hj]
        exact ⟨fun _ => by decide, fun z => absurd z (by decide)⟩
      · rw [s0_0 (by omega) (by omega) e2]
        exact ⟨fun _ => by decide, fun _ => Or.inr (nI_inb (a := 0) (by omega) (by omega))⟩
  have d0 : ∀ j, j = 2 ∨ j = 8 ∨ j = 25 ∨ j = 32 ∨ j = 55 → dm sig0 324 j = 0 := fun j hj => md_val (by omega) (by omega) (by omega) (s0_324 j (by omega) (by omega))
  have d7 : ∀ h, h < 4 → dm sig0 337 h = 10 := fun h hh => md_val (by omega) (by omega) (by omega) (s0_337 h hh)
  have e2 := d0 2 (by omega)
  have e8 := d0 8 (by omega)
  have e25 := d0 25 (by omega)
  have e32 := d0 32 (by omega)
  have e55 := d0 55 (by omega)
  refine ⟨hMI, ⟨⟨by omega, fun t ht => by omega, fun p hp => (md9 hMI hp).2⟩, ⟨by omega, fun t ht => by omega⟩, ⟨by omega, fun h hh => by rw [d7 h hh]; omega, fun k hk => by omega⟩, ⟨by omega, fun k hk => by omega⟩, ⟨by omega, fun k hk => by omega⟩⟩, ⟨⟨by rw [e2, c2]; rfl, fun t ht => by omega, fun t ht _ => s0_tab t ht⟩, ⟨by rw [e8, c4]; rfl, c19, fun k hk => by omega⟩, ⟨by rw [e25, c81]; rfl, fun h hh => by rw [d7 h hh]; exact s0_9 h hh, fun k hk => by omega⟩, ⟨by rw [e32, c6]; rfl, fun k hk => by omega, fun k hk _ => s0_sha k hk⟩, ⟨by rw [e55, c8]; rfl, fun k hk => by omega, fun k hk _ => s0_nam k hk⟩⟩, ⟨⟨0, by omega, s0_324 1 (by omega) (by omega), c0⟩, ⟨0, by omega, s0_324 16 (by omega) (by omega), c621, fun j hj => by omega⟩, by rw [c623, c23], 0, by omega, s0_324 75 (by omega) (by omega), c07, fun j hj => by omega⟩, Or.inl c10⟩
end ALL
