/-! a search that does not tally keeps what is kept -/
section KEEP
variable {σ : jM} {C B P : dD → Nat → jM → Prop}
/-- what a search may write -/
abbrev wsr (b : Prop) (x k j : Nat) : Prop := (b ∧ (k = 297 ∨ (k = 296 ∧ j = 1))) ∨ k = 298 ∨ (k = 296 ∧ (j = 5 ∨ j = 13 ∨ j = 16 ∨ j = 17)) ∨ (299 ≤ k ∧ k ≤ 321) ∨ k = rulX x + 7 ∨ k = rulX x + 8
theorem Vw_srch {v : Nat} (hS : SK GK C WK B P) (h : Vw (KK GK C WK B P) v σ) {τ : jM} (hF : Fr (wsr (rI σ 296 18 ≠ 0) (rIx (dm σ) v)) σ τ) : Vw (KK GK C WK B P) v τ ∧ dm τ = dm σ ∧ rI τ 3 0 = rI σ 3 0 := by
  obtain ⟨k1, k2, k3, k4, k5⟩ := h.2.2.2.2.1
  have hrl := rIx_le h.1.2.1.2.1 v
  have hrx := rulX_cases (rIx (dm σ) v)
  have no : ∀ {k j : Nat}, ¬ (k = 297 ∨ (k = 296 ∧ j = 1)) → ¬ (k = 298 ∨ (k = 296 ∧ (j = 5 ∨ j = 13 ∨ j = 16 ∨ j = 17)) ∨ (299 ≤ k ∧ k ≤ 321) ∨ k = rulX (rIx (dm σ) v) + 7 ∨ k = rulX (rIx (dm σ) v) + 8) → ¬ wsr (rI σ 296 18 ≠ 0) (rIx (dm σ) v) k j := fun a c z => z.elim (fun y => a y.2) c
  have hk : KK GK C WK B P (dm σ) v τ := by
    refine ⟨k1.imp (fun z => (hF.I _ _ (no (by omega) (by omega))).trans z) (hS.1 _ _ _ _ (fun k j hr => ⟨hF.I _ _ (no (by omega) (by omega)), hF.L _ _ (no (by omega) (by omega))⟩)), k2.imp (fun z => (hF.I _ _ (no (by omega) (by omega))).trans z) (hS.2.1 _ _ _ _ (fun k j hr => ⟨hF.I _ _ (no (by omega) (by omega)), hF.L _ _ (no (by omega) (by omega))⟩)), k3.imp (fun z => (hF.I _ _ (no (by omega) (by omega))).trans z) (fun hw => ?_), k4.imp (fun z => (hF.I _ _ (no (by omega) (by omega))).trans z) (hS.2.2.2.1 _ _ _ _ (fun k j hr => ⟨hF.I _ _ (no (by omega) (by omega)), hF.L _ _ (no (by omega) (by omega))⟩)), k5.imp (fun z => (hF.I _ _ (no (by omega) (by omega))).trans z) (hS.2.2.2.2 _ _ _ _ (fun k j hr => ⟨hF.I _ _ (no (by omega) (by omega)), hF.L _ _ (no (by omega) (by omega))⟩))⟩
    have e18 := hw.2.2.2
    refine WK_St _ _ _ _ (fun k j hr => ?_) hw
    have : ¬ wsr (rI σ 296 18 ≠ 0) (rIx (dm σ) v) k j := fun z => z.elim (fun y => y.1 e18) (fun y => by omega)
    exact ⟨hF.I _ _ this, hF.L _ _ this⟩
  refine Vw_upd h hF (fun k j z => ?_) hk
  rcases z with z | z | z | z | z
  · have := z.2; exact ⟨ccr_hi (by omega), by omega, by omega⟩
  · exact ⟨ccr_hi (by omega), by omega, by omega⟩
  · exact ⟨ccr_hi (by omega), by omega, by omega⟩
  · exact ⟨ccr_hi (by omega), by omega, by omega⟩
  · exact ⟨wsp_ccr (a := 2) hrl (Or.inl rfl) (Or.inr z), by omega, by omega⟩
end KEEP
