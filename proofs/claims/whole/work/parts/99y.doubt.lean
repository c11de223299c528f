/-! doubt: which names are left out -/
section DBT
variable {D : dD} {σ : jM} {v : Nat}
noncomputable def fm (D : dD) (v : Nat) : Nat → Nat := Nat.rec 0 (fun i m => m + if nCt D v i then 2 ^ i else 0)
theorem fm_s (k : Nat) : fm D v (k + 1) = fm D v k + if nCt D v k then 2 ^ k else 0 := rfl
theorem fm_lt (k : Nat) : fm D v k < 2 ^ k := by
  induction k with
  | zero => exact (by decide : 0 < 2 ^ 0)
  | succ k ih =>
    rw [fm_s, Nat.pow_succ]
    split <;> omega
/-- such names may be left out -/
def okm (D : dD) (v f a : Nat) : Prop := a &&& f = a ∧ 0 < (WW D v a).length
/-- the fewest, and of these the first -/
def IsM (D : dD) (v f b : Nat) : Prop := okm D v f b ∧ b ≤ f ∧ ∀ a, a ≤ f → okm D v f a → p6 b < p6 a ∨ (p6 b = p6 a ∧ b ≤ a)
theorem IsM_uniq {f b b' : Nat} (h : IsM D v f b) (h' : IsM D v f b') : b = b' := by
  have h1 := h.2.2 b' h'.2.1 h'.1
  have h2 := h'.2.2 b h.2.1 h.1
  omega
noncomputable def dbs (D : dD) (v f : Nat) : Nat → Nat := Nat.rec f (fun a b => if p6 a < p6 b ∧ decP (okm D v f a) = true then a else b)
theorem dbs_s (f a : Nat) : dbs D v f (a + 1) = if p6 a < p6 (dbs D v f a) ∧ decP (okm D v f a) = true then a else dbs D v f a := rfl
theorem dbs_inv {f : Nat} (hf : f < 64) (h0 : okm D v f f) {k : Nat} (hk : k ≤ f) : okm D v f (dbs D v f k) ∧ (dbs D v f k = f ∨ dbs D v f k < k) ∧ ∀ a, a < k → okm D v f a → p6 (dbs D v f k) < p6 a ∨ (p6 (dbs D v f k) = p6 a ∧ dbs D v f k ≤ a) := by
  induction k with
  | zero => exact ⟨h0, Or.inl rfl, fun a ha => by omega⟩
  | succ k ih =>
    obtain ⟨i1, i2, i3⟩ := ih (by omega)
    rw [dbs_s]
    by_cases c : p6 k < p6 (dbs D v f k) ∧ decP (okm D v f k) = true
    · rw [if_pos c]
      refine ⟨decP_t.mp c.2, Or.inr (by omega), fun a ha hoa => ?_⟩
      by_cases e : a = k
      · subst e; exact Or.inr ⟨rfl, Nat.le_refl _⟩
      · have := i3 a (by omega) hoa; omega
    · rw [if_neg c]
      refine ⟨i1, i2.imp id (fun z => by omega), fun a ha hoa => ?_⟩
      by_cases e : a = k
      · subst e
        have h1 : ¬ p6 a < p6 (dbs D v f a) := fun z => c ⟨z, decP_t.mpr hoa⟩
        rcases i2 with z | z
        · have := p6_sub f hf a (by omega) hoa.1 (by omega)
          rw [z] at h1
          omega
        · omega
      · exact i3 a (by omega) hoa
theorem dbs_min {f : Nat} (hf : f < 64) (h0 : okm D v f f) : IsM D v f (dbs D v f f) := by
  obtain ⟨i1, i2, i3⟩ := dbs_inv hf h0 (Nat.le_refl f)
  refine ⟨i1, by omega, fun a ha hoa => ?_⟩
  by_cases e : a = f
  · subst e
    rcases i2 with z | z
    · rw [z]; exact Or.inr ⟨rfl, Nat.le_refl _⟩
    · exact Or.inl (p6_sub a hf _ (by omega) i1.1 z)
  · exact i3 a (by omega) hoa
end DBT
