/-! doubt: leaving all out leaves one way -/
section FUL
variable {D : dD} {v : Nat}
theorem fm_bit {k i : Nat} (hi : i < k) : (fm D v k).testBit i = decide (nCt D v i) := by
  induction k with
  | zero => omega
  | succ k ih =>
    rw [fm_s]
    have hlt := fm_lt (D := D) (v := v) k
    by_cases c : nCt D v k
    · rw [if_pos c, Nat.add_comm]
      by_cases e : i = k
      · subst e
        rw [Nat.testBit_two_pow_add_eq, Nat.testBit_lt_two_pow hlt, decide_eq_true c]; rfl
      · rw [Nat.testBit_two_pow_add_gt (by omega), ih (by omega)]
    · rw [if_neg c, Nat.add_zero]
      by_cases e : i = k
      · subst e
        rw [Nat.testBit_lt_two_pow hlt, decide_eq_false c]
      · exact ih (by omega)
theorem full_ok : okm D v (fm D v (D 324 55)) (fm D v (D 324 55)) := by
  refine ⟨Nat.and_self _, ?_⟩
  have h0 : nse D v (fm D v (D 324 55)) = 0 := cnt_zero (fun i hi => by
    unfold sel
    rw [fm_bit hi]
    cases decide (nCt D v i) <;> rfl)
  show 0 < (lvs D v _ (nse D v (fm D v (D 324 55))) 0 g0 r0).length
  rw [h0]
  exact Nat.one_pos
end FUL
