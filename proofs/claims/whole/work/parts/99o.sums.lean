/-! sums over the ways -/
section SUMS
variable {D : dD} {σ : jM} {v : Nat}
theorem sm_add (f g : Nat → Nat) (n : Nat) : sm (fun c => f c + g c) n = sm f n + sm g n := by
  induction n with
  | zero => rfl
  | succ n ih => rw [sm_s, sm_s, sm_s, ih]; omega
theorem sm_ind {x n : Nat} (h : x < n) : sm (fun c => if x = c then 1 else 0) n = 1 := by
  induction n with
  | zero => omega
  | succ n ih =>
    rw [sm_s]
    by_cases e : x = n
    · subst e
      rw [if_pos rfl, sm_zero (a := 0) (Nat.zero_le _) (fun r _ hr => if_neg (by omega))]
      rfl
    · rw [if_neg e, ih (by omega)]
theorem lct_sum {s : Nat} {L : List (gF × gF)} (h : ∀ x, x ∈ L → x.1 s ≤ 135) : sm (fun c => lct s c L) 136 = L.length := by
  induction L with
  | nil => exact sm_zero (a := 0) (Nat.zero_le _) (fun r _ _ => rfl)
  | cons x L ih =>
    have e : (fun c => lct s c (x :: L)) = (fun c => lct s c L + (if x.1 s = c then 1 else 0)) := by
      funext c
      unfold lct
      rw [List.countP_cons]
      congr 1
      by_cases h1 : x.1 s = c
      · rw [if_pos h1, if_pos (decide_eq_true h1)]
      · rw [if_neg h1, if_neg (fun z => h1 (of_decide_eq_true z))]
    rw [e, sm_add, ih (fun y hy => h y (List.mem_cons_of_mem _ hy)), sm_ind (by have := h x List.mem_cons_self; omega), List.length_cons]
/-- what laying keeps of every sign -/
theorem ly_keep {C : Nat → Nat} {w n : Nat} {g g' : gF} {R : Nat → Nat → Prop} (h : ly D v C w g n = some g') (hg : ∀ t, R t (g t)) (hR : ∀ s0 j, j < n → R (std D v s0) (C j)) : ∀ t, R t (g' t) := by
  induction n generalizing g' with
  | zero => rw [ly_0] at h; cases h; exact hg
  | succ n ih =>
    rw [ly_s] at h
    cases h1 : ly D v C w g n with
    | none => rw [h1] at h; cases h
    | some g1 =>
      rw [h1] at h
      have h : sl D v g1 (D 329 (6 * w + n)) (C n) = some g' := h
      have e1 := ih h1 (fun s0 j hj => hR s0 j (by omega))
      unfold sl at h
      by_cases c : D 329 (6 * w + n) = 99
      · rw [if_pos c] at h; cases h; exact e1
      · rw [if_neg c] at h
        by_cases ca : agb D v g1 (std D v (D 329 (6 * w + n))) (C n) = true
        · rw [if_pos ca] at h
          cases h
          intro t
          by_cases e : t = std D v (D 329 (6 * w + n))
          · rw [e, up_same]; exact hR _ n (by omega)
          · rw [up_ne _ _ e]; exact e1 t
        · rw [if_neg ca] at h; cases h
theorem lvs_keep {e : seT} {m l : Nat} {g r : gF} {R : Nat → Nat → Prop} (hg : ∀ t, R t (g t)) (hR : ∀ i, l ≤ i → i < l + m → ∀ s0 j, j < e.2.1 i → R (std D v s0) (e.2.2 i j)) {x : gF × gF} (h : x ∈ lvs D v e m l g r) : ∀ t, R t (x.1 t) := by
  induction m generalizing l g r with
  | zero => rw [lvs_0, List.mem_singleton] at h; rw [h]; exact hg
  | succ m ih =>
    rw [lvs_s] at h
    obtain ⟨q, hq, hx⟩ := fl_mem h
    unfold kid at hx
    cases h1 : stpo D v e l q g r with
    | none => rw [h1] at hx; cases hx
    | some g' =>
      rw [h1] at hx
      have hx : x ∈ lvs D v e m (l + 1) g' (up r l q) := hx
      unfold stpo at h1
      by_cases c : opb D e r l q = true
      · rw [if_pos c] at h1
        exact ih (ly_keep h1 hg (fun s0 j hj => hR l (Nat.le_refl _) (by omega) s0 j hj)) (fun i a b => hR i (by omega) (by omega)) hx
      · rw [if_neg c] at h1; cases h1
theorem ese_c (hw : DW D) {a i j : Nat} (hi : i < nse D v a) (hj : j < (ese D v a).2.1 i) : (ese D v a).2.2 i j < 135 := cev_bd hw.2.1 (nl_bd hw.2.2.2.2 (nmo_of hi).1) hj
theorem WW_le (hw : DW D) {a : Nat} {x : gF × gF} (h : x ∈ WW D v a) (t : Nat) : x.1 t ≤ 135 := lvs_keep (R := fun _ c => c ≤ 135) (fun _ => Nat.le_refl _) (fun i _ h2 s0 j hj => Nat.le_of_lt (ese_c hw (by omega) hj)) h t
end SUMS
