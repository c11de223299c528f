/-! settles -/
section SET
variable {D : dD} {σ : jM} {v : Nat} {C B P : dD → Nat → jM → Prop}
def mxn (f : Nat → Nat) : Nat → Nat := Nat.rec 0 (fun c m => if m < f c then f c else m)
theorem mxn_s (f : Nat → Nat) (c : Nat) : mxn f (c + 1) = if mxn f c < f c then f c else mxn f c := rfl
theorem mxn_le {f : Nat → Nat} {n b : Nat} (h : ∀ c, c < n → f c ≤ b) : mxn f n ≤ b := by
  induction n with
  | zero => exact Nat.zero_le _
  | succ n ih =>
    rw [mxn_s]
    split
    · exact h n (by omega)
    · exact ih (fun c hc => h c (by omega))
theorem mxn_0 {f : Nat → Nat} {n : Nat} (h : ∀ c, c < n → f c = 0) : mxn f n = 0 := Nat.le_zero.mp (mxn_le (fun c hc => Nat.le_of_eq (h c hc)))
noncomputable def mxw (W : List (gF × gF)) (s : Nat) : Nat := mxn (fun c => lct s c W) 136
theorem mxw_le (W : List (gF × gF)) (s : Nat) : mxw W s ≤ W.length := mxn_le (fun c _ => lct_le s c W)
theorem lct_none {W : List (gF × gF)} {s : Nat} (h : ∀ x, x ∈ W → x.1 s = 135) : mxw W s = W.length := by
  unfold mxw
  rw [show 136 = 135 + 1 from rfl, mxn_s, mxn_0 (fun c hc => by rw [lct_all h, if_neg (by omega)]), lct_all h, if_pos rfl]
  split <;> omega
theorem c_mostAgreeing (hw : DW D) (hW : WK D v σ) {s : Nat} (hs : s < 40) : f_X1_mostAgreeing (nI s) σ = some (nI (mxw (WW D v 0) s), σ) := by
  have hlen := WW_len hw (v := v) 0
  have hsum := lct_sum (s := s) (L := WW D v 0) (fun x hx => WW_le hw hx s)
  refine ok_eq ?_
  unfold f_X1_mostAgreeing
  rw [hW.1]
  have hsb : ∀ c, c ≤ 135 → sm (fun c => lct s c (WW D v 0)) c ≤ (WW D v 0).length := fun c hc => by
    rw [← hsum]
    clear hsum
    have : ∀ k, sm (fun c => lct s c (WW D v 0)) c ≤ sm (fun c => lct s c (WW D v 0)) (c + k) := fun k => by
      induction k with
      | zero => exact Nat.le_refl _
      | succ k ih => rw [← Nat.add_assoc, sm_s]; omega
    have h2 := this (136 - c)
    rw [show c + (136 - c) = 136 by omega] at h2
    exact h2
  refine L_X1_mostAgreeing_10 135 (fun c l2 l3 l4 τ => l2 = nI (mxn (fun c => lct s c (WW D v 0)) c) ∧ l3 = nI ((WW D v 0).length - sm (fun c => lct s c (WW D v 0)) c) ∧ l4 = nI c ∧ τ = σ) (by omega) (fun c p l2 l3 l4 τ hk hI hp => ?_) (Nat.zero_le _) ⟨rfl, rfl, rfl, rfl⟩
  obtain ⟨rfl, rfl, rfl, rfl⟩ := hI
  have hm : mxn (fun c => lct s c (WW D v 0)) c ≤ (WW D v 0).length := mxn_le (fun c _ => lct_le s c _)
  have hb := hsb c hk
  unfold s_X1_mostAgreeing_10 f_X1_mostAgreeing_59
  rw [li135, ite_iff (nI_le2 (by omega) (by omega))]
  by_cases cc : c < 135
  · have hle := lct_le s c (WW D v 0)
    rw [if_neg (by omega), e_has (by omega), bd_some, ite_bI]
    refine ok_ite (fun z => ?_) (fun z => ?_)
    · rw [e_waysWith hs cc, bd_some, hW.2.1 s hs c cc]
      have hb2 := hsb (c + 1) (by omega)
      rw [sm_s] at hb2
      refine hp (c + 1) _ _ _ _ (by omega) (by omega) ⟨?_, ?_, nI_1 c, rfl⟩
      · rw [mxn_s, ite_iff (nI_lt2 (by omega) (by omega))]
        split <;> rfl
      · rw [pk_sub (by omega), sm_s]
        congr 1
        omega
    · have hno : ∀ x, x ∈ WW D v 0 → x.1 s = 135 := fun x hx => Classical.byContradiction (fun y => z ((hW.2.2.1 s (by omega)).mpr ⟨hs, x, hx, y⟩))
      have e0 : ∀ c, c < 135 → lct s c (WW D v 0) = 0 := fun c hc => by rw [lct_all hno, if_neg (by omega)]
      rw [lct_none hno, mxn_0 (fun c' hc' => e0 c' (by omega)), sm_zero (a := 0) (Nat.zero_le _) (fun r _ hr => e0 r (by omega)), ite_iff (nI_lt2 (by omega) (by rw [sm_0]; omega))]
      refine ok_ret ⟨?_, rfl⟩
      rw [sm_0]
      split
      · rfl
      · congr 1; omega
  · have e : c = 135 := by omega
    subst e
    rw [if_pos (by omega)]
    have e35 : (WW D v 0).length - sm (fun c => lct s c (WW D v 0)) 135 = lct s 135 (WW D v 0) := by
      rw [show 136 = 135 + 1 from rfl, sm_s] at hsum
      omega
    have hle := lct_le s 135 (WW D v 0)
    rw [e35, ite_iff (nI_lt2 (by omega) (by omega))]
    have em : mxw (WW D v 0) s = if mxn (fun c => lct s c (WW D v 0)) 135 < lct s 135 (WW D v 0) then lct s 135 (WW D v 0) else mxn (fun c => lct s c (WW D v 0)) 135 := rfl
    refine ok_ret ⟨?_, rfl⟩
    rw [em]
    generalize mxn (fun c => lct s c (WW D v 0)) 135 = A
    split <;> rfl
/-- so far: the sign that settles most -/
noncomputable def sgs (D : dD) (v : Nat) (W : List (gF × gF)) : Nat → Nat := Nat.rec 0 (fun s b => if std D v s = s ∧ mxw W s < mxw W b then s else b)
theorem sgs_s (W : List (gF × gF)) (s : Nat) : sgs D v W (s + 1) = if std D v s = s ∧ mxw W s < mxw W (sgs D v W s) then s else sgs D v W s := rfl
theorem sgs_lt (W : List (gF × gF)) {s : Nat} (hs : s ≤ 40) : sgs D v W s < 40 := by
  induction s with
  | zero => exact (by omega : 0 < 40)
  | succ s ih =>
    rw [sgs_s]
    split
    · omega
    · exact ih (by omega)
theorem std_std (s : Nat) : std D v (std D v s) = std D v s := by
  have hs := fun a b => one_symm D v a b
  have h1 : Rc (one D v) s (std D v s) := (lst_spec (p := fun t => Rc (one D v) s t) ⟨s, Rc_refl s⟩).1
  show lst (fun t => Rc (one D v) (std D v s) t) = lst (fun t => Rc (one D v) s t)
  congr 1
  funext t
  exact propext ⟨fun z => Rc_trans h1 z, fun z => Rc_trans (Rc_symm hs h1) z⟩
theorem WW_std {a : Nat} {x : gF × gF} (h : x ∈ WW D v a) {t : Nat} (ht : std D v t ≠ t) : x.1 t = 135 := lvs_keep (R := fun t c => std D v t ≠ t → c = 135) (fun _ _ => rfl) (fun i _ _ s0 j _ hne => absurd (std_std s0) hne) h t ht
theorem c_settlingSign (hw : DW D) (hW : WK D v σ) : f_X1_settlingSign σ = some (nI (sgs D v (WW D v 0) 40), σ) := by
  have hlen := WW_len hw (v := v) 0
  have hmx := fun s => mxw_le (WW D v 0) s
  have h0 : sgs D v (WW D v 0) 1 = 0 := by rw [sgs_s]; split <;> rfl
  refine ok_eq ?_
  unfold f_X1_settlingSign
  rw [show f_X1_mostAgreeing 0 σ = _ from c_mostAgreeing hw hW (s := 0) (by omega), bd_some]
  refine L_X1_settlingSign_10 40 (fun s l1 l2 l3 τ => l1 = nI (sgs D v (WW D v 0) s) ∧ l2 = nI (mxw (WW D v 0) (sgs D v (WW D v 0) s)) ∧ l3 = nI s ∧ τ = σ) (by omega) (fun s p l1 l2 l3 τ hk hI hp => ?_) (k := 1) (by omega) ⟨by rw [h0]; rfl, by rw [h0], rfl, rfl⟩
  obtain ⟨rfl, rfl, rfl, rfl⟩ := hI
  unfold s_X1_settlingSign_10 f_X1_settlingSign_34
  rw [li40, ite_iff (nI_le2 (by omega) (by omega))]
  by_cases cs : s < 40
  · have m1 := hmx s
    have m2 := hmx (sgs D v (WW D v 0) s)
    rw [if_neg (by omega), c_mostAgreeing hw hW cs, bd_some, ite_iff (nI_le2 (by omega) (by omega))]
    refine ok_ite (fun z => ?_) (fun z => ?_)
    · have e : sgs D v (WW D v 0) (s + 1) = sgs D v (WW D v 0) s := by rw [sgs_s, if_neg (fun y => by omega)]
      exact hp (s + 1) _ _ _ _ (by omega) (by omega) ⟨by rw [e], by rw [e], nI_1 s, rfl⟩
    · have e : sgs D v (WW D v 0) (s + 1) = s := by
        rw [sgs_s, if_pos]
        refine ⟨Classical.byContradiction (fun y => ?_), by omega⟩
        have := lct_none (W := WW D v 0) (s := s) (fun x hx => WW_std hx y)
        omega
      exact hp (s + 1) _ _ _ _ (by omega) (by omega) ⟨by rw [e], by rw [e], nI_1 s, rfl⟩
  · rw [if_pos (by omega), show s = 40 by omega]
    exact ok_ret ⟨rfl, rfl⟩
end SET
