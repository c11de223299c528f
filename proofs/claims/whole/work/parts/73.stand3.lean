/-! the reference's stands -/
section STD3
variable {D : dD} {σ : jM}
theorem m_moreTrust (hw : DWh D) (hM : MD D σ) {a b v : Nat} (ha : a < 40) (hb : b < 40) (hv : v ≤ 100000) : f_X13_moreTrust (nI a) (nI b) (nI v) σ = some (zi (tw D v a b), σ) := by
  have hN := hw.1
  refine ok_eq ?_
  unfold f_X13_moreTrust
  refine L_X13_moreTrust_6 4 (fun h l4 l5 τ => l4 = zi (tws D v a b 0 (D 324 25) h) ∧ l5 = nI h ∧ τ = σ) (by omega) (fun h q l4 l5 τ hk hI hq => ?_) (Nat.zero_le _) ⟨rfl, rfl, rfl⟩
  obtain ⟨rfl, rfl, rfl⟩ := hI
  unfold s_X13_moreTrust_6
  rw [li4]
  simp (disch := omega) only [nI_le2]
  by_cases c : h < 4
  · rw [if_neg (by omega)]
    refine L_X13_moreTrust_18 (D 324 25) (fun k l6 l7 τ' => l6 = nI (lw D v h a b 0 k) ∧ l7 = nI k ∧ τ' = τ) (by omega) (fun k q2 l6 l7 τ' hk2 hI2 hq2 => ?_) (Nat.zero_le _) ⟨rfl, rfl, rfl⟩
    obtain ⟨rfl, rfl, rfl⟩ := hI2
    unfold s_X13_moreTrust_18 f_X13_moreTrust_81 f_X13_moreTrust_122
    rw [hM.r (k := 324) (j := 25) (by omega) (by omega)]
    simp (disch := omega) only [nI_le2, nI_ix]
    by_cases c2 : k < D 324 25
    · obtain ⟨b1, b2, b3, b4, b5⟩ := hw.2.2 k c2
      rw [if_neg (by omega), hM.r (k := 338) (by omega) (by omega), hM.r (k := 339) (by omega) (by omega), hM.r (k := 340) (by omega) (by omega), hM.r (k := 341) (by omega) (by omega), hM.r (k := 342) (by omega) (by omega)]
      simp (disch := omega) only [gd_n, nI_eq2, nI_lt2]
      have go : ∀ x, x = lw D v h a b 0 (k + 1) → ok (q2 (nI a) (nI b) (nI v) (zi (tws D v a b 0 (D 324 25) h)) (nI h) (nI x) (nI k + 1) τ') (fun a_1 s => a_1 = zi (tw D v a b) ∧ s = τ') := fun x e => hq2 (k + 1) _ _ _ (by omega) (by omega) ⟨by rw [e], nI_1 k, rfl⟩
      have e := lw_s D v h a b 0 k
      rw [Nat.zero_add] at e
      by_cases m : mat D v h a b k
      · rw [if_pos m.1, if_pos m.2.1, if_pos m.2.2.1, if_neg (by have := m.2.2.2; omega)]
        exact go _ (by rw [e, if_pos m])
      · have g := go _ (by rw [e, if_neg m])
        refine ok_ite (fun y1 => ok_ite (fun y2 => ok_ite (fun y3 => ok_ite (fun y4 => g) (fun y4 => absurd ⟨y1, y2, y3, by omega⟩ m)) (fun _ => g)) (fun _ => g)) (fun _ => g)
    · have e : k = D 324 25 := by omega
      subst e
      rw [if_pos (by omega), hM.r (k := 337) (by omega) (by omega)]
      have hl : lw D v h a b 0 (D 324 25) < 2147483648 := by
        have : ∀ n, n ≤ D 324 25 → lw D v h a b 0 n ≤ 2 := by
          intro n
          induction n with
          | zero => intro _; exact Nat.le_refl 2
          | succ n ih =>
            intro hn
            rw [lw_s]
            split
            · rw [Nat.zero_add]; exact (hw.2.2 n (by omega)).2.2.2.1
            · exact ih (by omega)
        have := this _ (Nat.le_refl _)
        omega
      have i1 : (nI (lw D v h a b 0 (D 324 25)) = 1) ↔ lw D v h a b 0 (D 324 25) = 1 := nI_eq2 (b := 1) hl (by omega)
      have i0 : (nI (lw D v h a b 0 (D 324 25)) = 0) ↔ lw D v h a b 0 (D 324 25) = 0 := eq0_n hl
      simp (disch := omega) only [gd_n]
      rw [ite_iff i1, ite_iff i0]
      have go : ∀ x : Int32, x = zi (wgt D h (lw D v h a b 0 (D 324 25))) → ok (q (nI a) (nI b) (nI v) (zi (tws D v a b 0 (D 324 25) h) + x) (nI h + 1) τ') (fun a_1 s => a_1 = zi (tw D v a b) ∧ s = τ') := fun x e => hq (h + 1) _ _ _ (by omega) (by omega) ⟨by rw [e, zi_add, tws_s], nI_1 h, rfl⟩
      refine ok_ite (fun y => go _ ?_) (fun y => ok_ite (fun y2 => go _ ?_) (fun y2 => go _ ?_))
      · rw [nI_zi]; unfold wgt; rw [if_pos y]
      · rw [nI_zi, zi_neg]; unfold wgt; rw [if_neg y, if_pos y2]
      · unfold wgt; rw [if_neg y, if_neg y2]; rfl
  · rw [if_pos (by omega)]
    have e : h = 4 := by omega
    subst e
    exact ok_ret ⟨rfl, rfl⟩
def oneN (D : dD) (v n a b : Nat) : Prop := ∃ k, k < n ∧ ((D 339 k = a ∧ D 340 k = b) ∨ (D 339 k = b ∧ D 340 k = a)) ∧ 0 < tw D v (D 339 k) (D 340 k)
theorem oneN_symm {v n a b : Nat} (h : oneN D v n a b) : oneN D v n b a := by
  obtain ⟨k, h1, h2, h3⟩ := h
  exact ⟨k, h1, h2.symm, h3⟩
abbrev w343 (k _j : Nat) : Prop := k = 343
theorem m_findStands (hw : DWh D) (hM : MD D σ) {v : Nat} (hv : v ≤ 100000) : ok (f_X13_findStands (nI v) σ) (fun _ τ => (∀ s, s < 40 → rI τ 343 s = nI (std D v s)) ∧ Fr w343 σ τ) := by
  have hN := hw.1
  have A23 : ∀ τ, Fr w343 σ τ → (∀ s, s < 40 → rI τ 343 s = nI s) → ok (f_X13_findStands_23 Fu (nI v) 0 τ) (fun _ τ => (∀ s, s < 40 → rI τ 343 s = nI (std D v s)) ∧ Fr w343 σ τ) := by
    intro τ hF h0
    refine L_X13_findStands_23 (D 324 25) (fun n l2 τ => l2 = nI n ∧ Fr w343 σ τ ∧ ∃ f : Nat → Nat, (∀ s, s < 40 → rI τ 343 s = nI (f s)) ∧ (∀ s, s < 40 → f s ≤ s) ∧ (∀ s, s < 40 → Rc (oneN D v n) s (f s)) ∧ (∀ a b, oneN D v n a b → f a = f b)) (by omega) (fun n q l2 τ hk hI hq => ?_) (Nat.zero_le _) ⟨rfl, hF, fun s => s, h0, fun s _ => Nat.le_refl s, fun s _ => Rc_refl s, fun a b ⟨k, hk, _⟩ => by omega⟩
    obtain ⟨rfl, hF, f, f1, f2, f3, f4⟩ := hI
    have hM' : MD D τ := MD_fr hM hF (fun k j hp => by omega)
    unfold s_X13_findStands_23 f_X13_findStands_143
    rw [hM'.r (k := 324) (j := 25) (by omega) (by omega)]
    simp (disch := omega) only [nI_le2, nI_ix]
    by_cases c : n < D 324 25
    · obtain ⟨b1, b2, b3, b4, b5⟩ := hw.2.2 n c
      have fa := f2 (D 339 n) (by omega)
      have fb := f2 (D 340 n) (by omega)
      rw [if_neg (by omega), hM'.r (k := 339) (by omega) (by omega), hM'.r (k := 340) (by omega) (by omega)]
      simp (disch := omega) only [gd_n, nI_ix, f1, m_moreTrust hw hM', bd_some, nI_eq2]
      have hb := tws_bd hw v (D 339 n) (D 340 n) 0 (D 324 25) (h := 4) (by omega)
      have e0 : (0 < zi (tw D v (D 339 n) (D 340 n))) ↔ 0 < tw D v (D 339 n) (D 340 n) := zi_lt (a := 0) (by omega) (by omega) (by unfold tw; omega) (by unfold tw; omega)
      have up : ∀ s t, Rc (oneN D v n) s t → Rc (oneN D v (n + 1)) s t := fun s t h => Rc_mono (fun a b ⟨k, y1, y2⟩ => ⟨k, by omega, y2⟩) h
      have same : (0 < tw D v (D 339 n) (D 340 n) → f (D 339 n) = f (D 340 n)) → ok (q (nI v) (nI n + 1) τ) (fun _ τ => (∀ s, s < 40 → rI τ 343 s = nI (std D v s)) ∧ Fr w343 σ τ) := by
        intro hs
        refine hq (n + 1) _ _ (by omega) (by omega) ⟨nI_1 n, hF, f, f1, f2, fun s hs => up _ _ (f3 s hs), fun a b ⟨k, y1, y2, y3⟩ => ?_⟩
        rcases Nat.lt_or_ge k n with w | w
        · exact f4 a b ⟨k, w, y2, y3⟩
        · have : k = n := by omega
          subst this
          rcases y2 with ⟨rfl, rfl⟩ | ⟨rfl, rfl⟩
          · exact hs y3
          · exact (hs y3).symm
      refine ok_ite (fun z => same (fun _ => z)) (fun z => ok_ite (fun z2 => ?_) (fun z2 => same (fun y => absurd (e0.mpr y) z2)))
      have z2 := e0.mp z2
      generalize hA : f (D 339 n) = A at *
      generalize hB : f (D 340 n) = B at *
      refine L_X13_findStands_88 40 (fun s l5 τ' => l5 = nI s ∧ Fr w343 σ τ' ∧ ∀ t, t < 40 → rI τ' 343 t = nI (if t < s ∧ (f t = A ∨ f t = B) then min A B else f t)) (by omega) (fun s q2 l5 τ' hk2 hI2 hq2 => ?_) (Nat.zero_le _) ⟨rfl, hF, fun t ht => by rw [if_neg (by omega)]; exact f1 t ht⟩
      obtain ⟨rfl, hF', h'⟩ := hI2
      unfold s_X13_findStands_88 f_X13_findStands_118 f_X13_findStands_136 f_X13_findStands_137
      unfold f_X13_findStands_143
      rw [li40]
      simp (disch := omega) only [nI_le2, nI_ix]
      by_cases c2 : s < 40
      · have fs := f2 s c2
        have hs' := h' s c2
        rw [if_neg (fun y => Nat.lt_irrefl s y.1)] at hs'
        rw [if_neg (show ¬ 40 ≤ s by omega), hs']
        simp (disch := omega) only [gd_n, nI_eq2]
        have go : ∀ x : Nat, (f s = A ∨ f s = B) → x = min A B → ok (q2 (nI v) (nI n) (nI A) (nI B) (nI s + 1) (wI τ' 343 s (nI x))) (fun _ τ => (∀ s, s < 40 → rI τ 343 s = nI (std D v s)) ∧ Fr w343 σ τ) := by
          intro x hx e
          refine hq2 (s + 1) _ _ (by omega) (by omega) ⟨nI_1 s, hF'.w rfl, fun t ht => ?_⟩
          by_cases et : t = s
          · subst et
            rw [rI_same, if_pos ⟨by omega, hx⟩, e]
          · rw [rI_nj et, h' t ht]
            by_cases g : t < s ∧ (f t = A ∨ f t = B)
            · rw [if_pos g, if_pos ⟨by omega, g.2⟩]
            · rw [if_neg g, if_neg (fun y => g ⟨by omega, y.2⟩)]
        have mn : ∀ hx : (f s = A ∨ f s = B), ok (if B ≤ A then q2 (nI v) (nI n) (nI A) (nI B) (nI s + 1) (wI τ' 343 s (nI B)) else q2 (nI v) (nI n) (nI A) (nI B) (nI s + 1) (wI τ' 343 s (nI A))) (fun _ τ => (∀ s, s < 40 → rI τ 343 s = nI (std D v s)) ∧ Fr w343 σ τ) := fun hx => ok_ite (fun y => go B hx (by omega)) (fun y => go A hx (by omega))
        refine ok_ite (fun y => mn (Or.inl y)) (fun y => ok_ite (fun y2 => mn (Or.inr y2)) (fun y2 => ?_))
        refine hq2 (s + 1) _ _ (by omega) (by omega) ⟨nI_1 s, hF', fun t ht => ?_⟩
        rw [h' t ht]
        by_cases et : t = s
        · subst et
          rw [if_neg (by omega), if_neg (fun w => w.2.elim y y2)]
        · by_cases g : t < s ∧ (f t = A ∨ f t = B)
          · rw [if_pos g, if_pos ⟨by omega, g.2⟩]
          · rw [if_neg g, if_neg (fun y => g ⟨by omega, y.2⟩)]
      · rw [if_pos (by omega)]
        have on : oneN D v (n + 1) (D 339 n) (D 340 n) := ⟨n, by omega, Or.inl ⟨rfl, rfl⟩, z2⟩
        have toA : ∀ t, t < 40 → (f t = A ∨ f t = B) → Rc (oneN D v (n + 1)) t A := by
          intro t ht y
          rcases y with y | y
          · have := up _ _ (f3 t ht); rw [y] at this; exact this
          · have h1 := up _ _ (f3 t ht); rw [y] at h1
            have h2 := up _ _ (f3 (D 340 n) (by omega)); rw [hB] at h2
            have h3 := up _ _ (f3 (D 339 n) (by omega)); rw [hA] at h3
            exact Rc_trans h1 (Rc_trans (Rc_symm (fun _ _ => oneN_symm) h2) (Rc_trans (Rc_one (oneN_symm on)) h3))
        have AB : Rc (oneN D v (n + 1)) A B := by
          have h2 := up _ _ (f3 (D 340 n) (by omega)); rw [hB] at h2
          have h3 := up _ _ (f3 (D 339 n) (by omega)); rw [hA] at h3
          exact Rc_trans (Rc_symm (fun _ _ => oneN_symm) h3) (Rc_trans (Rc_one on) h2)
        refine hq (n + 1) _ _ (by omega) (by omega) ⟨nI_1 n, hF', fun t => if f t = A ∨ f t = B then min A B else f t, fun t ht => ?_, fun t ht => ?_, fun t ht => ?_, fun x y hxy => ?_⟩
        · show rI τ' 343 t = nI (if f t = A ∨ f t = B then min A B else f t)
          rw [h' t ht]
          by_cases g : f t = A ∨ f t = B
          · rw [if_pos ⟨by omega, g⟩, if_pos g]
          · rw [if_neg (fun w => g w.2), if_neg g]
        · have := f2 t ht
          show (if f t = A ∨ f t = B then min A B else f t) ≤ t
          split
          · omega
          · exact this
        · show Rc _ t (if f t = A ∨ f t = B then min A B else f t)
          by_cases g : f t = A ∨ f t = B
          · rw [if_pos g]
            have := toA t ht g
            rcases Nat.lt_or_ge A B with w | w
            · rw [Nat.min_eq_left (by omega)]; exact this
            · rw [Nat.min_eq_right w]; exact Rc_trans this AB
          · rw [if_neg g]; exact up _ _ (f3 t ht)
        · show (if f x = A ∨ f x = B then min A B else f x) = (if f y = A ∨ f y = B then min A B else f y)
          obtain ⟨k, y1, y2, y3⟩ := hxy
          rcases Nat.lt_or_ge k n with w | w
          · rw [f4 x y ⟨k, w, y2, y3⟩]
          · have : k = n := by omega
            subst this
            rcases y2 with ⟨rfl, rfl⟩ | ⟨rfl, rfl⟩
            · rw [if_pos (Or.inl hA), if_pos (Or.inr hB)]
            · rw [if_pos (Or.inr hB), if_pos (Or.inl hA)]
    · rw [if_pos (by omega)]
      have e : n = D 324 25 := by omega
      subst e
      refine ok_ret ⟨fun s hs => ?_, hF⟩
      rw [f1 s hs]
      congr 1
      exact (lst_label (L := one D v) (N := 40) (fun a b => one_symm D v a b) (fun a b => one_lt hw) f2 f3 f4 hs).symm
  unfold f_X13_findStands
  refine L_X13_findStands_2 40 (fun n l2 τ => l2 = nI n ∧ Fr w343 σ τ ∧ ∀ s, s < n → rI τ 343 s = nI s) (by omega) (fun n q l2 τ hk hI hq => ?_) (Nat.zero_le _) ⟨rfl, Fr.refl, fun s hs => by omega⟩
  obtain ⟨rfl, hF, h⟩ := hI
  unfold s_X13_findStands_2
  rw [li40]
  simp (disch := omega) only [nI_le2, nI_ix]
  by_cases c : n < 40
  · rw [if_neg (by omega), gd_n c (by omega)]
    refine hq (n + 1) _ _ (by omega) (by omega) ⟨nI_1 n, hF.w rfl, fun s hs => ?_⟩
    by_cases e : s = n
    · subst e; exact rI_same _ _ _ _
    · rw [rI_nj e]; exact h s (by omega)
  · rw [if_pos (by omega)]
    exact A23 τ hF (fun s hs => h s (by omega))
end STD3
