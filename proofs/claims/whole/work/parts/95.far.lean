/-! HOW FAR, over links -/
section FAR
variable {D : dD} {σ : jM}
noncomputable def dst (L : Nat → Nat → Prop) (a b : Nat) : Nat := @dite _ (Rc L a b) (Classical.propDecidable _) (fun _ => lst (fun n => Rn L n a b)) (fun _ => 1000000)
theorem dst_rn {L : Nat → Nat → Prop} {a b : Nat} (h : Rc L a b) : Rn L (dst L a b) a b := by
  unfold dst
  rw [dif_pos h]
  exact (lst_spec (p := fun n => Rn L n a b) h).1
theorem dst_le {L : Nat → Nat → Prop} {n a b : Nat} (h : Rn L n a b) : dst L a b ≤ n := by
  unfold dst
  rw [dif_pos ⟨n, h⟩]
  exact (lst_spec (p := fun n => Rn L n a b) ⟨n, h⟩).2 n h
theorem dst_no {L : Nat → Nat → Prop} {a b : Nat} (h : ¬ Rc L a b) : dst L a b = 1000000 := by
  unfold dst
  rw [dif_neg h]
theorem dst_self (L : Nat → Nat → Prop) (a : Nat) : dst L a a = 0 := Nat.le_zero.mp (dst_le (n := 0) rfl)
theorem dst_0 {L : Nat → Nat → Prop} {a b : Nat} (h : Rc L a b) (h0 : dst L a b = 0) : a = b := by
  have := dst_rn h
  rw [h0] at this
  exact this
theorem dst_step {L : Nat → Nat → Prop} {a b c : Nat} (h : Rc L a b) (hl : L b c) : dst L a c ≤ dst L a b + 1 := dst_le (n := dst L a b + 1) ⟨b, dst_rn h, hl⟩
theorem dst_prev {L : Nat → Nat → Prop} {a b n : Nat} (h : Rc L a b) (hn : dst L a b = n + 1) : ∃ c, L c b ∧ Rc L a c ∧ dst L a c = n := by
  have h1 := dst_rn h
  rw [hn] at h1
  obtain ⟨c, h2, h3⟩ := h1
  have h4 := dst_le h2
  have h5 := dst_step ⟨n, h2⟩ h3
  exact ⟨c, h3, ⟨n, h2⟩, by omega⟩
theorem dst_level {L : Nat → Nat → Prop} {a b : Nat} (h : Rc L a b) {m : Nat} (hm : m ≤ dst L a b) : ∃ u, Rc L a u ∧ dst L a u = m := by
  generalize hd : dst L a b = d at *
  induction d generalizing b with
  | zero => exact ⟨b, h, by omega⟩
  | succ d ih =>
    by_cases e : m = d + 1
    · exact ⟨b, h, by omega⟩
    · obtain ⟨c, h1, h2, h3⟩ := dst_prev h hd
      exact ih h2 h3 (by omega)
noncomputable def dsl (L : Nat → Nat → Prop) (a m t : Nat) : Bool := @decide (Rc L a t ∧ dst L a t ≤ m) (Classical.propDecidable _)
theorem dsl_t {L : Nat → Nat → Prop} {a m t : Nat} : dsl L a m t = true ↔ (Rc L a t ∧ dst L a t ≤ m) := by
  unfold dsl
  exact @decide_eq_true_iff _ (Classical.propDecidable _)
theorem dst_lt {L : Nat → Nat → Prop} (hL : ∀ s t, L s t → s < 40 ∧ t < 40) {a b : Nat} (ha : a < 40) (h : Rc L a b) : dst L a b < 40 := by
  have key : ∀ m, m ≤ dst L a b → m + 1 ≤ cnt (dsl L a m) 40 := by
    intro m
    induction m with
    | zero => intro _; exact cnt_pos ha (dsl_t.mpr ⟨Rc_refl a, by rw [dst_self]; exact Nat.le_refl _⟩)
    | succ m ih =>
      intro hm
      obtain ⟨u, h1, h2⟩ := dst_level h hm
      have h3 := ih (by omega)
      have h4 := cnt_lt (p := dsl L a m) (q := dsl L a (m + 1)) (n := 40) (x := u) (fun i _ z => dsl_t.mpr ⟨(dsl_t.mp z).1, by have := (dsl_t.mp z).2; omega⟩) (Rc_lt hL ha h1) (Bool.eq_false_iff.mpr (fun z => by have := (dsl_t.mp z).2; omega)) (dsl_t.mpr ⟨h1, by omega⟩)
      omega
  have h1 := key _ (Nat.le_refl _)
  have h2 := cnt_le (dsl L a (dst L a b)) 40
  omega
theorem dst_cases {L : Nat → Nat → Prop} (hL : ∀ s t, L s t → s < 40 ∧ t < 40) {a : Nat} (ha : a < 40) (b : Nat) : (Rc L a b ∧ dst L a b < 40) ∨ (¬ Rc L a b ∧ dst L a b = 1000000) := by
  by_cases h : Rc L a b
  · exact Or.inl ⟨h, dst_lt hL ha h⟩
  · exact Or.inr ⟨h, dst_no h⟩
/-! the reference -/
abbrev w356 (k _j : Nat) : Prop := k = 356
theorem m_findFar {L : Nat → Nat → Nat → Prop} (hA : AM σ 352 L) (hl : ∀ o a b, o < 2 → L o a b → a < 40 ∧ b < 40) {o a : Nat} (ho : o < 2) (ha : a < 40) : ok (f_X13_findFar (nI o) (nI a) σ) (fun _ τ => (∀ s, s < 40 → rI τ 356 s = nI (dst (L o) a s)) ∧ Fr w356 σ τ) := by
  have W33 : ∀ τ, Fr w356 σ τ → (∀ s, s < 40 → rI τ 356 s = nI (if s = a then 0 else 1000000)) → ok (f_X13_findFar_33 Fu (nI o) 1 τ) (fun _ τ => (∀ s, s < 40 → rI τ 356 s = nI (dst (L o) a s)) ∧ Fr w356 σ τ) := by
    intro τ hF h0
    refine L_X13_findFar_33 100000000 (fun k l3 τ => Fr w356 σ τ ∧ ∃ f : Nat → Nat, (∀ s, s < 40 → rI τ 356 s = nI (f s)) ∧ (∀ s, s < 40 → f s ≤ 1000000) ∧ f a = 0 ∧ (∀ s, s < 40 → f s < 1000000 → Rn (L o) (f s) a s) ∧ ((l3 = 1 ∧ k + sm f 40 ≤ 50000000) ∨ (l3 = 0 ∧ ∀ x y, L o x y → f x < 1000000 → f y ≤ f x + 1))) (by omega) (fun k q2 l3 τ hk2 hI2 hq2 => ?_) (Nat.zero_le _) ⟨hF, fun s => if s = a then 0 else 1000000, h0, fun s _ => by show (if s = a then 0 else 1000000) ≤ 1000000; split <;> omega, if_pos rfl, fun s _ z => ?_, Or.inl ⟨rfl, ?_⟩⟩
    · obtain ⟨hF, f, f1, f2, fa, f3, f4⟩ := hI2
      unfold s_X13_findFar_33
      rcases f4 with ⟨rfl, f4⟩ | ⟨rfl, f4⟩
      · rw [if_neg (by decide)]
        refine L_X13_findFar_42 1600 (fun k' l3 l4 τ => l4 = nI k' ∧ Fr w356 σ τ ∧ ∃ g : Nat → Nat, (∀ s, s < 40 → rI τ 356 s = nI (g s)) ∧ (∀ s, s < 40 → g s ≤ 1000000) ∧ g a = 0 ∧ (∀ s, s < 40 → g s < 1000000 → Rn (L o) (g s) a s) ∧ ((l3 = 1 ∧ sm g 40 < sm f 40) ∨ (l3 = 0 ∧ (∀ s, s < 40 → g s = f s) ∧ ∀ j, j < k' → L o (j / 40) (j % 40) → f (j % 40) ≤ f (j / 40) + 1))) (by omega) (fun k' q3 l3 l4 τ hk3 hI3 hq3 => ?_) (Nat.zero_le _) ⟨rfl, hF, f, f1, f2, fa, f3, Or.inr ⟨rfl, fun s _ => rfl, fun j hj => by omega⟩⟩
        obtain ⟨rfl, hF, g, g1, g2, ga0, g3, g4⟩ := hI3
        unfold s_X13_findFar_42 f_X13_findFar_118
        rw [li1600, li40]
        simp (disch := omega) only [pk_mul, nI_add, nI_le2, div_n, rem_n, rem_n2, nI_ix]
        by_cases ck : k' < 1600
        · have ea : rI τ 352 (1600 * o + k') = bJ (L o (k' / 40) (k' % 40)) := by
            have := hA o ho (k' / 40) (by omega) (k' % 40) (by omega)
            rw [show 1600 * o + 40 * (k' / 40) + k' % 40 = 1600 * o + k' by omega] at this
            rw [hF.I _ _ (by omega)]
            exact this
          have ga := g2 (k' / 40) (by omega)
          have gb := g2 (k' % 40) (by omega)
          rw [if_neg (by omega), gd_n (by omega) (by omega), ea]
          have same : (L o (k' / 40) (k' % 40) → g (k' % 40) ≤ g (k' / 40) + 1) → ok (q3 (nI o) l3 (nI k' + 1) τ) (fun _ τ => (∀ s, s < 40 → rI τ 356 s = nI (dst (L o) a s)) ∧ Fr w356 σ τ) := by
            intro hz
            refine hq3 (k' + 1) _ _ _ (by omega) (by omega) ⟨nI_1 k', hF, g, g1, g2, ga0, g3, ?_⟩
            rcases g4 with g4 | ⟨e1, e2, e3⟩
            · exact Or.inl g4
            · refine Or.inr ⟨e1, e2, fun j hj hlj => ?_⟩
              by_cases e : j = k'
              · subst e
                rw [← e2 _ (by omega), ← e2 _ (by omega)]
                exact hz hlj
              · exact e3 j (by omega) hlj
          refine ok_ite (fun z => same (fun y => absurd y (bJ_0.mp z))) (fun z => ?_)
          have z : L o (k' / 40) (k' % 40) := Classical.byContradiction (fun w => z (bJ_0.mpr w))
          rw [gd_n (by omega) (by omega), gd_n (by omega) (by omega), g1 (k' / 40) (by omega), g1 (k' % 40) (by omega), nI_1, ite_iff (nI_lt2 (by omega) (by omega))]
          refine ok_ite (fun w => ?_) (fun w => same (fun _ => by omega))
          rw [gd_n (by omega) (by omega), gd_n (by omega) (by omega)]
          have hne : k' % 40 ≠ a := fun e => by rw [e, ga0] at w; omega
          refine hq3 (k' + 1) _ _ _ (by omega) (by omega) ⟨nI_1 k', hF.w rfl, fun s => if s = k' % 40 then g (k' / 40) + 1 else g s, fun s hs => ?_, fun s hs => ?_, ?_, fun s hs => ?_, Or.inl ⟨rfl, ?_⟩⟩
          · show _ = nI (if s = k' % 40 then g (k' / 40) + 1 else g s)
            by_cases e : s = k' % 40
            · rw [if_pos e, e]; exact rI_same _ _ _ _
            · rw [if_neg e, rI_nj e]; exact g1 s hs
          · show (if s = k' % 40 then g (k' / 40) + 1 else g s) ≤ 1000000
            by_cases e : s = k' % 40
            · rw [if_pos e]; omega
            · rw [if_neg e]; exact g2 s hs
          · show (if a = k' % 40 then g (k' / 40) + 1 else g a) = 0
            rw [if_neg (fun e => hne e.symm)]; exact ga0
          · show (if s = k' % 40 then g (k' / 40) + 1 else g s) < 1000000 → Rn (L o) (if s = k' % 40 then g (k' / 40) + 1 else g s) a s
            by_cases e : s = k' % 40
            · rw [if_pos e]
              intro y
              exact ⟨k' / 40, g3 (k' / 40) (by omega) (by omega), by rw [e]; exact z⟩
            · rw [if_neg e]; exact g3 s hs
          · have hlt : sm (fun s => if s = k' % 40 then g (k' / 40) + 1 else g s) 40 < sm g 40 := sm_lt (x := k' % 40) (fun i hi => by show (if i = k' % 40 then g (k' / 40) + 1 else g i) ≤ g i; by_cases e : i = k' % 40; rw [if_pos e, e]; omega; rw [if_neg e]; exact Nat.le_refl _) (by omega) (by show (if k' % 40 = k' % 40 then g (k' / 40) + 1 else g (k' % 40)) < g (k' % 40); rw [if_pos rfl]; exact w)
            rcases g4 with ⟨-, g4⟩ | ⟨-, e2, -⟩
            · omega
            · rw [sm_congr (f := g) (g := f) e2] at hlt
              exact hlt
        · rw [if_pos (by omega)]
          refine hq2 (k + 1) _ _ (by omega) (by omega) ⟨hF, g, g1, g2, ga0, g3, ?_⟩
          rcases g4 with ⟨e1, e2⟩ | ⟨e1, e2, e3⟩
          · exact Or.inl ⟨e1, by omega⟩
          · refine Or.inr ⟨e1, fun x y hxy _ => ?_⟩
            obtain ⟨h1, h2⟩ := hl o x y ho hxy
            rw [e2 x h1, e2 y h2]
            have := e3 (40 * x + y) (by omega)
            rw [show (40 * x + y) / 40 = x by omega, show (40 * x + y) % 40 = y by omega] at this
            exact this hxy
      · rw [if_pos rfl]
        refine ok_ret ⟨fun s hs => ?_, hF⟩
        rw [f1 s hs]
        congr 1
        have hLo : ∀ x y, L o x y → x < 40 ∧ y < 40 := fun x y z => hl o x y ho z
        have up : ∀ n t, n < 1000000 → Rn (L o) n a t → f t ≤ n := by
          intro n
          induction n with
          | zero => intro t _ ht; have e : a = t := ht; rw [← e, fa]; exact Nat.le_refl _
          | succ n ih =>
            intro t hn ⟨c, h1, h2⟩
            have h3 := ih c (by omega) h1
            have := f4 c t h2 (by omega)
            omega
        rcases dst_cases hLo ha s with ⟨h1, h2⟩ | ⟨h1, h2⟩
        · have h3 := up _ s (by omega) (dst_rn h1)
          have h4 := dst_le (f3 s hs (by omega))
          omega
        · rw [h2]
          have := f2 s hs
          by_cases e : f s < 1000000
          · exact absurd ⟨_, f3 s hs e⟩ h1
          · omega
    · have z : (if s = a then 0 else 1000000) < 1000000 := z
      show Rn (L o) (if s = a then 0 else 1000000) a s
      by_cases e : s = a
      · rw [if_pos e, e]; rfl
      · rw [if_neg e] at z; omega
    · have := sm_bound (f := fun s => if s = a then 0 else 1000000) (n := 40) (B := 1000000) (fun i _ => by show (if i = a then 0 else 1000000) ≤ 1000000; split <;> omega)
      omega
  unfold f_X13_findFar
  refine L_X13_findFar_2 40 (fun s l3 τ => l3 = nI s ∧ (∀ s', s' < s → rI τ 356 s' = nI (if s' = a then 0 else 1000000)) ∧ Fr w356 σ τ) (by omega) (fun s q l3 τ hk hI hq => ?_) (Nat.zero_le _) ⟨rfl, fun s hs => by omega, Fr.refl⟩
  obtain ⟨rfl, h0, hF⟩ := hI
  unfold s_X13_findFar_2 f_X13_findFar_24
  rw [li40, li6n]
  simp (disch := omega) only [nI_le2, nI_ix, nI_eq2]
  by_cases c : s < 40
  · rw [if_neg (by omega)]
    have go : ∀ x : Nat, x = (if s = a then 0 else 1000000) → ok (gd (inb (nI s) 40) (q (nI o) (nI a) (nI s + 1) (wI τ 356 s (nI x)))) (fun _ τ => (∀ s, s < 40 → rI τ 356 s = nI (dst (L o) a s)) ∧ Fr w356 σ τ) := by
      intro x ex
      rw [gd_n c (by omega)]
      refine hq (s + 1) _ _ (by omega) (by omega) ⟨nI_1 s, fun s' hs' => ?_, hF.w rfl⟩
      by_cases e : s' = s
      · subst e; rw [rI_same, ex]
      · rw [rI_nj e]; exact h0 s' (by omega)
    exact ok_ite (fun z => go 0 (by rw [if_pos z])) (fun z => go 1000000 (by rw [if_neg z]))
  · rw [if_pos (by omega)]
    exact W33 τ hF (fun s' hs' => h0 s' (by omega))
/-! the class -/
/-- none as -1 -/
noncomputable def dsI (L : Nat → Nat → Prop) (a b : Nat) : Int32 := if dst L a b = 1000000 then -1 else nI (dst L a b)
theorem c_measure {L : Nat → Nat → Prop} {o a : Nat} (ho : o < 2) (ha : a < 40) (hA : Adj σ (279 + o) L) : ok (f_X2_measure (nI o) (nI a) σ) (fun _ τ => (∀ s, s < 40 → rI τ (294 + o) s = dsI L a s) ∧ Fr (fun k _ => k = 294 + o) σ τ) := by
  have hLt := hA.2.2
  have hsh : (shf (294 + o)).2 = 40 := by rcases (by omega : o = 0 ∨ o = 1) with rfl | rfl <;> rfl
  unfold f_X2_measure
  rw [gd_n ho (by omega), nI_ix (by omega)]
  refine ok_bd (e_fillI (294 + o) (-1) σ (by rw [hsh]; omega)) (fun _ τ0 h0 => ?_)
  rw [hsh] at h0
  rw [gd_n ha (by omega), nI_ix (by omega)]
  refine L_X2_measure_28 39 (fun n l4 l6 l8 τ => l8 = nI (n + 1) ∧ Fr (fun k _ => k = 294 + o) σ τ ∧ (∀ t, t < 64 → (bt l4 t = true ↔ (Rc L a t ∧ dst L a t ≤ n))) ∧ (∀ t, t < 64 → (bt l6 t = true ↔ (Rc L a t ∧ dst L a t = n))) ∧ ∀ s, s < 40 → rI τ (294 + o) s = if dst L a s ≤ n then nI (dst L a s) else -1) (by omega) (fun n q l4 l6 l8 τ hk hI hq => ?_) (Nat.zero_le _) ⟨rfl, (h0.2).w rfl, fun t ht => ?_, fun t ht => ?_, fun s hs => ?_⟩
  · obtain ⟨rfl, hF, hs4, hs6, hd⟩ := hI
    have hA' : Adj τ (279 + o) L := Adj_fr hA (fun j => hF.L _ _ (by omega))
    unfold s_X2_measure_28 f_X2_measure_117
    rw [li40]
    simp (disch := omega) only [nI_le2]
    have fin : (∀ s, Rc L a s → dst L a s ≤ n) → ok (some ((), τ)) (fun _ τ => (∀ s, s < 40 → rI τ (294 + o) s = dsI L a s) ∧ Fr (fun k _ => k = 294 + o) σ τ) := by
      intro hz
      refine ok_ret ⟨fun s hs => ?_, hF⟩
      rw [hd s hs]
      unfold dsI
      rcases dst_cases hLt ha s with ⟨h1, h2⟩ | ⟨h1, h2⟩
      · rw [if_pos (hz s h1), if_neg (by omega)]
      · rw [if_pos h2, if_neg (by omega)]
    by_cases c : n + 1 < 40
    · rw [if_neg (by omega)]
      refine ok_ite (fun z => fin (fun s hr => ?_)) (fun z => ?_)
      · have z := lgc0.mp z
        rcases Nat.lt_or_ge n (dst L a s) with w | w
        · obtain ⟨u, h1, h2⟩ := dst_level hr (m := n) (by omega)
          have := (hs6 u (by have := Rc_lt hLt ha h1; omega)).mpr ⟨h1, h2⟩
          rw [z, bt_0] at this
          cases this
        · exact w
      · rw [gd_n ho (by omega), nI_ix (by omega)]
        obtain ⟨y, ey, hy⟩ := e_around hA' l6
        rw [ey, bd_some]
        have hb6 : ∀ t, t < 64 → (bt (y &&& (l4 ^^^ -1)) t = true ↔ (Rc L a t ∧ dst L a t = n + 1)) := by
          intro t ht
          rw [bt_and, bt_not _ ht, Bool.and_eq_true, hy t ht]
          refine ⟨fun ⟨⟨s, s1, s2, s3⟩, w⟩ => ?_, fun ⟨w1, w2⟩ => ?_⟩
          · obtain ⟨g1, g2⟩ := (hs6 s (by omega)).mp s2
            have hr := Rc_step g1 s3
            have h1 := dst_step g1 s3
            refine ⟨hr, ?_⟩
            have : ¬ (Rc L a t ∧ dst L a t ≤ n) := fun x => by rw [(hs4 t ht).mpr x] at w; cases w
            have : ¬ dst L a t ≤ n := fun x => this ⟨hr, x⟩
            omega
          · obtain ⟨s, g1, g2, g3⟩ := dst_prev w1 w2
            refine ⟨⟨s, (hLt s t g1).1, (hs6 s (by have := (hLt s t g1).1; omega)).mpr ⟨g2, g3⟩, g1⟩, ?_⟩
            have : ¬ bt l4 t = true := fun x => by have := ((hs4 t ht).mp x).2; omega
            rw [Bool.eq_false_iff.mpr this]
            rfl
        have hb4 : ∀ t, t < 64 → (bt (l4 ||| (y &&& (l4 ^^^ -1))) t = true ↔ (Rc L a t ∧ dst L a t ≤ n + 1)) := by
          intro t ht
          rw [bt_or, Bool.or_eq_true, hs4 t ht, hb6 t ht]
          exact ⟨fun w => by rcases w with w | w; exact ⟨w.1, by omega⟩; exact ⟨w.1, by omega⟩, fun w => by by_cases e : dst L a t ≤ n; exact Or.inl ⟨w.1, e⟩; exact Or.inr ⟨w.1, by omega⟩⟩
        generalize y &&& (l4 ^^^ -1) = x6 at *
        generalize l4 ||| x6 = x4 at *
        refine L_X2_measure_75 40 (fun s l9 τ' => l9 = nI s ∧ Fr (fun k _ => k = 294 + o) σ τ' ∧ ∀ t, t < 40 → rI τ' (294 + o) t = if dst L a t ≤ (if t < s then n + 1 else n) then nI (dst L a t) else -1) (by omega) (fun s q2 l9 τ' hk2 hI2 hq2 => ?_) (Nat.zero_le _) ⟨rfl, hF, fun t ht => by rw [hd t ht, if_neg (show ¬ t < 0 by omega)]⟩
        obtain ⟨rfl, hF', hd'⟩ := hI2
        unfold s_X2_measure_75 f_X2_measure_105 f_X2_measure_111
        rw [li40, hsh]
        simp (disch := omega) only [nI_le2, nI_ix]
        have nxt : (∀ t, t < 40 → rI τ' (294 + o) t = if dst L a t ≤ n + 1 then nI (dst L a t) else -1) → ok (q (nI o) (294 + o) x4 x6 (nI (n + 1) + 1) τ') (fun _ τ => (∀ s, s < 40 → rI τ (294 + o) s = dsI L a s) ∧ Fr (fun k _ => k = 294 + o) σ τ) := fun hz => hq (n + 1) _ _ _ _ (by omega) (by omega) ⟨nI_1 (n + 1), hF', hb4, hb6, hz⟩
        by_cases cs : s < 40
        · rw [if_neg (by omega)]
          refine ok_ite (fun z2 => nxt (fun t ht => ?_)) (fun z2 => ?_)
          · have z2 := lgc0.mp z2
            have hne : ¬ dst L a t = n + 1 := fun e => by
              have hr : Rc L a t := Classical.byContradiction (fun w => by have := dst_no w; omega)
              have := (hb6 t (by omega)).mpr ⟨hr, e⟩
              rw [z2, bt_0] at this
              cases this
            rw [hd' t ht]
            by_cases e : t < s
            · rw [if_pos e]
            · rw [if_neg e]
              by_cases e2 : dst L a t ≤ n
              · rw [if_pos e2, if_pos (by omega)]
              · rw [if_neg e2, if_neg (by omega)]
          · rw [e_has (by omega), bd_some, ite_bI]
            refine ok_ite (fun z3 => ?_) (fun z3 => ?_)
            · obtain ⟨g1, g2⟩ := (hb6 s (by omega)).mp z3
              rw [gd_n cs (by omega)]
              refine hq2 (s + 1) _ _ (by omega) (by omega) ⟨nI_1 s, hF'.w rfl, fun t ht => ?_⟩
              by_cases e : t = s
              · subst e
                rw [rI_same, if_pos (show t < t + 1 by omega), if_pos (by omega), g2]
              · rw [rI_nj e, hd' t ht]
                by_cases e2 : t < s
                · rw [if_pos e2, if_pos (show t < s + 1 by omega)]
                · rw [if_neg e2, if_neg (show ¬ t < s + 1 by omega)]
            · refine hq2 (s + 1) _ _ (by omega) (by omega) ⟨nI_1 s, hF', fun t ht => ?_⟩
              rw [hd' t ht]
              by_cases e : t = s
              · subst e
                have hne : ¬ dst L a t = n + 1 := fun e2 => by
                  have hr : Rc L a t := Classical.byContradiction (fun w => by have := dst_no w; omega)
                  exact z3 ((hb6 t (by omega)).mpr ⟨hr, e2⟩)
                rw [if_neg (show ¬ t < t by omega), if_pos (show t < t + 1 by omega)]
                by_cases e2 : dst L a t ≤ n
                · rw [if_pos e2, if_pos (by omega)]
                · rw [if_neg e2, if_neg (by omega)]
              · by_cases e2 : t < s
                · rw [if_pos e2, if_pos (show t < s + 1 by omega)]
                · rw [if_neg e2, if_neg (show ¬ t < s + 1 by omega)]
        · rw [if_pos (by omega)]
          refine nxt (fun t ht => ?_)
          rw [hd' t ht, if_pos (show t < s by omega)]
    · rw [if_pos (by omega)]
      exact fin (fun s hr => by have := dst_lt hLt ha hr; omega)
  · rw [bt_one (by omega) ht, decide_eq_true_eq]
    exact ⟨fun e => by rw [e]; exact ⟨Rc_refl a, by rw [dst_self]; exact Nat.le_refl _⟩, fun e => (dst_0 e.1 (by omega)).symm⟩
  · rw [bt_one (by omega) ht, decide_eq_true_eq]
    exact ⟨fun e => by rw [e]; exact ⟨Rc_refl a, dst_self L a⟩, fun e => (dst_0 e.1 e.2).symm⟩
  · by_cases e : s = a
    · subst e
      rw [rI_same, dst_self, if_pos (by omega)]
      rfl
    · rw [rI_nj e, h0.1 s hs, if_neg]
      intro w
      have hr : Rc L a s := Classical.byContradiction (fun y => by have := dst_no y; omega)
      exact e (dst_0 hr (by omega)).symm
end FAR
