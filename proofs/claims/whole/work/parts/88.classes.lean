/-! CLASSES, and all links: the reference's -/
section CLS
variable {D : dD} {σ : jM}
abbrev w354 (k _j : Nat) : Prop := k = 354
theorem m_findClasses {L : Nat → Nat → Nat → Prop} (hA : AM σ 352 L) (hs : ∀ o a b, L o a b → L o b a) (hl : ∀ o a b, o < 2 → L o a b → a < 40 ∧ b < 40) : ok (f_X13_findClasses σ) (fun _ τ => (∀ o, o < 2 → ∀ s, s < 40 → rI τ 354 (40 * o + s) = nI (lst (fun t => Rc (L o) s t))) ∧ Fr w354 σ τ) := by
  unfold f_X13_findClasses
  refine L_X13_findClasses_2 2 (fun o l1 τ => l1 = nI o ∧ (∀ o', o' < o → ∀ s, s < 40 → rI τ 354 (40 * o' + s) = nI (lst (fun t => Rc (L o') s t))) ∧ Fr w354 σ τ) (by omega) (fun o q l1 τ hk hI hq => ?_) (Nat.zero_le _) ⟨rfl, fun o' ho' => by omega, Fr.refl⟩
  obtain ⟨rfl, hO, hF⟩ := hI
  unfold s_X13_findClasses_2
  rw [li2]
  simp (disch := omega) only [nI_le2]
  by_cases co : o < 2
  · rw [if_neg (by omega)]
    have W35 : ∀ τ, Fr w354 σ τ → (∀ o', o' < o → ∀ s, s < 40 → rI τ 354 (40 * o' + s) = nI (lst (fun t => Rc (L o') s t))) → (∀ s, s < 40 → rI τ 354 (40 * o + s) = nI s) → ok (f_X13_findClasses_35 q Fu (nI o) 1 τ) (fun _ τ => (∀ o, o < 2 → ∀ s, s < 40 → rI τ 354 (40 * o + s) = nI (lst (fun t => Rc (L o) s t))) ∧ Fr w354 σ τ) := by
      intro τ hF hO h0
      refine L_X13_findClasses_35 10000 (fun k l2 τ => Fr w354 σ τ ∧ (∀ o', o' < o → ∀ s, s < 40 → rI τ 354 (40 * o' + s) = nI (lst (fun t => Rc (L o') s t))) ∧ ∃ f : Nat → Nat, (∀ s, s < 40 → rI τ 354 (40 * o + s) = nI (f s)) ∧ (∀ s, s < 40 → f s ≤ s) ∧ (∀ s, s < 40 → Rc (L o) s (f s)) ∧ ((l2 = 1 ∧ k + sm f 40 ≤ 5000) ∨ (l2 = 0 ∧ ∀ a b, L o a b → f a ≤ f b))) (by omega) (fun k q2 l2 τ hk2 hI2 hq2 => ?_) (Nat.zero_le _) ⟨hF, hO, fun s => s, h0, fun s _ => Nat.le_refl s, fun s _ => Rc_refl s, Or.inl ⟨rfl, by decide⟩⟩
      obtain ⟨hF, hO, f, f1, f2, f3, f4⟩ := hI2
      unfold s_X13_findClasses_35
      rcases f4 with ⟨rfl, f4⟩ | ⟨rfl, f4⟩
      · rw [if_neg (by decide)]
        refine L_X13_findClasses_43 1600 (fun k' l2 l3 τ => l3 = nI k' ∧ Fr w354 σ τ ∧ (∀ o', o' < o → ∀ s, s < 40 → rI τ 354 (40 * o' + s) = nI (lst (fun t => Rc (L o') s t))) ∧ ∃ g : Nat → Nat, (∀ s, s < 40 → rI τ 354 (40 * o + s) = nI (g s)) ∧ (∀ s, s < 40 → g s ≤ s) ∧ (∀ s, s < 40 → Rc (L o) s (g s)) ∧ ((l2 = 1 ∧ sm g 40 < sm f 40) ∨ (l2 = 0 ∧ (∀ s, s < 40 → g s = f s) ∧ ∀ j, j < k' → L o (j / 40) (j % 40) → f (j / 40) ≤ f (j % 40)))) (by omega) (fun k' q3 l2 l3 τ hk3 hI3 hq3 => ?_) (Nat.zero_le _) ⟨rfl, hF, hO, f, f1, f2, f3, Or.inr ⟨rfl, fun s _ => rfl, fun j hj => by omega⟩⟩
        obtain ⟨rfl, hF, hO, g, g1, g2, g3, g4⟩ := hI3
        unfold s_X13_findClasses_43 f_X13_findClasses_123
        rw [li1600, li40]
        simp (disch := omega) only [pk_mul, nI_add, nI_le2, div_n, rem_n, rem_n2, nI_ix]
        by_cases ck : k' < 1600
        · have ea : rI τ 352 (1600 * o + k') = bJ (L o (k' / 40) (k' % 40)) := by
            have := hA o co (k' / 40) (by omega) (k' % 40) (by omega)
            rw [show 1600 * o + 40 * (k' / 40) + k' % 40 = 1600 * o + k' by omega] at this
            rw [hF.I _ _ (by omega)]
            exact this
          have ga := g2 (k' / 40) (by omega)
          have gb := g2 (k' % 40) (by omega)
          rw [if_neg (by omega), gd_n (by omega) (by omega), ea]
          have same : (L o (k' / 40) (k' % 40) → g (k' / 40) ≤ g (k' % 40)) → ok (q3 (nI o) l2 (nI k' + 1) τ) (fun _ τ => (∀ o, o < 2 → ∀ s, s < 40 → rI τ 354 (40 * o + s) = nI (lst (fun t => Rc (L o) s t))) ∧ Fr w354 σ τ) := by
            intro hz
            refine hq3 (k' + 1) _ _ _ (by omega) (by omega) ⟨nI_1 k', hF, hO, g, g1, g2, g3, ?_⟩
            rcases g4 with g4 | ⟨e1, e2, e3⟩
            · exact Or.inl g4
            · refine Or.inr ⟨e1, e2, fun j hj hlj => ?_⟩
              by_cases e : j = k'
              · subst e
                rw [← e2 _ (by omega), ← e2 _ (by omega)]
                exact hz hlj
              · exact e3 j (by omega) hlj
          refine ok_ite (fun z => same (fun y => absurd y (bJ_0.mp z))) (fun z => ?_)
          have z : L o (k' / 40) (k' % 40) := Classical.byContradiction (fun w => z (bJ_0.mpr w))
          rw [gd_n (by omega) (by omega), gd_n (by omega) (by omega), g1 (k' % 40) (by omega), g1 (k' / 40) (by omega), ite_iff (nI_lt2 (by omega) (by omega))]
          refine ok_ite (fun w => ?_) (fun w => same (fun _ => by omega))
          rw [gd_n (by omega) (by omega), gd_n (by omega) (by omega)]
          refine hq3 (k' + 1) _ _ _ (by omega) (by omega) ⟨nI_1 k', hF.w rfl, fun o' ho' s hs => ?_, fun s => if s = k' / 40 then g (k' % 40) else g s, fun s hs => ?_, fun s hs => ?_, fun s hs => ?_, Or.inl ⟨rfl, ?_⟩⟩
          · rw [rI_nj (by omega)]; exact hO o' ho' s hs
          · show _ = nI (if s = k' / 40 then g (k' % 40) else g s)
            by_cases e : s = k' / 40
            · rw [if_pos e, e]; exact rI_same _ _ _ _
            · rw [if_neg e, rI_nj (by omega)]; exact g1 s hs
          · show (if s = k' / 40 then g (k' % 40) else g s) ≤ s
            by_cases e : s = k' / 40
            · rw [if_pos e]; omega
            · rw [if_neg e]; exact g2 s hs
          · show Rc (L o) s (if s = k' / 40 then g (k' % 40) else g s)
            by_cases e : s = k' / 40
            · rw [if_pos e, e]; exact Rc_trans (Rc_one z) (g3 _ (by omega))
            · rw [if_neg e]; exact g3 s hs
          · have hlt : sm (fun s => if s = k' / 40 then g (k' % 40) else g s) 40 < sm g 40 := sm_lt (x := k' / 40) (fun i hi => by show (if i = k' / 40 then g (k' % 40) else g i) ≤ g i; by_cases e : i = k' / 40; rw [if_pos e, e]; omega; rw [if_neg e]; exact Nat.le_refl _) (by omega) (by show (if k' / 40 = k' / 40 then g (k' % 40) else g (k' / 40)) < g (k' / 40); rw [if_pos rfl]; exact w)
            rcases g4 with ⟨-, g4⟩ | ⟨-, e2, -⟩
            · omega
            · rw [sm_congr (f := g) (g := f) e2] at hlt
              exact hlt
        · rw [if_pos (by omega)]
          refine hq2 (k + 1) _ _ (by omega) (by omega) ⟨hF, hO, g, g1, g2, g3, ?_⟩
          rcases g4 with ⟨e1, e2⟩ | ⟨e1, e2, e3⟩
          · exact Or.inl ⟨e1, by omega⟩
          · refine Or.inr ⟨e1, fun a b hab => ?_⟩
            obtain ⟨h1, h2⟩ := hl o a b co hab
            rw [e2 a h1, e2 b h2]
            have := e3 (40 * a + b) (by omega)
            rw [show (40 * a + b) / 40 = a by omega, show (40 * a + b) % 40 = b by omega] at this
            exact this hab
      · rw [if_pos rfl]
        refine hq (o + 1) _ _ (by omega) (by omega) ⟨nI_1 o, fun o' ho' s hs' => ?_, hF⟩
        by_cases e : o' = o
        · subst e
          rw [f1 s hs']
          congr 1
          exact (lst_label (L := L o') (N := 40) (hs o') (fun a b hab => hl o' a b co hab) f2 f3 (fun a b hab => Nat.le_antisymm (f4 a b hab) (f4 b a (hs o' a b hab))) hs').symm
        · exact hO o' (by omega) s hs'
    refine L_X13_findClasses_9 40 (fun s l2 τ => l2 = nI s ∧ (∀ s', s' < s → rI τ 354 (40 * o + s') = nI s') ∧ (∀ o', o' < o → ∀ s, s < 40 → rI τ 354 (40 * o' + s) = nI (lst (fun t => Rc (L o') s t))) ∧ Fr w354 σ τ) (by omega) (fun s q2 l2 τ hk2 hI2 hq2 => ?_) (Nat.zero_le _) ⟨rfl, fun s hs => by omega, hO, hF⟩
    obtain ⟨rfl, hS, hO, hF⟩ := hI2
    unfold s_X13_findClasses_9
    rw [li40]
    simp (disch := omega) only [pk_mul, nI_add, nI_le2, nI_ix]
    by_cases cs : s < 40
    · rw [if_neg (by omega), gd_n (by omega) (by omega)]
      refine hq2 (s + 1) _ _ (by omega) (by omega) ⟨nI_1 s, fun s' hs' => ?_, fun o' ho' s2 hs2 => ?_, hF.w rfl⟩
      · by_cases e : s' = s
        · subst e; exact rI_same _ _ _ _
        · rw [rI_nj (by omega)]; exact hS s' (by omega)
      · rw [rI_nj (by omega)]; exact hO o' ho' s2 hs2
    · rw [if_pos (by omega)]
      exact W35 τ hF hO (fun s' hs' => hS s' (by omega))
  · rw [if_pos (by omega)]
    exact ok_ret ⟨fun o' ho' => hO o' (by omega), hF⟩
noncomputable def cls (D : dD) (v o s : Nat) : Nat := lst (fun t => Rc (lk D v o) s t)
abbrev wlks (k j : Nat) : Prop := k = 343 ∨ (k = 324 ∧ j = 39) ∨ (350 ≤ k ∧ k ≤ 355)
/-- what the reference finds of links, as known -/
def ML (D : dD) (v : Nat) (σ : jM) : Prop := (∀ s, s < 40 → rI σ 343 s = nI (std D v s)) ∧ MR D v (8 * D 324 2) σ ∧ AM σ 352 (lk D v) ∧ AM σ 353 (pt D v) ∧ ∀ o, o < 2 → ∀ s, s < 40 → rI σ 354 (40 * o + s) = nI (cls D v o s)
theorem m_findLinks (hw : DW D) (hM : MD D σ) {v : Nat} (hv : v ≤ 100000) : ok (f_X13_findLinks (nI v) σ) (fun _ τ => ML D v τ ∧ Fr wlks σ τ) := by
  obtain ⟨hwt, hwr, hwh, hws, hwn⟩ := id hw
  have h24 := hwt.1
  have h60 := hws.1
  have h12 := ncl_le hwr v
  have np : ∀ k j, pers k j → ¬ wlks k j := fun k j hp z => by
    have := pers_ge hp
    rcases z with z | z | z
    · omega
    · omega
    · rcases hp with hp | hp | hp | hp | hp | hp | hp | hp | hp | hp | hp <;> omega
  have A95 : ∀ τ, Fr wlks σ τ → (∀ s, s < 40 → rI τ 343 s = nI (std D v s)) → MR D v (8 * D 324 2) τ → AM τ 352 (fun o a b => lkc D v o (ncl D v) a b) → AM τ 353 (fun _ _ _ => False) → ok (f_X13_findLinks_95 Fu (nI v) 0 τ) (fun _ τ => ML D v τ ∧ Fr wlks σ τ) := by
    intro τ hF h3 hR hL hP
    refine L_X13_findLinks_95 (D 324 32) (fun k l3 τ => l3 = nI k ∧ Fr wlks σ τ ∧ (∀ s, s < 40 → rI τ 343 s = nI (std D v s)) ∧ MR D v (8 * D 324 2) τ ∧ AM τ 352 (fun o a b => lkc D v o (ncl D v) a b ∨ shp D v o 1 k a b) ∧ AM τ 353 (fun o a b => shp D v o 0 k a b)) (by omega) (fun k q l3 τ hk hI hq => ?_) (Nat.zero_le _) ⟨rfl, hF, h3, hR, AM_iff hL (fun o a b _ _ _ => ⟨fun z => Or.inl z, fun z => z.resolve_right (fun ⟨k', hk', _⟩ => by omega)⟩), AM_iff hP (fun o a b _ _ _ => ⟨fun z => z.elim, fun ⟨k', hk', _⟩ => by omega⟩)⟩
    obtain ⟨rfl, hF, h3, hR, hL, hP⟩ := hI
    have hM' : MD D τ := MD_fr hM hF np
    rw [q_s_X13_findLinks_95]
    unfold f_X13_findLinks_234
    rw [hM'.r (k := 324) (j := 32) (by omega) (by omega)]
    simp (disch := omega) only [nI_le2, nI_ix]
    by_cases ck : k < D 324 32
    · obtain ⟨g1, g2, g3, g4, g5, g6, g7⟩ := hws.2 k ck
      have s1 := std_lt (D := D) v g2
      have s2 := std_lt (D := D) v g3
      have h9 := hM'.lt (k := 349) (j := k) (by omega) (by omega)
      rw [if_neg (by omega), hM'.r (k := 345) (by omega) (by omega), hM'.r (k := 346) (by omega) (by omega), hM'.r (k := 348) (by omega) (by omega), hM'.r (k := 349) (by omega) (by omega)]
      simp (disch := omega) only [gd_n, nI_ix, h3, nI_eq2]
      have go : ∀ τ', (∀ x a b o, shp D v o x (k + 1) a b ↔ (shp D v o x k a b)) → τ' = τ → ok (q (nI v) (nI k + 1) τ') (fun _ τ => ML D v τ ∧ Fr wlks σ τ) := by
        intro τ' hz e
        subst e
        exact hq (k + 1) _ _ (by omega) (by omega) ⟨nI_1 k, hF, h3, hR, AM_iff hL (fun o a b _ _ _ => or_congr Iff.rfl (hz 1 a b o).symm), AM_iff hP (fun o a b _ _ _ => (hz 0 a b o).symm)⟩
      have up : ∀ x a b o, shp D v o x (k + 1) a b ↔ (shp D v o x k a b ∨ (sC D v k ∧ D 347 k = x ∧ D 344 k = o ∧ std D v (D 345 k) ≠ std D v (D 346 k) ∧ ab2 (std D v (D 345 k)) (std D v (D 346 k)) a b)) := by
        intro x a b o
        refine ⟨fun ⟨k', y1, y2⟩ => ?_, fun z => ?_⟩
        · rcases Nat.lt_or_ge k' k with w | w
          · exact Or.inl ⟨k', w, y2⟩
          · have : k' = k := by omega
            subst this
            exact Or.inr y2
        · rcases z with ⟨k', y1, y2⟩ | z
          · exact ⟨k', by omega, y2⟩
          · exact ⟨k, by omega, z⟩
      refine ok_ite (fun z => go τ (fun x a b o => (up x a b o).trans ⟨fun y => y.resolve_right (fun w => w.2.2.2.1 z), Or.inl⟩) rfl) (fun z => ?_)
      rw [e_counts, bd_some, ite_bI]
      have ic : (nI (D 348 k) ≤ nI v ∧ nI v < nI (D 349 k)) ↔ sC D v k := and_congr (nI_le2 (by omega) (by omega)) (nI_lt2 (by omega) (by omega))
      rw [ite_iff ic]
      refine ok_ite (fun z2 => ?_) (fun z2 => go τ (fun x a b o => (up x a b o).trans ⟨fun y => y.resolve_right (fun w => z2 w.1), Or.inl⟩) rfl)
      rw [hM'.r (k := 347) (by omega) (by omega), hM'.r (k := 344) (by omega) (by omega), nar_1, li1600, li40]
      simp (disch := omega) only [pk_mul, nI_add, gd_n, nI_ix]
      rw [ite_iff (eq0_n (a := D 347 k) (by omega))]
      refine ok_ite (fun z3 => ?_) (fun z3 => ?_)
      · refine hq (k + 1) _ _ (by omega) (by omega) ⟨nI_1 k, (hF.w (by omega)).w (by omega), fun s hs => ?_, ⟨?_, fun k' hk' => ?_⟩, AM_iff (AM_fr hL (fun j => by rw [rI_nk (by omega), rI_nk (by omega)])) (fun o a b _ _ _ => or_congr Iff.rfl ((up 1 a b o).trans ⟨fun y => y.resolve_right (fun w => by omega), Or.inl⟩).symm), AM_iff (AM_set hP g1 s1 s2) (fun o a b _ _ _ => ⟨fun y => (up 0 a b o).mpr ?_, fun y => ?_⟩)⟩
        · rw [rI_nk (by omega), rI_nk (by omega)]; exact h3 s hs
        · rw [rI_nk (by omega), rI_nk (by omega)]; exact hR.1
        · refine ⟨by rw [rI_nk (by omega), rI_nk (by omega)]; exact (hR.2 k' hk').1, fun i hi => by rw [rI_nk (by omega), rI_nk (by omega)]; exact (hR.2 k' hk').2 i hi⟩
        · rcases y with y | ⟨rfl, y⟩
          · exact Or.inl y
          · exact Or.inr ⟨z2, z3, rfl, z, y⟩
        · rcases (up 0 a b o).mp y with y | ⟨-, -, e, -, y⟩
          · exact Or.inl y
          · exact Or.inr ⟨e.symm, y⟩
      · refine ok_bd (m_links hL g1 s1 s2) (fun _ τ' h' => ?_)
        refine hq (k + 1) _ _ (by omega) (by omega) ⟨nI_1 k, hF.trans (h'.2.mono (fun k j e => by omega)), fun s hs => (h'.2.I _ _ (by omega)).trans (h3 s hs), ⟨(h'.2.I _ _ (by omega)).trans hR.1, fun k' hk' => ⟨(h'.2.I _ _ (by omega)).trans (hR.2 k' hk').1, fun i hi => (h'.2.I _ _ (by omega)).trans ((hR.2 k' hk').2 i hi)⟩⟩, AM_iff h'.1 (fun o a b _ _ _ => ⟨fun y => ?_, fun y => ?_⟩), AM_iff (AM_fr hP (fun j => h'.2.I _ _ (by omega))) (fun o a b _ _ _ => ((up 0 a b o).trans ⟨fun y => y.resolve_right (fun w => z3 w.2.1), Or.inl⟩).symm)⟩
        · rcases y with (y | y) | ⟨rfl, y⟩
          · exact Or.inl y
          · exact Or.inr ((up 1 a b o).mpr (Or.inl y))
          · exact Or.inr ((up 1 a b _).mpr (Or.inr ⟨z2, by omega, rfl, z, y⟩))
        · rcases y with y | y
          · exact Or.inl (Or.inl y)
          · rcases (up 1 a b o).mp y with y | ⟨-, -, e, -, y⟩
            · exact Or.inl (Or.inr y)
            · exact Or.inr ⟨e.symm, y⟩
    · rw [if_pos (by omega)]
      have e : k = D 324 32 := by omega
      subst e
      refine ok_bd (m_findClasses (L := lk D v) hL (fun o a b => lk_symm v o a b) (fun o a b ho h => ⟨(lk_lt hw ho h).1, (lk_lt hw ho h).2.1⟩)) (fun _ τ' h' => ?_)
      exact ok_ret ⟨⟨fun s hs => (h'.2.I _ _ (by omega)).trans (h3 s hs), ⟨(h'.2.I _ _ (by omega)).trans hR.1, fun k' hk' => ⟨(h'.2.I _ _ (by omega)).trans (hR.2 k' hk').1, fun i hi => (h'.2.I _ _ (by omega)).trans ((hR.2 k' hk').2 i hi)⟩⟩, AM_fr hL (fun j => h'.2.I _ _ (by omega)), AM_fr hP (fun j => h'.2.I _ _ (by omega)), h'.1⟩, hF.trans (h'.2.mono (fun k j e => by omega))⟩
  have A47 : ∀ τ, Fr wlks σ τ → (∀ s, s < 40 → rI τ 343 s = nI (std D v s)) → MR D v (8 * D 324 2) τ → AM τ 352 (fun _ _ _ => False) → AM τ 353 (fun _ _ _ => False) → ok (f_X13_findLinks_47 Fu (nI v) (rxI D v) 0 τ) (fun _ τ => ML D v τ ∧ Fr wlks σ τ) := by
    intro τ hF h3 hR hL hP
    refine L_X13_findLinks_47 (ncl D v) (fun c l3 τ => l3 = nI c ∧ Fr wlks σ τ ∧ (∀ s, s < 40 → rI τ 343 s = nI (std D v s)) ∧ MR D v (8 * D 324 2) τ ∧ AM τ 352 (fun o a b => lkc D v o c a b) ∧ AM τ 353 (fun _ _ _ => False)) (by omega) (fun c q l3 τ hk hI hq => ?_) (Nat.zero_le _) ⟨rfl, hF, h3, hR, AM_iff hL (fun o a b _ _ _ => ⟨fun z => z.elim, fun ⟨c', hc', _⟩ => by omega⟩), hP⟩
    obtain ⟨rfl, hF, h3, hR, hL, hP⟩ := hI
    have hM' : MD D τ := MD_fr hM hF np
    unfold s_X13_findLinks_47 f_X13_findLinks_87 f_X13_findLinks_93
    have fin : c = ncl D v → ok (f_X13_findLinks_95 Fu (nI v) 0 τ) (fun _ τ => ML D v τ ∧ Fr wlks σ τ) := fun e => A95 τ hF h3 hR (by subst e; exact hL) hP
    by_cases c0 : rIx D v = 10
    · rw [rxI_no c0, if_pos rfl]
      exact fin (by unfold ncl at hk ⊢; rw [if_pos c0] at hk ⊢; omega)
    · have hx := rIx_lt hwr v c0
      have h10 := hwr.1
      rw [rxI_ix c0] at hq
      rw [rxI_ix c0, if_neg (show ¬ nI (rIx D v) = -1 from fun z => (nI_m1 (by omega)).mp z), gd_n (by omega) (by omega)]
      simp (disch := omega) only [nI_ix]
      rw [m_ncl hwr hM' c0, li12, li2]
      simp (disch := omega) only [nI_le2, pk_mul, nI_add, nI_ix]
      by_cases cc : c < ncl D v
      · obtain ⟨f2, f0⟩ := m_cl hwr hM' cc (k := 332) (by omega)
        have g1 := (cl_dw hwr cc).1
        rw [if_neg (by omega), gd_n (by omega) (by omega), f2, ite_iff (nI_le2 (by omega) (by omega))]
        refine ok_ite (fun z => hq (c + 1) _ _ (by omega) (by omega) ⟨nI_1 c, hF, h3, hR, AM_iff hL (fun o a b ho _ _ => ⟨fun ⟨c', y1, y2⟩ => ⟨c', by omega, y2⟩, fun ⟨c', y1, y2, y3⟩ => ⟨c', ?_, y2, y3⟩⟩), hP⟩) (fun z => ?_)
        · rcases Nat.lt_or_ge c' c with w | w
          · exact w
          · have : c' = c := by omega
            subst this
            omega
        · refine ok_bd (m_linksBy hwt hwr hM' hR cc (by omega) hL) (fun _ τ' h' => ?_)
          refine hq (c + 1) _ _ (by omega) (by omega) ⟨nI_1 c, hF.trans (h'.2.mono (fun k j e => by omega)), fun s hs => (h'.2.I _ _ (by omega)).trans (h3 s hs), ⟨(h'.2.I _ _ (by omega)).trans hR.1, fun k' hk' => ⟨(h'.2.I _ _ (by omega)).trans (hR.2 k' hk').1, fun i hi => (h'.2.I _ _ (by omega)).trans ((hR.2 k' hk').2 i hi)⟩⟩, AM_iff h'.1 (fun o a b ho _ _ => ⟨fun y => ?_, fun ⟨c', y1, y2, y3⟩ => ?_⟩), AM_fr hP (fun j => h'.2.I _ _ (by omega))⟩
          · rcases y with ⟨c', y1, y2⟩ | ⟨y1, y2⟩
            · exact ⟨c', by omega, y2⟩
            · exact ⟨c, by omega, y1.symm, y2⟩
          · rcases Nat.lt_or_ge c' c with w | w
            · exact Or.inl ⟨c', w, y2, y3⟩
            · have : c' = c := by omega
              subst this
              exact Or.inr ⟨y2.symm, y3⟩
      · rw [if_pos (by omega)]
        exact fin (by omega)
  unfold f_X13_findLinks
  refine ok_bd (m_findStands hwh hM hv) (fun _ τ1 h1 => ?_)
  refine ok_bd (m_findWholes hwt (MD_fr hM h1.2 (fun k j hp z => np k j hp (Or.inl z))) hv h1.1) (fun _ τ2 h2 => ?_)
  have hF2 : Fr wlks σ τ2 := (h1.2.mono (fun k j z => Or.inl z)).trans (h2.2.mono (fun k j z => by omega))
  have h3 : ∀ s, s < 40 → rI τ2 343 s = nI (std D v s) := fun s hs => (h2.2.I _ _ (by omega)).trans (h1.1 s hs)
  refine L_X13_findLinks_12 3200 (fun k l2 τ => l2 = nI k ∧ (∀ j, j < k → rI τ 352 j = 0 ∧ rI τ 353 j = 0) ∧ Fr (fun k _ => k = 352 ∨ k = 353) τ2 τ) (by omega) (fun k q l2 τ hk hI hq => ?_) (Nat.zero_le _) ⟨rfl, fun j hj => by omega, Fr.refl⟩
  obtain ⟨rfl, h0, hF⟩ := hI
  unfold s_X13_findLinks_12
  rw [li3200, nar_0]
  simp (disch := omega) only [nI_le2, nI_ix]
  by_cases ck : k < 3200
  · rw [if_neg (by omega), gd_n ck (by omega), gd_n ck (by omega)]
    refine hq (k + 1) _ _ (by omega) (by omega) ⟨nI_1 k, fun j hj => ?_, (hF.w (Or.inl rfl)).w (Or.inr rfl)⟩
    rw [rI_nk (show 352 ≠ 353 by omega)]
    by_cases e : j = k
    · subst e; exact ⟨rI_same _ _ _ _, rI_same _ _ _ _⟩
    · rw [rI_nj e, rI_nj e, rI_nk (show 353 ≠ 352 by omega)]; exact h0 j (by omega)
  · rw [if_pos (by omega)]
    have hF3 : Fr wlks σ τ := hF2.trans (hF.mono (fun k j z => by omega))
    rw [m_rulesBy hwr (MD_fr hM hF3 np) hv, bd_some]
    refine A47 τ hF3 (fun s hs => (hF.I _ _ (by omega)).trans (h3 s hs)) ⟨(hF.I _ _ (by omega)).trans h2.1.1, fun k' hk' => ⟨(hF.I _ _ (by omega)).trans (h2.1.2 k' hk').1, fun i hi => (hF.I _ _ (by omega)).trans ((h2.1.2 k' hk').2 i hi)⟩⟩ (fun o ho a ha b hb => ?_) (fun o ho a ha b hb => ?_)
    · rw [(h0 _ (by omega)).1, bJ_neg (fun z => z)]
    · rw [(h0 _ (by omega)).2, bJ_neg (fun z => z)]
end CLS
