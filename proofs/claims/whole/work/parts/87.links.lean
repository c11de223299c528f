/-! LINKS: what they are; the reference's -/
section LINKS
variable {D : dD} {σ : jM}
def lkc (D : dD) (v o n a b : Nat) : Prop := ∃ c, c < n ∧ cl D v 332 c = o ∧ cl D v 335 c ≤ pc D v c a b
def shp (D : dD) (v o x n a b : Nat) : Prop := ∃ k, k < n ∧ sC D v k ∧ D 347 k = x ∧ D 344 k = o ∧ std D v (D 345 k) ≠ std D v (D 346 k) ∧ ab2 (std D v (D 345 k)) (std D v (D 346 k)) a b
def lk (D : dD) (v o a b : Nat) : Prop := lkc D v o (ncl D v) a b ∨ shp D v o 1 (D 324 32) a b
def pt (D : dD) (v o a b : Nat) : Prop := shp D v o 0 (D 324 32) a b
theorem cnt_ex {p : Nat → Bool} {n : Nat} (h : 0 < cnt p n) : ∃ i, i < n ∧ p i = true := by
  obtain ⟨i, h1, h2, -⟩ := cnt_at h
  exact ⟨i, h1, h2⟩
theorem sm_ex {f : Nat → Nat} {n : Nat} (h : 0 < sm f n) : ∃ i, i < n ∧ 0 < f i := by
  induction n with
  | zero => rw [sm_0] at h; omega
  | succ n ih =>
    rw [sm_s] at h
    by_cases c : 0 < sm f n
    · obtain ⟨i, h1, h2⟩ := ih c
      exact ⟨i, by omega, h2⟩
    · exact ⟨n, by omega, by omega⟩
theorem tl_lt (hw : DWt D) {v c a b x y : Nat} (hx : x < wN D v) (hy : y < wN D v) (h : tl D v c a b x y = true) : a < 40 ∧ b < 40 ∧ a ≠ b := by
  have h24 := hw.1
  obtain ⟨h1, h2⟩ := of_decide_eq_true h
  obtain ⟨a1, a2, a3, a4, a5⟩ := wxr_dw hw (v := v) (k := x) (Nat.le_refl _) hx
  obtain ⟨b1, b2, b3, b4, b5⟩ := wxr_dw hw (v := v) (k := y) (Nat.le_refl _) hy
  have hu := (ui_spec (D := D) v (wxr D v x) (wxr D v y)).resolve_left h1.1
  have s1 := sg_lt hw (v := v) (by omega) a3 hu.2.1 a2
  have s2 := sg_lt hw (v := v) (i := ui D v (wxr D v x) (wxr D v y)) (by omega) b3 (by rw [← hu.1]; exact hu.2.1) b2
  have s3 := hu.2.2.1
  rcases h2 with ⟨e1, e2⟩ | ⟨e1, e2⟩
  · rw [e1] at s1 s3; rw [e2] at s2 s3; exact ⟨s1, s2, s3⟩
  · rw [e1] at s1 s3; rw [e2] at s2 s3; exact ⟨s2, s1, fun z => s3 z.symm⟩
theorem pc_pos (hw : DWt D) {v c a b : Nat} (h : 0 < pc D v c a b) : a < 40 ∧ b < 40 ∧ a ≠ b := by
  obtain ⟨y, h1, h2⟩ := sm_ex h
  obtain ⟨x, h3, h4⟩ := cnt_ex h2
  exact tl_lt hw (by omega) h1 h4
theorem lkc_symm {v o n a b : Nat} (h : lkc D v o n a b) : lkc D v o n b a := by
  obtain ⟨c, h1, h2, h3⟩ := h
  exact ⟨c, h1, h2, by rw [pc_symm]; exact h3⟩
theorem shp_symm {v o x n a b : Nat} (h : shp D v o x n a b) : shp D v o x n b a := by
  obtain ⟨k, h1, h2, h3, h4, h5, h6⟩ := h
  exact ⟨k, h1, h2, h3, h4, h5, h6.symm⟩
theorem lk_symm (v o a b : Nat) (h : lk D v o a b) : lk D v o b a := h.imp lkc_symm shp_symm
theorem pt_symm (v o a b : Nat) (h : pt D v o a b) : pt D v o b a := shp_symm h
theorem shp_lt (hw : DWs D) {v o x a b : Nat} (h : shp D v o x (D 324 32) a b) : a < 40 ∧ b < 40 ∧ a ≠ b ∧ o < 2 := by
  obtain ⟨k, h1, h2, h3, h4, h5, h6⟩ := h
  obtain ⟨g1, g2, g3, -⟩ := hw.2 k h1
  have s1 := std_lt (D := D) v g2
  have s2 := std_lt (D := D) v g3
  rcases h6 with ⟨e1, e2⟩ | ⟨e1, e2⟩
  · rw [e1] at s1 h5; rw [e2] at s2 h5; exact ⟨s1, s2, h5, by omega⟩
  · rw [e1] at s1 h5; rw [e2] at s2 h5; exact ⟨s2, s1, fun z => h5 z.symm, by omega⟩
theorem lkc_lt (hw : DWt D) (hwr : DWr D) {v o a b : Nat} (ho : o < 2) (h : lkc D v o (ncl D v) a b) : a < 40 ∧ b < 40 ∧ a ≠ b := by
  obtain ⟨c, h1, h2, h3⟩ := h
  have := ((cl_dw hwr h1).2.1 (by omega)).2.2.2.1
  have h0 : 0 < pc D v c a b := by omega
  exact pc_pos hw h0
theorem lk_lt (hw : DW D) {v o a b : Nat} (ho : o < 2) (h : lk D v o a b) : a < 40 ∧ b < 40 ∧ a ≠ b := by
  rcases h with h | h
  · exact lkc_lt hw.1 hw.2.1 ho h
  · exact ⟨(shp_lt hw.2.2.2.1 h).1, (shp_lt hw.2.2.2.1 h).2.1, (shp_lt hw.2.2.2.1 h).2.2.1⟩
/-! relations as arrays of truths -/
noncomputable def bJ (p : Prop) : Int32 := @ite _ p (Classical.propDecidable _) 1 0
theorem bJ_pos {p : Prop} (h : p) : bJ p = 1 := by unfold bJ; exact if_pos h
theorem bJ_neg {p : Prop} (h : ¬ p) : bJ p = 0 := by unfold bJ; exact if_neg h
theorem bJ_0 {p : Prop} : bJ p = 0 ↔ ¬ p := by
  by_cases h : p
  · rw [bJ_pos h]; exact ⟨fun z => absurd z (by decide), fun z => absurd h z⟩
  · rw [bJ_neg h]; exact ⟨fun _ => h, fun _ => rfl⟩
theorem bJ_congr {p q : Prop} (h : p ↔ q) : bJ p = bJ q := by rw [propext h]
def AM (σ : jM) (k : Nat) (L : Nat → Nat → Nat → Prop) : Prop := ∀ o, o < 2 → ∀ a, a < 40 → ∀ b, b < 40 → rI σ k (1600 * o + 40 * a + b) = bJ (L o a b)
theorem AM_iff {k : Nat} {L M : Nat → Nat → Nat → Prop} (h : AM σ k L) (e : ∀ o a b, o < 2 → a < 40 → b < 40 → (L o a b ↔ M o a b)) : AM σ k M := fun o ho a ha b hb => (h o ho a ha b hb).trans (bJ_congr (e o a b ho ha hb))
theorem AM_fr {k : Nat} {L : Nat → Nat → Nat → Prop} {τ : jM} (h : AM σ k L) (e : ∀ j, rI τ k j = rI σ k j) : AM τ k L := fun o ho a ha b hb => (e _).trans (h o ho a ha b hb)
theorem AM_set {k : Nat} {L : Nat → Nat → Nat → Prop} (h : AM σ k L) {o a b : Nat} (ho : o < 2) (ha : a < 40) (hb : b < 40) : AM (wI (wI σ k (1600 * o + 40 * a + b) 1) k (1600 * o + 40 * b + a) 1) k (fun o' a' b' => L o' a' b' ∨ (o' = o ∧ ab2 a b a' b')) := by
  intro o' ho' a' ha' b' hb'
  by_cases e : o' = o ∧ ab2 a b a' b'
  · rw [bJ_pos (Or.inr e)]
    obtain ⟨rfl, e⟩ := e
    rcases e with ⟨rfl, rfl⟩ | ⟨rfl, rfl⟩
    · rw [rI_wI]
      split
      · rfl
      · exact rI_same _ _ _ _
    · exact rI_same _ _ _ _
  · rw [rI_nj (fun z => e (by unfold ab2; omega)), rI_nj (fun z => e (by unfold ab2; omega)), h o' ho' a' ha' b' hb']
    exact bJ_congr ⟨fun z => Or.inl z, fun z => z.resolve_right e⟩
theorem m_links {L : Nat → Nat → Nat → Prop} (h : AM σ 352 L) {o a b : Nat} (ho : o < 2) (ha : a < 40) (hb : b < 40) : ok (f_X13_links (nI o) (nI a) (nI b) σ) (fun _ τ => AM τ 352 (fun o' a' b' => L o' a' b' ∨ (o' = o ∧ ab2 a b a' b')) ∧ Fr (fun k _ => k = 352) σ τ) := by
  unfold f_X13_links
  rw [li1600, li40, nar_1]
  simp (disch := omega) only [pk_mul, nI_add, gd_n, nI_ix]
  exact ok_ret ⟨AM_set h ho ha hb, Fr.w (W := fun k _ => k = 352) (Fr.w Fr.refl rfl) rfl⟩
/-- pairs of rows so far: all of a row below x, of row x those below y -/
noncomputable def pcm (D : dD) (v c x y a b : Nat) : Nat := sm (fun x => cnt (fun y => decide (x < y) && tl D v c a b x y) (wN D v)) x + cnt (fun y => decide (x < y) && tl D v c a b x y) y
theorem pcm_full (v c a b : Nat) : sm (fun x => cnt (fun y => decide (x < y) && tl D v c a b x y) (wN D v)) (wN D v) = pc D v c a b := dbl_cnt (fun x y => tl D v c a b x y) (wN D v)
def TY (D : dD) (v c x y : Nat) (σ : jM) : Prop := ∀ k, k < 1600 → rI σ 355 k = if k / 40 < k % 40 then nI (pcm D v c x y (k / 40) (k % 40)) else 0
abbrev w355 (k _j : Nat) : Prop := k = 355
set_option maxHeartbeats 4000000 in
theorem m_linksBy (hw : DWt D) (hwr : DWr D) (hM : MD D σ) {v c : Nat} {L : Nat → Nat → Nat → Prop} (hR : MR D v (8 * D 324 2) σ) (hc : c < ncl D v) (hs : cl D v 332 c < 2) (hL : AM σ 352 L) : ok (f_X13_linksBy (nI (12 * rIx D v + c)) σ) (fun _ τ => AM τ 352 (fun o a b => L o a b ∨ (o = cl D v 332 c ∧ cl D v 335 c ≤ pc D v c a b)) ∧ Fr (fun k _ => k = 352 ∨ k = 355) σ τ) := by
  have h24 := hw.1
  have hN := wN_le hw v
  obtain ⟨f2, f0⟩ := m_cl hwr hM hc (k := 332) (by omega)
  obtain ⟨f5, -⟩ := m_cl hwr hM hc (k := 335) (by omega)
  obtain ⟨g1, g2, g3, g4, g5⟩ := (cl_dw hwr hc).2.1 hs
  have A142 : ∀ τ, Fr w355 σ τ → TY D v c (wN D v) 0 τ → ok (f_X13_linksBy_142 Fu (nI (12 * rIx D v + c)) 0 τ) (fun _ τ => AM τ 352 (fun o a b => L o a b ∨ (o = cl D v 332 c ∧ cl D v 335 c ≤ pc D v c a b)) ∧ Fr (fun k _ => k = 352 ∨ k = 355) σ τ) := by
    intro τ hF hT
    have hpc : ∀ k, k < 1600 → rI τ 355 k = if k / 40 < k % 40 then nI (pc D v c (k / 40) (k % 40)) else 0 := fun k hk => by
      rw [hT k hk]
      unfold pcm
      rw [cnt_0, Nat.add_zero, pcm_full]
    refine L_X13_linksBy_142 1600 (fun k l2 τ' => l2 = nI k ∧ AM τ' 352 (fun o a b => L o a b ∨ (o = cl D v 332 c ∧ ∃ k', k' < k ∧ k' / 40 < k' % 40 ∧ cl D v 335 c ≤ pc D v c (k' / 40) (k' % 40) ∧ ab2 (k' / 40) (k' % 40) a b)) ∧ Fr (fun k _ => k = 352) τ τ') (by omega) (fun k q l2 τ' hk hI hq => ?_) (Nat.zero_le _) ⟨rfl, AM_iff (AM_fr hL (fun j => hF.I _ _ (by omega))) (fun o a b _ _ _ => ⟨fun z => Or.inl z, fun z => z.resolve_right (fun ⟨_, k', hk', _⟩ => by omega)⟩), Fr.refl⟩
    obtain ⟨rfl, hA, hF'⟩ := hI
    unfold s_X13_linksBy_142 f_X13_linksBy_182
    rw [li1600, li40]
    simp (disch := omega) only [nI_le2, nI_ix, div_n, rem_n, gd_n]
    have e5 : rI τ' 335 (12 * rIx D v + c) = nI (cl D v 335 c) := (hF'.I _ _ (by omega)).trans ((hF.I _ _ (by omega)).trans f5)
    have e2 : rI τ' 332 (12 * rIx D v + c) = nI (cl D v 332 c) := (hF'.I _ _ (by omega)).trans ((hF.I _ _ (by omega)).trans f2)
    by_cases ck : k < 1600
    · have hle := pc_le hw v c (k / 40) (k % 40)
      rw [if_neg (by omega), hF'.I 355 k (by omega), hpc k ck, e5, e2]
      have go : ¬ (k / 40 < k % 40 ∧ cl D v 335 c ≤ pc D v c (k / 40) (k % 40)) → ok (q (nI (12 * rIx D v + c)) (nI k + 1) τ') (fun _ τ => AM τ 352 (fun o a b => L o a b ∨ (o = cl D v 332 c ∧ cl D v 335 c ≤ pc D v c a b)) ∧ Fr (fun k _ => k = 352 ∨ k = 355) σ τ) := by
        intro z
        refine hq (k + 1) _ _ (by omega) (by omega) ⟨nI_1 k, AM_iff hA (fun o a b _ _ _ => or_congr Iff.rfl (and_congr Iff.rfl ⟨fun ⟨k', y1, y2⟩ => ⟨k', by omega, y2⟩, fun ⟨k', y1, y2, y3, y4⟩ => ⟨k', ?_, y2, y3, y4⟩⟩)), hF'⟩
        rcases Nat.lt_or_ge k' k with w | w
        · exact w
        · have : k' = k := by omega
          subst this
          exact absurd ⟨y2, y3⟩ z
      by_cases cd : k / 40 < k % 40
      · rw [if_pos cd, ite_iff (nI_lt2 (by omega) (by omega))]
        refine ok_ite (fun z => go (fun y => by omega)) (fun z => ?_)
        refine ok_bd (m_links hA hs (by omega) (by omega)) (fun _ τ2 h2 => ?_)
        refine hq (k + 1) _ _ (by omega) (by omega) ⟨nI_1 k, AM_iff h2.1 (fun o a b _ _ _ => ⟨fun w => ?_, fun w => ?_⟩), hF'.trans h2.2⟩
        · rcases w with (w | ⟨w1, k', y1, y2⟩) | ⟨w1, w2⟩
          · exact Or.inl w
          · exact Or.inr ⟨w1, k', by omega, y2⟩
          · exact Or.inr ⟨w1, k, by omega, cd, by omega, w2⟩
        · rcases w with w | ⟨w1, k', y1, y2, y3, y4⟩
          · exact Or.inl (Or.inl w)
          · rcases Nat.lt_or_ge k' k with w | w
            · exact Or.inl (Or.inr ⟨w1, k', w, y2, y3, y4⟩)
            · have : k' = k := by omega
              subst this
              exact Or.inr ⟨w1, y4⟩
      · rw [if_neg cd, if_pos (show (0 : Int32) < nI (cl D v 335 c) from (gt0_n (by omega)).mpr (by omega))]
        exact go (fun y => cd y.1)
    · rw [if_pos (by omega)]
      refine ok_ret ⟨AM_iff hA (fun o a b ho ha hb => or_congr Iff.rfl (and_congr Iff.rfl ⟨fun ⟨k', y1, y2, y3, y4⟩ => ?_, fun y => ?_⟩)), (hF.mono (fun k j z => Or.inr z)).trans (hF'.mono (fun k j z => Or.inl z))⟩
      · rcases y4 with ⟨rfl, rfl⟩ | ⟨rfl, rfl⟩
        · exact y3
        · rw [pc_symm]; exact y3
      · obtain ⟨p1, p2, p3⟩ := pc_pos hw (v := v) (c := c) (a := a) (b := b) (by omega)
        rcases Nat.lt_or_ge a b with w | w
        · refine ⟨40 * a + b, by omega, by omega, ?_, ?_⟩
          · rw [show (40 * a + b) / 40 = a by omega, show (40 * a + b) % 40 = b by omega]; exact y
          · rw [show (40 * a + b) / 40 = a by omega, show (40 * a + b) % 40 = b by omega]; exact Or.inl ⟨rfl, rfl⟩
        · refine ⟨40 * b + a, by omega, by omega, ?_, ?_⟩
          · rw [show (40 * b + a) / 40 = b by omega, show (40 * b + a) % 40 = a by omega, pc_symm]; exact y
          · rw [show (40 * b + a) / 40 = b by omega, show (40 * b + a) % 40 = a by omega]; exact Or.inr ⟨rfl, rfl⟩
  have A24 : ∀ τ, Fr w355 σ τ → TY D v c 0 0 τ → ok (f_X13_linksBy_24 Fu (nI (12 * rIx D v + c)) 0 τ) (fun _ τ => AM τ 352 (fun o a b => L o a b ∨ (o = cl D v 332 c ∧ cl D v 335 c ≤ pc D v c a b)) ∧ Fr (fun k _ => k = 352 ∨ k = 355) σ τ) := by
    intro τ hF hT
    refine L_X13_linksBy_24 (wN D v) (fun x l2 τ => l2 = nI x ∧ TY D v c x 0 τ ∧ Fr w355 σ τ) (by omega) (fun x q l2 τ hk hI hq => ?_) (Nat.zero_le _) ⟨rfl, hT, hF⟩
    obtain ⟨rfl, hT, hF⟩ := hI
    have e39 : rI τ 324 39 = nI (wN D v) := (hF.I _ _ (by omega)).trans hR.1
    unfold s_X13_linksBy_24
    rw [e39]
    simp (disch := omega) only [nI_le2]
    by_cases cx : x < wN D v
    · rw [if_neg (by omega)]
      refine L_X13_linksBy_36 (wN D v) (fun y l3 τ => x + 1 ≤ y ∧ l3 = nI y ∧ TY D v c x y τ ∧ Fr w355 σ τ) (by omega) (fun y q2 l3 τ hk2 hI2 hq2 => ?_) (k := x + 1) (by omega) ⟨Nat.le_refl _, nI_1 x, fun k hk3 => ?_, hF⟩
      · obtain ⟨hxy, rfl, hT, hF⟩ := hI2
        have hM' : MD D τ := MD_fr hM hF (fun k j hp z => by have := pers_ge hp; omega)
        have hR' : MR D v (8 * D 324 2) τ := ⟨(hF.I _ _ (by omega)).trans hR.1, fun k hk => ⟨(hF.I _ _ (by omega)).trans (hR.2 k hk).1, fun i hi => (hF.I _ _ (by omega)).trans ((hR.2 k hk).2 i hi)⟩⟩
        have e39 : rI τ 324 39 = nI (wN D v) := hR'.1
        unfold s_X13_linksBy_36 f_X13_linksBy_123 f_X13_linksBy_128
        rw [e39]
        simp (disch := omega) only [nI_le2]
        by_cases cy : y < wN D v
        · rw [if_neg (by omega), m_tellsBy hw hwr hM' hR' cx cy hc hs, bd_some, ite_bI]
          refine ok_ite (fun z => ?_) (fun z => hq2 (y + 1) _ _ (by omega) (by omega) ⟨by omega, nI_1 y, fun k hk3 => ?_, hF⟩)
          · rw [m_unlikeAt hw hR' cx cy, bd_some]
            obtain ⟨a1, a2, a3, a4, a5⟩ := wxr_dw hw (v := v) (k := x) (Nat.le_refl _) cx
            obtain ⟨b1, b2, b3, b4, b5⟩ := wxr_dw hw (v := v) (k := y) (Nat.le_refl _) cy
            have hu := (ui_spec (D := D) v (wxr D v x) (wxr D v y)).resolve_left z.1
            have s1 := sg_lt hw (v := v) (by omega) a3 hu.2.1 a2
            have s2 := sg_lt hw (v := v) (i := ui D v (wxr D v x) (wxr D v y)) (by omega) b3 (by rw [← hu.1]; exact hu.2.1) b2
            have s3 := hu.2.2.1
            have hl := hu.2.1
            rw [on_n z.1, li6, pk_mul, pk_mul, nI_add, nI_add, gd_n (by omega) (by omega), gd_n (by omega) (by omega)]
            simp (disch := omega) only [nI_ix]
            rw [(hR'.2 x cx).2 _ hl, (hR'.2 y cy).2 _ (by rw [← hu.1]; exact hl), li40]
            have go : ∀ p q : Nat, p < q → q < 40 → (∀ a b, a < b → (tl D v c a b x y = true ↔ (a = p ∧ b = q))) → ok (gd (inb (nI (40 * p + q)) 1600) (gd (inb (nI (40 * p + q)) 1600) (q2 (nI (12 * rIx D v + c)) (nI x) (nI y + 1) (wI τ 355 (40 * p + q) (rI τ 355 (40 * p + q) + 1))))) (fun _ τ => AM τ 352 (fun o a b => L o a b ∨ (o = cl D v 332 c ∧ cl D v 335 c ≤ pc D v c a b)) ∧ Fr (fun k _ => k = 352 ∨ k = 355) σ τ) := by
              intro p q hpq hq40 htl
              rw [gd_n (by omega) (by omega), gd_n (by omega) (by omega)]
              refine hq2 (y + 1) _ _ (by omega) (by omega) ⟨by omega, nI_1 y, fun k hk3 => ?_, hF.w rfl⟩
              have hTk := hT k hk3
              by_cases cd : k / 40 < k % 40
              · rw [if_pos cd] at hTk ⊢
                unfold pcm at hTk ⊢
                rw [cnt_s]
                by_cases e : k / 40 = p ∧ k % 40 = q
                · have ek : k = 40 * p + q := by omega
                  rw [if_pos (by rw [decide_eq_true (by omega), (htl _ _ cd).mpr e]; rfl), ← Nat.add_assoc, ← nI_1, ← hTk, ek]
                  exact rI_same _ _ _ _
                · rw [if_neg (fun w => e ((htl _ _ cd).mp (Bool.and_eq_true_iff.mp w).2)), Nat.add_zero (cnt (fun y => decide (x < y) && tl D v c (k / 40) (k % 40) x y) y), rI_nj (fun w => e (by omega)), hTk]
              · rw [if_neg cd] at hTk ⊢
                rw [rI_nj (by omega), hTk]
            by_cases hc3 : sg D v (wxr D v y) (ui D v (wxr D v x) (wxr D v y)) ≤ sg D v (wxr D v x) (ui D v (wxr D v x) (wxr D v y))
            · rw [if_pos ((nI_le2 (by omega) (by omega)).mpr hc3), pk_mul, nI_add]
              simp (disch := omega) only [nI_ix]
              refine go _ _ (by omega) s1 (fun a b hab => ⟨fun w => ?_, fun w => decide_eq_true ⟨z, Or.inr ⟨w.2.symm, w.1.symm⟩⟩⟩)
              rcases (of_decide_eq_true w).2 with w | w
              · omega
              · exact ⟨w.2.symm, w.1.symm⟩
            · rw [if_neg (fun w => hc3 ((nI_le2 (by omega) (by omega)).mp w)), pk_mul, nI_add]
              simp (disch := omega) only [nI_ix]
              refine go _ _ (by omega) s2 (fun a b hab => ⟨fun w => ?_, fun w => decide_eq_true ⟨z, Or.inl ⟨w.1.symm, w.2.symm⟩⟩⟩)
              rcases (of_decide_eq_true w).2 with w | w
              · exact ⟨w.1.symm, w.2.symm⟩
              · omega
          · have hTk := hT k hk3
            by_cases cd : k / 40 < k % 40
            · rw [if_pos cd] at hTk ⊢
              rw [hTk]
              unfold pcm
              rw [cnt_s, if_neg (fun w => z (of_decide_eq_true (Bool.and_eq_true_iff.mp w).2).1), Nat.add_zero]
            · rw [if_neg cd] at hTk ⊢
              exact hTk
        · rw [if_pos (by omega)]
          have e : y = wN D v := by omega
          subst e
          refine hq (x + 1) _ _ (by omega) (by omega) ⟨nI_1 x, fun k hk3 => ?_, hF⟩
          have hTk := hT k hk3
          by_cases cd : k / 40 < k % 40
          · rw [if_pos cd] at hTk ⊢
            rw [hTk]
            unfold pcm
            rw [sm_s, cnt_0, Nat.add_zero]
          · rw [if_neg cd] at hTk ⊢
            exact hTk
      · have hTk := hT k hk3
        by_cases cd : k / 40 < k % 40
        · rw [if_pos cd] at hTk ⊢
          rw [hTk]
          unfold pcm
          rw [cnt_0, cnt_zero (p := fun y => decide (x < y) && tl D v c (k / 40) (k % 40) x y) (n := x + 1) (fun i hi => by rw [decide_eq_false (by omega)]; rfl)]
        · rw [if_neg cd] at hTk ⊢
          exact hTk
    · rw [if_pos (by omega)]
      have e : x = wN D v := by omega
      subst e
      exact A142 τ hF hT
  unfold f_X13_linksBy
  refine L_X13_linksBy_2 1600 (fun k l2 τ => l2 = nI k ∧ (∀ j, j < k → rI τ 355 j = 0) ∧ Fr w355 σ τ) (by omega) (fun k q l2 τ hk hI hq => ?_) (Nat.zero_le _) ⟨rfl, fun j hj => by omega, Fr.refl⟩
  obtain ⟨rfl, h0, hF⟩ := hI
  unfold s_X13_linksBy_2
  rw [li1600]
  simp (disch := omega) only [nI_le2, nI_ix]
  by_cases ck : k < 1600
  · rw [if_neg (by omega), gd_n ck (by omega)]
    refine hq (k + 1) _ _ (by omega) (by omega) ⟨nI_1 k, fun j hj => ?_, hF.w rfl⟩
    by_cases e : j = k
    · subst e; exact rI_same _ _ _ _
    · rw [rI_nj e]; exact h0 j (by omega)
  · rw [if_pos (by omega)]
    refine A24 τ hF (fun k hk3 => ?_)
    rw [h0 k (by omega)]
    split
    · rfl
    · rfl
end LINKS
