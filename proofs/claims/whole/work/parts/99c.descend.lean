/-! THE SEARCH: the tree of ways, the class goes through it -/
section DSC
variable {D : dD} {σ : jM} {v : Nat}
noncomputable def stpo (D : dD) (v : Nat) (e : seT) (l q : Nat) (g r : gF) : Option gF := if opb D e r l q = true then ly D v (e.2.2 l) (8 * e.1 l + q) g (e.2.1 l) else none
def fl {α : Type} (f : Nat → List α) : Nat → List α := Nat.rec [] (fun q L => L ++ f q)
theorem fl_s {α : Type} (f : Nat → List α) (q : Nat) : fl f (q + 1) = fl f q ++ f q := rfl
theorem fl_pre {α : Type} (f : Nat → List α) {q n : Nat} (h : q ≤ n) : ∃ R, fl f n = fl f q ++ R := by
  induction n with
  | zero => have : q = 0 := by omega
            subst this; exact ⟨[], (List.append_nil _).symm⟩
  | succ n ih =>
    rcases Nat.lt_or_ge n q with w | w
    · have : q = n + 1 := by omega
      subst this; exact ⟨[], (List.append_nil _).symm⟩
    · obtain ⟨R, hR⟩ := ih w
      exact ⟨R ++ f n, by rw [fl_s, hR, List.append_assoc]⟩
theorem fl_mem {α : Type} {f : Nat → List α} {n : Nat} {x : α} (h : x ∈ fl f n) : ∃ q, q < n ∧ x ∈ f q := by
  induction n with
  | zero => cases h
  | succ n ih =>
    rw [fl_s, List.mem_append] at h
    rcases h with h | h
    · obtain ⟨q, h1, h2⟩ := ih h
      exact ⟨q, by omega, h2⟩
    · exact ⟨n, by omega, h⟩
/-- the ways on from level l, m levels to go -/
noncomputable def lvs (D : dD) (v : Nat) (e : seT) : Nat → Nat → gF → gF → List (gF × gF) := Nat.rec (fun _ g r => [(g, r)]) (fun _ F l g r => fl (fun q => (stpo D v e l q g r).elim [] (fun g' => F (l + 1) g' (up r l q))) (D 327 (e.1 l)))
noncomputable def kid (D : dD) (v : Nat) (e : seT) (m l : Nat) (g r : gF) (q : Nat) : List (gF × gF) := (stpo D v e l q g r).elim [] (fun g' => lvs D v e m (l + 1) g' (up r l q))
theorem lvs_0 (e : seT) (l : Nat) (g r : gF) : lvs D v e 0 l g r = [(g, r)] := rfl
theorem lvs_s (e : seT) (m l : Nat) (g r : gF) : lvs D v e (m + 1) l g r = fl (kid D v e m l g r) (D 327 (e.1 l)) := rfl
theorem ly_ext {C : Nat → Nat} {w n : Nat} {g g' : gF} (h : ly D v C w g n = some g') {t : Nat} (ht : g t ≠ 135) : g' t = g t := by
  induction n generalizing g' with
  | zero => rw [ly_0] at h; cases h; rfl
  | succ n ih =>
    rw [ly_s] at h
    cases h1 : ly D v C w g n with
    | none => rw [h1] at h; cases h
    | some g1 =>
      rw [h1] at h
      have h : sl D v g1 (D 329 (6 * w + n)) (C n) = some g' := h
      have e1 := ih h1
      unfold sl at h
      by_cases c : D 329 (6 * w + n) = 99
      · rw [if_pos c] at h; cases h; exact e1
      · rw [if_neg c] at h
        by_cases ca : agb D v g1 (std D v (D 329 (6 * w + n))) (C n) = true
        · rw [if_pos ca] at h
          cases h
          by_cases e : t = std D v (D 329 (6 * w + n))
          · rw [← e, up_same]
            rw [← e] at ca
            rcases agb_t.mp ca with z | z
            · rw [← z, e1]
            · rw [e1] at z; exact absurd z.1 ht
          · rw [up_ne _ _ e, e1]
        · rw [if_neg ca] at h; cases h
theorem stpo_ext {e : seT} {l q : Nat} {g r g' : gF} (h : stpo D v e l q g r = some g') {t : Nat} (ht : g t ≠ 135) : g' t = g t := by
  unfold stpo at h
  by_cases c : opb D e r l q = true
  · rw [if_pos c] at h; exact ly_ext h ht
  · rw [if_neg c] at h; cases h
theorem lvs_ext {e : seT} {m l : Nat} {g r : gF} {x : gF × gF} (h : x ∈ lvs D v e m l g r) {t : Nat} (ht : g t ≠ 135) : x.1 t = g t := by
  induction m generalizing l g r with
  | zero => rw [lvs_0, List.mem_singleton] at h; rw [h]
  | succ m ih =>
    rw [lvs_s] at h
    obtain ⟨q, hq, hx⟩ := fl_mem h
    unfold kid at hx
    cases h1 : stpo D v e l q g r with
    | none => rw [h1] at hx; cases hx
    | some g' =>
      rw [h1] at hx
      have hx : x ∈ lvs D v e m (l + 1) g' (up r l q) := hx
      have e1 := stpo_ext h1 ht
      rw [ih hx (by rw [e1]; exact ht), e1]
/-- how often a sign gets a cell -/
noncomputable def lct (s c : Nat) (L : List (gF × gF)) : Nat := L.countP (fun x => decide (x.1 s = c))
noncomputable def tc (g : gF) (s c : Nat) (L : List (gF × gF)) : Nat := if g s = 135 then lct s c L else 0
theorem tc_app (g : gF) (s c : Nat) (L M : List (gF × gF)) : tc g s c (L ++ M) = tc g s c L + tc g s c M := by
  unfold tc lct
  by_cases h : g s = 135
  · rw [if_pos h, if_pos h, if_pos h, List.countP_append]
  · rw [if_neg h, if_neg h, if_neg h]
theorem lct_all {s c d : Nat} {L : List (gF × gF)} (h : ∀ x, x ∈ L → x.1 s = d) : lct s c L = if d = c then L.length else 0 := by
  unfold lct
  by_cases e : d = c
  · rw [if_pos e, List.countP_eq_length]
    exact fun x hx => decide_eq_true (by rw [h x hx, e])
  · rw [if_neg e, List.countP_eq_zero]
    exact fun x hx z => e (by rw [← h x hx]; exact of_decide_eq_true z)
/-- the tallies over some ways -/
def TL (g : gF) (L : List (gF × gF)) (σ τ : jM) : Prop := (∀ s, s < 40 → ∀ c, c < 135 → rI τ 297 (135 * s + c) = rI σ 297 (135 * s + c) + nI (tc g s c L)) ∧ (∀ s, s < 64 → (bt (rL τ 296 1) s = true ↔ bt (rL σ 296 1) s = true ∨ (s < 40 ∧ g s = 135 ∧ ∃ x, x ∈ L ∧ x.1 s ≠ 135)))
theorem TL_0 (g : gF) : TL g [] σ σ := ⟨fun s hs c hc => by
  have : tc g s c [] = 0 := by unfold tc lct; split <;> rfl
  rw [this]
  exact (Int32.add_zero _).symm, fun s hs => ⟨Or.inl, fun z => z.elim id (fun y => by obtain ⟨_, _, x, hx, _⟩ := y; cases hx)⟩⟩
theorem TL_fr {g : gF} {L : List (gF × gF)} {σ τ τ' : jM} (h : TL g L σ τ) (h1 : ∀ j, rI τ' 297 j = rI τ 297 j) (h2 : rL τ' 296 1 = rL τ 296 1) : TL g L σ τ' := ⟨fun s hs c hc => by rw [h1]; exact h.1 s hs c hc, fun s hs => by rw [h2]; exact h.2 s hs⟩
theorem c_note {g g1 : gF} {l k d : Nat} {N : Nat → Nat} (hl : l < 7) (hg : CG g1 σ) (hN : NLs l k N σ) (hW : NW g g1 k N) (hk : k ≤ 6) : ok (f_X8_note (nI l) (nI d) σ) (fun _ τ => (∀ s, s < 40 → ∀ c, c < 135 → rI τ 297 (135 * s + c) = rI σ 297 (135 * s + c) + nI (if g s = 135 ∧ g1 s = c then d else 0)) ∧ (∀ s, s < 64 → (bt (rL τ 296 1) s = true ↔ bt (rL σ 296 1) s = true ∨ (s < 40 ∧ g s = 135 ∧ g1 s ≠ 135))) ∧ Fr (fun k j => k = 297 ∨ (k = 296 ∧ j = 1)) σ τ) := by
  unfold f_X8_note
  refine L_X8_note_2 k (fun i l3 τ => l3 = nI i ∧ (∀ s c, (∃ i', i' < i ∧ N i' = s) ∧ g1 s = c → c < 135 → rI τ 297 (135 * s + c) = rI σ 297 (135 * s + c) + nI d) ∧ (∀ s c, c < 135 → ¬ ((∃ i', i' < i ∧ N i' = s) ∧ g1 s = c) → rI τ 297 (135 * s + c) = rI σ 297 (135 * s + c)) ∧ (∀ s, s < 64 → (bt (rL τ 296 1) s = true ↔ bt (rL σ 296 1) s = true ∨ ∃ i', i' < i ∧ N i' = s)) ∧ Fr (fun k j => k = 297 ∨ (k = 296 ∧ j = 1)) σ τ) (by omega) (fun i p l3 τ hk2 hI hp => ?_) (Nat.zero_le _) ⟨rfl, fun s c h => by obtain ⟨⟨i', hi', _⟩, _⟩ := h; omega, fun s c _ _ => rfl, fun s hs => ⟨Or.inl, fun z => z.elim id (fun y => by obtain ⟨i', hi', _⟩ := y; omega)⟩, Fr.refl⟩
  obtain ⟨rfl, hA, hB, hC, hF⟩ := hI
  rw [q_s_X8_note_2]
  unfold f_X8_note_69
  simp (disch := omega) only [gd_n, nI_ix]
  rw [hF.I 319 l (by omega), hN.1, ite_iff (nI_le2 (by omega) (by omega))]
  by_cases ci : i < k
  · obtain ⟨w1, w2, w3⟩ := hW.1 i ci
    obtain ⟨c1, c2⟩ := hg.1 (N i) w1
    rw [if_neg (by omega), gd_n (by omega) (by omega), hF.I (312 + l) i (by omega), hN.2 i ci, li135]
    simp (disch := omega) only [gd_n, nI_ix]
    rw [hF.I 298 _ (by omega), c1, ite_iff (gz_m1 (by omega)), if_neg w3, gz_n w3]
    simp (disch := omega) only [pk_mul, nI_add, gd_n, nI_ix]
    rw [Nat.mul_comm (N i) 135]
    refine hp (i + 1) _ _ (by omega) (by omega) ⟨nI_1 i, fun s c h hc => ?_, fun s c hc h => ?_, fun s hs => ?_, Fr.wl (Fr.w hF (Or.inl rfl)) (Or.inr ⟨rfl, rfl⟩)⟩
    · obtain ⟨⟨i', hi', rfl⟩, rfl⟩ := h
      rw [rI_wL]
      by_cases e : i' = i
      · subst e
        rw [rI_same, hB _ _ hc (fun z => by obtain ⟨⟨i2, h2, h3⟩, _⟩ := z; exact hW.2.2 i2 i' h2 ci h3)]
      · have hne := hW.2.2 i' i (by omega) ci
        have := (hg.1 (N i') (hW.1 i' (by omega)).1).2
        rw [rI_nj (by omega)]
        exact hA _ _ ⟨⟨i', by omega, rfl⟩, rfl⟩ hc
    · rw [rI_wL]
      have hne : ¬ (135 * s + c = 135 * N i + g1 (N i)) := by
        intro z
        have e : s = N i := by omega
        refine h ⟨⟨i, by omega, e.symm⟩, ?_⟩
        rw [e]
        omega
      rw [rI_nj hne]
      exact hB s c hc (fun z => by obtain ⟨⟨i', h1, h2⟩, h3⟩ := z; exact h ⟨⟨i', by omega, h2⟩, h3⟩)
    · rw [rL_same, bt_or, bt_one (by omega) hs, Bool.or_eq_true, decide_eq_true_iff, hC s hs]
      refine ⟨fun z => ?_, fun z => ?_⟩
      · rcases z with (z | ⟨i', h1, h2⟩) | z
        · exact Or.inl z
        · exact Or.inr ⟨i', by omega, h2⟩
        · exact Or.inr ⟨i, by omega, z.symm⟩
      · rcases z with z | ⟨i', h1, h2⟩
        · exact Or.inl (Or.inl z)
        · by_cases e : i' = i
          · subst e; exact Or.inr h2.symm
          · exact Or.inl (Or.inr ⟨i', by omega, h2⟩)
  · have e : i = k := by omega
    subst e
    rw [if_pos (by omega)]
    have key : ∀ s, (∃ i', i' < i ∧ N i' = s) ↔ (s < 40 ∧ g s = 135 ∧ g1 s ≠ 135) := fun s => by
      refine ⟨fun z => ?_, fun z => Classical.byContradiction (fun y => ?_)⟩
      · obtain ⟨i', h1, rfl⟩ := z
        exact hW.1 i' h1
      · have := hW.2.1 s (fun i' hi' e => y ⟨i', hi', e⟩)
        rw [this] at z
        exact z.2.2 z.2.1
    refine ok_ret ⟨fun s hs c hc => ?_, fun s hs => ?_, hF⟩
    · by_cases h : g s = 135 ∧ g1 s = c
      · rw [if_pos h]
        exact hA s c ⟨(key s).mpr ⟨hs, h.1, by rw [h.2]; omega⟩, h.2⟩ hc
      · rw [if_neg h, hB s c hc (fun z => h ⟨((key s).mp z.1).2.1, z.2⟩)]
        exact (Int32.add_zero _).symm
    · rw [hC s hs, key s]
abbrev wD0 (l k j : Nat) : Prop := k = 298 ∨ (k = 296 ∧ (j = 13 ∨ j = 16)) ∨ k = 310 ∨ (312 + l ≤ k ∧ k ≤ 318) ∨ (k = 319 ∧ l ≤ j) ∨ k = 320 ∨ k = 321
abbrev wD (b : Prop) (l k j : Nat) : Prop := (b ∧ (k = 297 ∨ (k = 296 ∧ j = 1))) ∨ wD0 l k j
theorem wD_wS {b : Prop} {l k j : Nat} (h : wD b l k j) : wS k j := by
  rcases h with h | h
  · have := h.2; omega
  · omega
theorem wly_wD {b : Prop} {l k j : Nat} (hl : l < 7) (h : wly l k j) : wD b l k j := Or.inr (by omega)
theorem wD_up {b : Prop} {l k j : Nat} (h : wD b (l + 1) k j) : wD b l k j := h.elim Or.inl (fun y => Or.inr (by omega))
theorem wD_no {b : Prop} {l k j : Nat} (h : ¬ (k = 297 ∨ (k = 296 ∧ j = 1)) ∧ ¬ wD0 l k j) : ¬ wD b l k j := fun z => z.elim (fun y => h.1 y.2) (fun y => h.2 y)
theorem TL_comb {g g1 : gF} {A B : List (gF × gF)} {τ1 τ2 τ3 : jM} (T1 : TL g A σ τ1) (T2 : TL g1 B τ1 τ2) (hx : ∀ t, g t ≠ 135 → g1 t = g t) (hB : ∀ x, x ∈ B → ∀ t, g1 t ≠ 135 → x.1 t = g1 t) (h3 : ∀ s, s < 40 → ∀ c, c < 135 → rI τ3 297 (135 * s + c) = rI τ2 297 (135 * s + c) + nI (if g s = 135 ∧ g1 s = c then B.length else 0)) (h4 : ∀ s, s < 64 → (bt (rL τ3 296 1) s = true ↔ bt (rL τ2 296 1) s = true ∨ (B ≠ [] ∧ s < 40 ∧ g s = 135 ∧ g1 s ≠ 135))) : TL g (A ++ B) σ τ3 := by
  refine ⟨fun s hs c hc => ?_, fun s hs => ?_⟩
  · rw [h3 s hs c hc, T2.1 s hs c hc, T1.1 s hs c hc, Int32.add_assoc, Int32.add_assoc, nI_add, nI_add, tc_app]
    have : tc g s c B = tc g1 s c B + (if g s = 135 ∧ g1 s = c then B.length else 0) := by
      by_cases c1 : g s = 135
      · by_cases c2 : g1 s = 135
        · unfold tc
          rw [if_pos c1, if_pos c2, if_neg (fun z => by omega), Nat.add_zero]
        · have e1 : tc g1 s c B = 0 := by unfold tc; rw [if_neg c2]
          have e2 : tc g s c B = if g1 s = c then B.length else 0 := by unfold tc; rw [if_pos c1, lct_all (fun x hx' => hB x hx' s c2)]
          rw [e1, e2, Nat.zero_add]
          by_cases c3 : g1 s = c
          · rw [if_pos c3, if_pos ⟨c1, c3⟩]
          · rw [if_neg c3, if_neg (fun z => c3 z.2)]
      · have e1 := hx s c1
        unfold tc
        rw [if_neg c1, if_neg (by rw [e1]; exact c1), if_neg (fun z => c1 z.1)]
    rw [this]
  · rw [h4 s hs, T2.2 s hs, T1.2 s hs]
    refine ⟨fun z => ?_, fun z => ?_⟩
    · rcases z with ((z | ⟨z1, z2, x, z3, z4⟩) | ⟨z1, z2, x, z3, z4⟩) | ⟨z0, z1, z2, z3⟩
      · exact Or.inl z
      · exact Or.inr ⟨z1, z2, x, List.mem_append.mpr (Or.inl z3), z4⟩
      · refine Or.inr ⟨z1, Classical.byContradiction (fun y => ?_), x, List.mem_append.mpr (Or.inr z3), z4⟩
        rw [hx s y] at z2
        exact y z2
      · obtain ⟨x, hx'⟩ := List.exists_mem_of_ne_nil B z0
        exact Or.inr ⟨z1, z2, x, List.mem_append.mpr (Or.inr hx'), by rw [hB x hx' s z3]; exact z3⟩
    · rcases z with z | ⟨z1, z2, x, z3, z4⟩
      · exact Or.inl (Or.inl (Or.inl z))
      · rcases List.mem_append.mp z3 with z3 | z3
        · exact Or.inl (Or.inl (Or.inr ⟨z1, z2, x, z3, z4⟩))
        · by_cases c2 : g1 s = 135
          · exact Or.inl (Or.inr ⟨z1, c2, x, z3, z4⟩)
          · exact Or.inr ⟨fun y => (by rw [y] at z3; cases z3), z1, z2, c2⟩
/-- what going through the ways from a level on comes to -/
def DP (D : dD) (v : Nat) (e : seT) (b : Prop) (l M f : Nat) (g r : gF) (L : List (gF × gF)) (σ : jM) (ret : Int32) (τ : jM) : Prop := Fr (wD b l) σ τ ∧ ((f + L.length < M ∧ ret = 0 ∧ CG g τ ∧ CR7 r τ ∧ rI τ 296 16 = nI (f + L.length) ∧ (b → TL g L σ τ)) ∨ (M ≤ f + L.length ∧ ret = 1 ∧ ∃ x, L[M - f - 1]? = some x ∧ CG x.1 τ ∧ CR7 x.2 τ ∧ rI τ 296 16 = nI M))
theorem c_descend (hw : DW D) {e : seT} {n n' M : Nat} (hn : n ≤ n') (hM : M < 2147483648) (b : Prop) {m k l f : Nat} {g r : gF} (hk : m < k) (hlm : l + m = n) (hX : CX D v e n' σ) (h5 : rI σ 296 5 = nI n) (h17 : rI σ 296 17 = nI M) (h18 : b ↔ rI σ 296 18 ≠ 0) (h16 : rI σ 296 16 = nI f) (hf : f < M) (hg : CG g σ) (hr : CR7 r σ) (hrl : ∀ i, l ≤ i → i < n → r i = 99) (hrn : ∀ i, i < 7 → r i ≠ 99 → i < n') : ok (n_X8_descend k (nI l) σ) (DP D v e b l M f g r (lvs D v e m l g r) σ) := by
  have hn7 := hX.2.2.2.1
  induction m generalizing k l f g r σ with
  | zero =>
    obtain ⟨k, rfl⟩ : ∃ k', k = k' + 1 := ⟨k - 1, by omega⟩
    show ok (s_X8_descend (n_X8_descend k) (nI l) σ) _
    rw [q_s_X8_descend, h5, ite_iff (nI_lt2 (by omega) (by omega)), if_neg (by omega), h16, h17, nI_1, ite_iff (nI_lt2 (by omega) (by omega))]
    unfold f_X8_descend_34
    have hF : Fr (wD b l) σ (wI σ 296 16 (nI (f + 1))) := Fr.w Fr.refl (Or.inr (Or.inr (Or.inl ⟨rfl, Or.inr rfl⟩)))
    have c1 : CG g (wI σ 296 16 (nI (f + 1))) := CG_fr hg (fun s => by rw [rI_nk (by omega)]) (fun _ _ _ => rfl)
    have c2 : CR7 r (wI σ 296 16 (nI (f + 1))) := fun i hi => by rw [rI_nk (by omega)]; exact hr i hi
    refine ok_ite (fun z => ?_) (fun z => ?_)
    · rw [gd_0]
      refine ok_ret ⟨hF, Or.inl ⟨z, rfl, c1, c2, rI_same _ _ _ _, fun _ => ⟨fun s hs c hc => ?_, fun s hs => ?_⟩⟩⟩
      · rw [rI_nk (by omega), lvs_0]
        have : tc g s c [(g, r)] = 0 := by
          unfold tc
          by_cases h : g s = 135
          · rw [if_pos h, lct_all (d := 135) (fun x hx => by rw [List.mem_singleton] at hx; rw [hx]; exact h), if_neg (by omega)]
          · rw [if_neg h]
        rw [this]
        exact (Int32.add_zero _).symm
      · rw [rL_wI, lvs_0]
        refine ⟨Or.inl, fun y => y.elim id (fun w => ?_)⟩
        obtain ⟨_, w2, x, hx, hx2⟩ := w
        rw [List.mem_singleton] at hx
        rw [hx] at hx2
        exact absurd w2 hx2
    · rw [gd_1]
      have : M = f + 1 := by omega
      subst this
      exact ok_ret ⟨hF, Or.inr ⟨Nat.le_refl _, rfl, (g, r), by rw [lvs_0, show f + 1 - f - 1 = 0 by omega]; rfl, c1, c2, rI_same _ _ _ _⟩⟩
  | succ m ih =>
    obtain ⟨k, rfl⟩ : ∃ k', k = k' + 1 := ⟨k - 1, by omega⟩
    obtain ⟨h1, h2, h3, h4, hS⟩ := hX
    have hX : CX D v e n' σ := ⟨h1, h2, h3, h4, hS⟩
    obtain ⟨a1, a2, a3, a4, a5⟩ := hS l (by omega)
    have h24 := hw.1.1
    obtain ⟨b1, b2, b3, b4, b5⟩ := hw.1.2.1 (e.1 l) a1
    obtain ⟨x1, x2, x3, x4⟩ := h1.2.1 (e.1 l) a1
    show ok (s_X8_descend (n_X8_descend k) (nI l) σ) _
    rw [q_s_X8_descend, h5, ite_iff (nI_lt2 (by omega) (by omega)), if_pos (by omega), gd_n (by omega) (by omega)]
    simp (disch := omega) only [nI_ix]
    rw [a3, gd_n (by omega) (by omega)]
    simp (disch := omega) only [nI_ix]
    rw [x3]
    refine L_X8_descend_55 (D 327 (e.1 l)) (fun q l3 τ => l3 = nI q ∧ f + (fl (kid D v e m l g r) q).length < M ∧ CG g τ ∧ CR7 r τ ∧ rI τ 296 16 = nI (f + (fl (kid D v e m l g r) q).length) ∧ (b → TL g (fl (kid D v e m l g r) q) σ τ) ∧ Fr (wD b l) σ τ) (by omega) (fun q p l3 τ hkq hI hp => ?_) (Nat.zero_le _) ⟨rfl, hf, hg, hr, h16, fun _ => TL_0 g, Fr.refl⟩
    obtain ⟨rfl, hfM, hg, hr, e16, hT, hF⟩ := hI
    have hX1 : CX D v e n' τ := CX_fr hw hX (hF.mono (fun k j z => wD_wS z))
    have e18 : ∀ τ', Fr (wD b l) σ τ' → (b ↔ rI τ' 296 18 ≠ 0) := fun τ' hF' => by rw [hF'.I 296 18 (wD_no (by omega))]; exact h18
    unfold s_X8_descend_55 f_X8_descend_132
    rw [ite_iff (nI_le2 (by omega) (by omega))]
    by_cases cq : q < D 327 (e.1 l)
    · have nextq : ∀ τ', (kid D v e m l g r q).length = 0 → CG g τ' → CR7 r τ' → rI τ' 296 16 = nI (f + (fl (kid D v e m l g r) q).length) → (b → TL g (fl (kid D v e m l g r) q) σ τ') → Fr (wD b l) σ τ' → ok (p (nI l) (nI (D 327 (e.1 l))) (nI q + 1) τ') (DP D v e b l M f g r (lvs D v e (m + 1) l g r) σ) := fun τ' h0 u1 u2 u3 u4 u5 => by
        have e0 : kid D v e m l g r q = [] := List.eq_nil_of_length_eq_zero h0
        have e1 : fl (kid D v e m l g r) (q + 1) = fl (kid D v e m l g r) q := by rw [fl_s, e0, List.append_nil]
        exact hp (q + 1) _ _ (by omega) (by omega) ⟨nI_1 q, by rw [e1]; exact hfM, u1, u2, by rw [e1]; exact u3, by rw [e1]; exact u4, u5⟩
      rw [if_neg (by omega), c_isOpen hw hX1 (by omega) cq hr (fun i hi hri => by
        have := hrn i hi hri
        obtain ⟨t1, _, t3, _⟩ := hX1.2.2.2.2 i this
        exact ⟨by omega, t3⟩), bd_some, ite_bI]
      by_cases co : opb D e r l q = true
      · rw [if_pos co]
        have hz := (decP_t.mp co).1
        refine ok_bd (c_lay hw hX1 (by omega) cq hz hg) (fun ret τ1 hh => ?_)
        obtain ⟨g1, kk, N, hg1, hN, hW, hk6, e310, hF1, hres⟩ := hh
        have hFt1 : Fr (wD b l) σ τ1 := hF.trans (hF1.mono (fun k j z => wly_wD (by omega) z))
        have e161 : rI τ1 296 16 = nI (f + (fl (kid D v e m l g r) q).length) := (hF1.I _ _ (by omega)).trans e16
        have T1 : b → TL g (fl (kid D v e m l g r) q) σ τ1 := fun hb => TL_fr (hT hb) (fun j => hF1.I _ _ (by omega)) (hF1.L _ _ (by omega))
        have r1 : CR7 (up r l q) τ1 := fun i hi => by
          by_cases ei : i = l
          · subst ei
            rw [up_same, e310]
            exact ⟨by unfold rz; rw [if_neg (by omega)], Or.inr (by omega)⟩
          · rw [up_ne _ _ ei, hF1.I 310 i (by omega)]
            exact hr i hi
        have rback : ∀ τ' τ'', CR7 (up r l q) τ' → Fr (wly l) τ' τ'' → rI τ'' 310 l = -1 → CR7 r τ'' := fun τ' τ'' h' hF' e' i hi => by
          by_cases ei : i = l
          · subst ei
            rw [e', hrl i (by omega) (by omega)]
            exact ⟨rfl, Or.inl rfl⟩
          · have := h' i hi
            rw [up_ne _ _ ei] at this
            rw [hF'.I 310 i (by omega)]
            exact this
        rcases hres with ⟨rfl, hnone⟩ | ⟨rfl, hsome⟩
        · rw [if_pos rfl]
          have h0 : (kid D v e m l g r q).length = 0 := by
            unfold kid stpo
            rw [if_pos co, hnone]; rfl
          unfold f_X8_descend_99 f_X8_descend_127 f_X8_descend_132
          have lift : ok (bd (f_X8_lift (nI l) τ1) (fun _ σ4 => p (nI l) (nI (D 327 (e.1 l))) (nI q + 1) σ4)) (DP D v e b l M f g r (lvs D v e (m + 1) l g r) σ) := ok_bd (c_lift (by omega) hg1 hN hW hk6) (fun _ τ2 t => nextq τ2 h0 t.1 (rback τ1 τ2 r1 t.2.2 t.2.1) ((t.2.2.I _ _ (by omega)).trans e161) (fun hb => TL_fr (T1 hb) (fun j => t.2.2.I _ _ (by omega)) (t.2.2.L _ _ (by omega))) (hFt1.trans (t.2.2.mono (fun k j z => wly_wD (by omega) z))))
          refine ok_ite (fun _ => lift) (fun _ => ?_)
          rw [e161, e16, if_pos Int32.le_rfl]
          exact lift
        · rw [if_neg (by decide), nI_1]
          have ekid : kid D v e m l g r q = lvs D v e m (l + 1) g1 (up r l q) := by
            unfold kid stpo
            rw [if_pos co, hsome]; rfl
          have hX2 : CX D v e n' τ1 := CX_fr hw hX (hFt1.mono (fun k j z => wD_wS z))
          refine ok_bd (ih (k := k) (l := l + 1) (f := f + (fl (kid D v e m l g r) q).length) (by omega) (by omega) hX2 ((hFt1.I _ _ (wD_no (by omega))).trans h5) ((hFt1.I _ _ (wD_no (by omega))).trans h17) (e18 τ1 hFt1) e161 hfM hg1 r1 (fun i h1 h2 => by rw [up_ne _ _ (by omega)]; exact hrl i (by omega) h2) (fun i hi h => by
            by_cases ei : i = l
            · omega
            · rw [up_ne _ _ ei] at h; exact hrn i hi h)) (fun ret τ2 hh => ?_)
          rw [← ekid] at hh
          obtain ⟨hF2, hres⟩ := hh
          have hFt2 : Fr (wD b l) σ τ2 := hFt1.trans (hF2.mono (fun k j z => wD_up z))
          rcases hres with ⟨w1, rfl, w3, w4, w5, w6⟩ | ⟨w1, rfl, x, w3, w4, w5, w6⟩
          · rw [if_pos rfl]
            have hN2 : NLs l kk N τ2 := ⟨(hF2.I _ _ (wD_no (by omega))).trans hN.1, fun i hi => (hF2.I _ _ (wD_no (by omega))).trans (hN.2 i hi)⟩
            have hx1 : ∀ t, g t ≠ 135 → g1 t = g t := fun t ht => ly_ext hsome ht
            have hxB : ∀ x, x ∈ kid D v e m l g r q → ∀ t, g1 t ≠ 135 → x.1 t = g1 t := fun x hx t ht => by rw [ekid] at hx; exact lvs_ext hx ht
            have lift : ∀ τ', CG g1 τ' → NLs l kk N τ' → CR7 (up r l q) τ' → rI τ' 296 16 = nI (f + (fl (kid D v e m l g r) q).length + (kid D v e m l g r q).length) → (b → TL g (fl (kid D v e m l g r) q ++ kid D v e m l g r q) σ τ') → Fr (wD b l) σ τ' → ok (bd (f_X8_lift (nI l) τ') (fun _ σ4 => p (nI l) (nI (D 327 (e.1 l))) (nI q + 1) σ4)) (DP D v e b l M f g r (lvs D v e (m + 1) l g r) σ) := fun τ' u1 u2 u3 u4 u5 u6 => ok_bd (c_lift (by omega) u1 u2 hW hk6) (fun _ τ3 t => hp (q + 1) _ _ (by omega) (by omega) ⟨nI_1 q, by rw [fl_s, List.length_append]; omega, t.1, rback τ' τ3 u3 t.2.2 t.2.1, by rw [fl_s, List.length_append, ← Nat.add_assoc]; exact (t.2.2.I _ _ (by omega)).trans u4, fun hb => by rw [fl_s]; exact TL_fr (u5 hb) (fun j => t.2.2.I _ _ (by omega)) (t.2.2.L _ _ (by omega)), u6.trans (t.2.2.mono (fun k j z => wly_wD (by omega) z))⟩)
            unfold f_X8_descend_99 f_X8_descend_127 f_X8_descend_132
            refine ok_ite (fun z => lift τ2 w3 hN2 w4 w5 (fun hb => absurd z ((e18 τ2 hFt2).mp hb)) hFt2) (fun z => ?_)
            have hb : b := (e18 τ2 hFt2).mpr z
            rw [w5, e16, ite_iff (nI_le2 (by omega) (by omega))]
            refine ok_ite (fun y => ?_) (fun y => ?_)
            · have e0 : kid D v e m l g r q = [] := List.eq_nil_of_length_eq_zero (by omega)
              refine lift τ2 w3 hN2 w4 w5 (fun hb => TL_comb (T1 hb) (w6 hb) hx1 hxB (fun s hs c hc => ?_) (fun s hs => ?_)) hFt2
              · rw [e0]
                have : (if g s = 135 ∧ g1 s = c then ([] : List (gF × gF)).length else 0) = 0 := by split <;> rfl
                rw [this]
                exact (Int32.add_zero _).symm
              · exact ⟨Or.inl, fun w => w.elim id (fun u => absurd e0 u.1)⟩
            · rw [pk_sub (by omega), show f + (fl (kid D v e m l g r) q).length + (kid D v e m l g r q).length - (f + (fl (kid D v e m l g r) q).length) = (kid D v e m l g r q).length by omega]
              refine ok_bd (c_note (by omega) w3 hN2 hW hk6) (fun _ τ3 t => ?_)
              obtain ⟨t1, t2, t3⟩ := t
              have hFn : Fr (wD b l) τ2 τ3 := t3.mono (fun k j z => Or.inl ⟨hb, z⟩)
              refine lift τ3 (CG_fr w3 (fun s => t3.I _ _ (by omega)) (fun k j z => t3.L _ _ (by omega))) ⟨(t3.I _ _ (by omega)).trans hN2.1, fun i hi => (t3.I _ _ (by omega)).trans (hN2.2 i hi)⟩ (fun i hi => by rw [t3.I 310 i (by omega)]; exact w4 i hi) ((t3.I _ _ (by omega)).trans w5) (fun hb => TL_comb (T1 hb) (w6 hb) hx1 hxB t1 (fun s hs => ?_)) (hFt2.trans hFn)
              rw [t2 s hs]
              exact ⟨fun w => w.imp id (fun u => ⟨fun e0 => y (by rw [e0]; show _ + 0 ≤ _; omega), u⟩), fun w => w.imp id (fun u => u.2)⟩
          · rw [if_neg (by decide)]
            obtain ⟨R, hR⟩ := fl_pre (kid D v e m l g r) (q := q + 1) (n := D 327 (e.1 l)) (by omega)
            rw [fl_s] at hR
            refine ok_ret ⟨hFt2, Or.inr ⟨?_, rfl, x, ?_, w4, w5, w6⟩⟩
            · rw [lvs_s, hR, List.length_append, List.length_append]; omega
            · rw [lvs_s, hR, List.append_assoc, List.getElem?_append_right (by omega), show M - f - 1 - (fl (kid D v e m l g r) q).length = M - (f + (fl (kid D v e m l g r) q).length) - 1 by omega, List.getElem?_append_left (by omega)]
              exact w3
      · rw [if_neg co]
        exact nextq τ (by unfold kid stpo; rw [if_neg co]; rfl) hg hr e16 hT hF
    · have eq : q = D 327 (e.1 l) := by omega
      subst eq
      rw [if_pos (by omega)]
      exact ok_ret ⟨hF, Or.inl ⟨hfM, rfl, hg, hr, e16, hT⟩⟩
end DSC
