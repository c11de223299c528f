/-! laying in any order -/
section ORD
variable {D : dD} {v : Nat}
theorem agr_symm {s c t d : Nat} (h : agr D v s c t d) : agr D v t d s c := ⟨fun z => h.1 z.symm, fun z => (h.2.1 z.symm).symm, fun z => (h.2.2.1 z.symm).symm, fun z y => h.2.2.2.1 (pt_symm _ _ _ _ z) y.symm, fun z y => h.2.2.2.2 (pt_symm _ _ _ _ z) y.symm⟩
/-- all that is given goes together -/
def CP (D : dD) (v : Nat) (g : gF) : Prop := ∀ s t, s < 40 → t < 40 → s ≠ t → g s ≠ 135 → g t ≠ 135 → agr D v s (g s) t (g t)
def LEg (g h : gF) : Prop := ∀ t, g t ≠ 135 → h t = g t
/-- a row's signs have its cells -/
def RS (D : dD) (v : Nat) (C : Nat → Nat) (w n : Nat) (h : gF) : Prop := ∀ j, j < n → D 329 (6 * w + j) ≠ 99 → h (std D v (D 329 (6 * w + j))) = C j
theorem CP_0 : CP D v g0 := fun _ _ _ _ _ h _ => absurd rfl h
theorem LEg_0 (h : gF) : LEg g0 h := fun _ z => absurd rfl z
theorem LEg_t {g h k : gF} (h1 : LEg g h) (h2 : LEg h k) : LEg g k := fun t ht => by rw [h2 t (by rw [h1 t ht]; exact ht), h1 t ht]
theorem RS_le {C : Nat → Nat} {w n : Nat} {g h : gF} (hC : ∀ j, j < n → C j < 135) (h1 : RS D v C w n g) (h2 : LEg g h) : RS D v C w n h := fun j hj hn => by
  have e := h1 j hj hn
  have := hC j hj
  rw [h2 _ (by omega), e]
theorem ly_sd {C : Nat → Nat} {w n : Nat} {g g' : gF} (hw : ∀ j, j < n → D 329 (6 * w + j) = 99 ∨ D 329 (6 * w + j) < 40) (hC : ∀ j, j < n → C j < 135) (hg : CP D v g) (h : ly D v C w g n = some g') : CP D v g' ∧ LEg g g' ∧ RS D v C w n g' := by
  induction n generalizing g' with
  | zero =>
    rw [ly_0] at h
    cases h
    exact ⟨hg, fun _ _ => rfl, fun j hj => by omega⟩
  | succ n ih =>
    rw [ly_s] at h
    cases h1 : ly D v C w g n with
    | none => rw [h1] at h; cases h
    | some g1 =>
      rw [h1] at h
      have h : sl D v g1 (D 329 (6 * w + n)) (C n) = some g' := h
      obtain ⟨i1, i2, i3⟩ := ih (fun j hj => hw j (by omega)) (fun j hj => hC j (by omega)) h1
      unfold sl at h
      by_cases c : D 329 (6 * w + n) = 99
      · rw [if_pos c] at h
        cases h
        refine ⟨i1, i2, fun j hj hn => ?_⟩
        by_cases e : j = n
        · subst e; exact absurd c hn
        · exact i3 j (by omega) hn
      · rw [if_neg c] at h
        have hs := std_lt (D := D) v ((hw n (by omega)).resolve_left c)
        have hcn := hC n (by omega)
        generalize hsd : std D v (D 329 (6 * w + n)) = s at *
        by_cases ca : agb D v g1 s (C n) = true
        · rw [if_pos ca] at h
          cases h
          have hle : LEg g1 (up g1 s (C n)) := fun t ht => by
            by_cases e : t = s
            · subst e
              rw [up_same]
              rcases agb_t.mp ca with z | z
              · exact z.symm
              · exact absurd z.1 ht
            · exact up_ne _ _ e
          refine ⟨?_, LEg_t i2 hle, fun j hj hn => ?_⟩
          · rcases agb_t.mp ca with z | ⟨z1, z2⟩
            · rw [up_id z]; exact i1
            · intro a b ha hb hab h1 h2
              by_cases ea : a = s
              · subst ea
                rw [up_same, up_ne _ _ (fun z => hab z.symm)]
                rw [up_ne _ _ (fun z => hab z.symm)] at h2
                exact z2 b hb h2
              · rw [up_ne _ _ ea]
                rw [up_ne _ _ ea] at h1
                by_cases eb : b = s
                · subst eb
                  rw [up_same]
                  exact agr_symm (z2 a ha h1)
                · rw [up_ne _ _ eb]
                  rw [up_ne _ _ eb] at h2
                  exact i1 a b ha hb hab h1 h2
          · by_cases e : j = n
            · subst e; rw [hsd, up_same]
            · have e1 := i3 j (by omega) hn
              have := hC j (by omega)
              rw [hle _ (by omega), e1]
        · rw [if_neg ca] at h; cases h
theorem ly_mk {C : Nat → Nat} {w n : Nat} {g h : gF} (hw : ∀ j, j < n → D 329 (6 * w + j) = 99 ∨ D 329 (6 * w + j) < 40) (hC : ∀ j, j < n → C j < 135) (hh : CP D v h) (hg : LEg g h) (hr : RS D v C w n h) : ∃ g', ly D v C w g n = some g' ∧ LEg g' h := by
  induction n with
  | zero => exact ⟨g, rfl, hg⟩
  | succ n ih =>
    obtain ⟨g1, h1, i1⟩ := ih (fun j hj => hw j (by omega)) (fun j hj => hC j (by omega)) (fun j hj => hr j (by omega))
    rw [ly_s, h1]
    show ∃ g', sl D v g1 (D 329 (6 * w + n)) (C n) = some g' ∧ LEg g' h
    unfold sl
    by_cases c : D 329 (6 * w + n) = 99
    · rw [if_pos c]; exact ⟨g1, rfl, i1⟩
    · rw [if_neg c]
      have hs := std_lt (D := D) v ((hw n (by omega)).resolve_left c)
      have hcn := hC n (by omega)
      have e := hr n (by omega) c
      generalize std D v (D 329 (6 * w + n)) = s at *
      have ca : agb D v g1 s (C n) = true := by
        refine agb_t.mpr ?_
        by_cases z : g1 s = 135
        · refine Or.inr ⟨z, fun t ht hgt => ?_⟩
          have et := i1 t hgt
          have := hh s t hs ht (fun y => hgt (by rw [← y]; exact z)) (by omega) (by rw [et]; exact hgt)
          rw [e, et] at this
          exact this
        · exact Or.inl (by rw [← i1 s z, e])
      rw [if_pos ca]
      refine ⟨_, rfl, fun t ht => ?_⟩
      by_cases et : t = s
      · subst et; rw [up_same]; exact e
      · rw [up_ne _ _ et] at ht ⊢
        exact i1 t ht
theorem fl_in {α : Type} {f : Nat → List α} {n q : Nat} {x : α} (hq : q < n) (h : x ∈ f q) : x ∈ fl f n := by
  induction n with
  | zero => omega
  | succ n ih =>
    rw [fl_s, List.mem_append]
    by_cases e : q = n
    · subst e; exact Or.inr h
    · exact Or.inl (ih (by omega))
/-- seats are sound: their cells are cells, their rows' signs are signs -/
def SOK (D : dD) (e : seT) (a b : Nat) : Prop := ∀ i, a ≤ i → i < b → (∀ j, j < e.2.1 i → e.2.2 i j < 135) ∧ ∀ q, q < D 327 (e.1 i) → D 328 (8 * e.1 i + q) = e.2.1 i → ∀ j, j < e.2.1 i → D 329 (6 * (8 * e.1 i + q) + j) = 99 ∨ D 329 (6 * (8 * e.1 i + q) + j) < 40
/-- seat i lies on row q under h -/
def SAT (D : dD) (v : Nat) (e : seT) (h : gF) (i q : Nat) : Prop := q < D 327 (e.1 i) ∧ D 328 (8 * e.1 i + q) = e.2.1 i ∧ RS D v (e.2.2 i) (8 * e.1 i + q) (e.2.1 i) h
theorem lvs_sd {e : seT} {m l : Nat} {g r : gF} {x : gF × gF} (ho : SOK D e l (l + m)) (hg : CP D v g) (hl : l + m ≤ 7) (hx : x ∈ lvs D v e m l g r) : CP D v x.1 ∧ LEg g x.1 ∧ (∀ i, i < l ∨ l + m ≤ i → x.2 i = r i) ∧ ∀ i, l ≤ i → i < l + m → SAT D v e x.1 i (x.2 i) ∧ (∀ i', i' < 7 → (i' < l ∨ l + m ≤ i') → r i' = x.2 i → e.1 i' ≠ e.1 i) ∧ (∀ i', l ≤ i' → i' < i → x.2 i' = x.2 i → e.1 i' ≠ e.1 i) := by
  induction m generalizing l g r with
  | zero =>
    rw [lvs_0, List.mem_singleton] at hx
    subst hx
    exact ⟨hg, fun _ _ => rfl, fun _ _ => rfl, fun i h1 h2 => by omega⟩
  | succ m ih =>
    rw [lvs_s] at hx
    obtain ⟨q, hq, hx⟩ := fl_mem hx
    unfold kid at hx
    cases h1 : stpo D v e l q g r with
    | none => rw [h1] at hx; cases hx
    | some g' =>
      rw [h1] at hx
      have hx : x ∈ lvs D v e m (l + 1) g' (up r l q) := hx
      unfold stpo at h1
      by_cases c : opb D e r l q = true
      · rw [if_pos c] at h1
        obtain ⟨c1, c2⟩ := decP_t.mp c
        obtain ⟨o1, o2⟩ := ho l (Nat.le_refl _) (by omega)
        obtain ⟨s1, s2, s3⟩ := ly_sd (o2 q hq c1) o1 hg h1
        obtain ⟨k1, k2, k3, k4⟩ := ih (fun i a b => ho i (by omega) (by omega)) s1 (by omega) hx
        have e0 : x.2 l = q := by rw [k3 l (by omega), up_same]
        refine ⟨k1, LEg_t s2 k2, fun i hi => ?_, fun i a b => ?_⟩
        · rw [k3 i (by omega), up_ne _ _ (by omega)]
        · by_cases ei : i = l
          · subst ei
            rw [e0]
            refine ⟨⟨hq, c1, RS_le o1 s3 k2⟩, fun i' h7 _ z => c2 i' h7 z, fun i' a' b' => by omega⟩
          · obtain ⟨m1, m2, m3⟩ := k4 i (by omega) (by omega)
            refine ⟨m1, fun i' h7 hi' z => m2 i' h7 (by omega) (by rw [up_ne _ _ (by omega)]; exact z), fun i' a' b' z => ?_⟩
            by_cases el : i' = l
            · subst el
              exact m2 i' (by omega) (by omega) (by rw [up_same, ← e0]; exact z)
            · exact m3 i' (by omega) b' z
      · rw [if_neg c] at h1; cases h1
theorem lvs_mk {e : seT} {m l : Nat} {g r h p : gF} (ho : SOK D e l (l + m)) (hh : CP D v h) (hg : LEg g h) (hp : ∀ i, l ≤ i → i < l + m → SAT D v e h i (p i) ∧ (∀ i', i' < 7 → r i' = p i → e.1 i' ≠ e.1 i) ∧ (∀ i', l ≤ i' → i' < i → p i' = p i → e.1 i' ≠ e.1 i)) : ∃ x, x ∈ lvs D v e m l g r ∧ LEg x.1 h ∧ (∀ i, l ≤ i → i < l + m → x.2 i = p i) ∧ ∀ i, i < l ∨ l + m ≤ i → x.2 i = r i := by
  induction m generalizing l g r with
  | zero => exact ⟨(g, r), by rw [lvs_0]; exact List.mem_singleton.mpr rfl, hg, fun i a b => by omega, fun _ _ => rfl⟩
  | succ m ih =>
    obtain ⟨⟨a1, a2, a3⟩, a4, a5⟩ := hp l (Nat.le_refl _) (by omega)
    obtain ⟨o1, o2⟩ := ho l (Nat.le_refl _) (by omega)
    obtain ⟨g', h1, h2⟩ := ly_mk (o2 _ a1 a2) o1 hh hg a3
    have hs : stpo D v e l (p l) g r = some g' := by
      unfold stpo
      rw [if_pos (show opb D e r l (p l) = true from decP_t.mpr ⟨a2, a4⟩)]
      exact h1
    obtain ⟨x, x1, x2, x3, x4⟩ := ih (l := l + 1) (g := g') (r := up r l (p l)) (fun i a b => ho i (by omega) (by omega)) h2 (fun i a b => by
      obtain ⟨b1, b2, b3⟩ := hp i (by omega) (by omega)
      refine ⟨b1, fun i' h7 z => ?_, fun i' a' b' z => b3 i' (by omega) b' z⟩
      by_cases el : i' = l
      · subst el
        rw [up_same] at z
        exact b3 i' (Nat.le_refl _) (by omega) z
      · rw [up_ne _ _ el] at z
        exact b2 i' h7 z)
    refine ⟨x, ?_, x2, fun i a b => ?_, fun i hi => by rw [x4 i (by omega), up_ne _ _ (by omega)]⟩
    · rw [lvs_s]
      refine fl_in a1 ?_
      unfold kid
      rw [hs]
      exact x1
    · by_cases el : i = l
      · subst el; rw [x4 i (by omega), up_same]
      · exact x3 i (by omega) (by omega)
end ORD
