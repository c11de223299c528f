/-! HOW OFTEN a sign is where: often, rank -/
section OFT
variable {D : dD} {σ : jM}
def kd (i n : Nat) : Nat := if n = 1 then 2 else if i = 0 then 0 else if i = n - 1 then 1 else 3
theorem kd_lt (i n : Nat) : kd i n < 4 := by
  unfold kd
  repeat' split
  all_goals omega
/-- a row that counts -/
abbrev rok (D : dD) (v r : Nat) : Prop := r % 8 < D 327 (r / 8) ∧ tC D v (r / 8)
noncomputable def plp (D : dD) (v s x r i : Nat) : Bool := decide (D 329 (6 * r + i) ≠ 99 ∧ std D v (D 329 (6 * r + i)) = s ∧ (x = 4 ∨ kd i (D 328 r) = x))
noncomputable def plr (D : dD) (v s x r : Nat) : Nat := if rok D v r then cnt (plp D v s x r) (D 328 r) else 0
noncomputable def oft (D : dD) (v s x : Nat) : Nat := sm (plr D v s x) (8 * D 324 2)
theorem sm_zero {f : Nat → Nat} {a b : Nat} (h : a ≤ b) (hz : ∀ r, a ≤ r → r < b → f r = 0) : sm f b = sm f a := by
  induction b with
  | zero => have : a = 0 := by omega
            subst this; rfl
  | succ b ih =>
    rcases Nat.lt_or_ge a (b + 1) with w | w
    · rw [sm_s, hz b (by omega) (by omega), ih (by omega) (fun r h1 h2 => hz r h1 (by omega)), Nat.add_zero]
    · have : a = b + 1 := by omega
      subst this; rfl
theorem rem_n2 (a b : Nat) : nI a - nI (a / b * b) = nI (a % b) := by
  have h := Nat.div_add_mod a b
  rw [Nat.mul_comm] at h
  rw [pk_sub (by omega), show a - a / b * b = a % b by omega]
theorem row_dw (hw : DWt D) {r : Nat} (hr : r < 8 * D 324 2) (h : r % 8 < D 327 (r / 8)) : 1 ≤ D 328 r ∧ D 328 r ≤ 6 := by
  have := (hw.2.1 (r / 8) (by omega)).2.2.2.2 (r % 8) h
  rw [show 8 * (r / 8) + r % 8 = r by omega] at this
  exact this
theorem plr_le (hw : DWt D) {v s x r : Nat} (hr : r < 8 * D 324 2) : plr D v s x r ≤ 6 := by
  unfold plr
  split
  · rename_i h
    have := row_dw hw hr h.1
    have := cnt_le (plp D v s x r) (D 328 r)
    omega
  · omega
theorem sm_plr_le (hw : DWt D) {v s x n : Nat} (hn : n ≤ 8 * D 324 2) : sm (plr D v s x) n ≤ 1152 := by
  have h1 := sm_bound (f := plr D v s x) (n := n) (B := 6) (fun i hi => plr_le hw (by omega))
  have := hw.1
  omega
theorem oft_le (hw : DWt D) (v s x : Nat) : oft D v s x ≤ 1152 := sm_plr_le hw (Nat.le_refl _)
theorem std_lt {s : Nat} (v : Nat) (hs : s < 40) : std D v s < 40 := Nat.lt_of_le_of_lt (std_le D v s) hs
/-! the class counts the places -/
abbrev w323 (k _j : Nat) : Prop := k = 323
/-- the places, so far: rows below r, and of row r those below i -/
def PL (D : dD) (v r i : Nat) (σ : jM) : Prop := ∀ s, s < 40 → ∀ x, x < 5 → rI σ 323 (s * 5 + x) = nI (sm (plr D v s x) r + cnt (plp D v s x r) i)
theorem e_kind {i n : Nat} (hi : i < 6) (hn : 1 ≤ n) (hn2 : n ≤ 6) (σ : jM) : f_X1_kindOfPlace (nI i) (nI n) σ = some (nI (kd i n), σ) := by
  unfold f_X1_kindOfPlace f_X1_kindOfPlace_25 kd
  rw [sub1_n hn, ite_iff (show nI n = 1 ↔ n = 1 from nI_eq2 (b := 1) (by omega) (by omega)), ite_iff (eq0_n (a := i) (by omega)), ite_iff (nI_eq2 (a := i) (b := n - 1) (by omega) (by omega))]
  repeat' split
  all_goals rfl
theorem c_placesOf (hw : DWt D) (hc : CDt D σ) {v t : Nat} (ht : t < D 324 2) (hct : tC D v t) (h18 : ∀ s, s < 40 → rI σ 18 s = nI (std D v s)) (hP : PL D v (8 * t) 0 σ) : ok (f_X1_countPlacesOf t σ) (fun _ τ => PL D v (8 * (t + 1)) 0 τ ∧ Fr w323 σ τ) := by
  obtain ⟨b1, b2, b3, b4, b5⟩ := hw.2.1 t ht
  have h24 := hw.1
  obtain ⟨x1, x2, x3, x4⟩ := hc.2.1 t ht
  have htx : tabX t = 28 + 3 * t := rfl
  unfold f_X1_countPlacesOf
  refine L_X1_countPlacesOf_2 (D 327 t) (fun w l2 τ => l2 = nI w ∧ PL D v (8 * t + w) 0 τ ∧ Fr w323 σ τ) (by omega) (fun w q l2 τ hk hI hq => ?_) (Nat.zero_le _) ⟨rfl, hP, Fr.refl⟩
  obtain ⟨rfl, hP, hF⟩ := hI
  unfold s_X1_countPlacesOf_2
  rw [hF.I (tabX t) 2 (by omega), x3]
  simp (disch := omega) only [nI_le2]
  by_cases c : w < D 327 t
  · rw [if_neg (by omega)]
    obtain ⟨y1, y2⟩ := x4 w c
    obtain ⟨z1, z2⟩ := b5 w c
    have er : (8 * t + w) / 8 = t ∧ (8 * t + w) % 8 = w := by omega
    have hrok : rok D v (8 * t + w) := by show (8 * t + w) % 8 < D 327 ((8 * t + w) / 8) ∧ tC D v ((8 * t + w) / 8); rw [er.1, er.2]; exact ⟨c, hct⟩
    refine L_X1_countPlacesOf_12 (D 328 (8 * t + w)) (fun i l3 τ => l3 = nI i ∧ PL D v (8 * t + w) i τ ∧ Fr w323 σ τ) (by omega) (fun i q2 l3 τ hk2 hI2 hq2 => ?_) (Nat.zero_le _) ⟨rfl, hP, hF⟩
    obtain ⟨rfl, hP, hF⟩ := hI2
    rw [q_s_X1_countPlacesOf_12]
    unfold f_X1_countPlacesOf_85
    rw [gd_n (by omega) (by omega)]
    simp (disch := omega) only [nI_ix]
    rw [hF.I (tabX t + 1) w (by omega), y1]
    simp (disch := omega) only [nI_le2]
    by_cases c2 : i < D 328 (8 * t + w)
    · rw [if_neg (by omega), e_signAt (by omega), bd_some, hF.I (tabX t + 2) (6 * w + i) (by omega), y2 i c2]
      have hp9 := hw.2.2 (6 * (8 * t + w) + i) (by omega)
      rw [ite_iff (pz_m1 (by omega))]
      generalize hu : D 329 (6 * (8 * t + w) + i) = u at *
      have skip : ∀ s x, plp D v s x (8 * t + w) i = true → u ≠ 99 := fun s x z => by have := (of_decide_eq_true z).1; rw [hu] at this; exact this
      refine ok_ite (fun z => ?_) (fun z => ?_)
      · refine hq2 (i + 1) _ _ (by omega) (by omega) ⟨nI_1 i, fun s hs x hx => ?_, hF⟩
        rw [hP s hs x hx, cnt_s, if_neg (fun y => skip s x y z), Nat.add_zero]
      · have hu40 : u < 40 := hp9.resolve_left z
        have hS := std_lt (D := D) v hu40
        have hkd := kd_lt i (D 328 (8 * t + w))
        rw [pz_n z, gd_n (by omega) (by omega), gd_n (by omega) (by omega)]
        simp (disch := omega) only [nI_ix]
        rw [hF.I (tabX t + 1) w (by omega), y1, e_kind (by omega) z1 z2, bd_some, hF.I 18 u (by omega), h18 u hu40, li5, li4, pk_mul, nI_add, nI_add]
        simp (disch := omega) only [gd_n, nI_ix]
        have e4 : rI (wI τ 323 (std D v u * 5 + kd i (D 328 (8 * t + w))) (rI τ 323 (std D v u * 5 + kd i (D 328 (8 * t + w))) + 1)) 323 (std D v u * 5 + 4) = rI τ 323 (std D v u * 5 + 4) := rI_nj (by omega)
        rw [e4]
        refine hq2 (i + 1) _ _ (by omega) (by omega) ⟨nI_1 i, fun s hs x hx => ?_, (hF.w rfl).w rfl⟩
        have hv : rI τ 323 (s * 5 + x) = nI (sm (plr D v s x) (8 * t + w) + cnt (plp D v s x (8 * t + w)) i) := hP s hs x hx
        rw [cnt_s]
        by_cases e : plp D v s x (8 * t + w) i = true
        · obtain ⟨-, g2, g3⟩ := of_decide_eq_true e
          rw [hu] at g2
          subst g2
          rw [if_pos e, ← Nat.add_assoc, ← nI_1, ← hv]
          rcases g3 with g3 | g3
          · subst g3; exact rI_same _ _ _ _
          · rw [rI_nj (by omega), ← g3]; exact rI_same _ _ _ _
        · rw [if_neg e, Nat.add_zero (cnt (plp D v s x (8 * t + w)) i), ← hv]
          have ne : ¬ (std D v u = s ∧ (x = 4 ∨ kd i (D 328 (8 * t + w)) = x)) := fun y => e (decide_eq_true (by rw [hu]; exact ⟨z, y⟩))
          rw [rI_nj (fun y => ne (by omega)), rI_nj (fun y => ne (by omega))]
    · rw [if_pos (by omega)]
      have e : i = D 328 (8 * t + w) := by omega
      subst e
      refine hq (w + 1) _ _ (by omega) (by omega) ⟨nI_1 w, fun s hs x hx => ?_, hF⟩
      rw [hP s hs x hx, ← Nat.add_assoc, sm_s, cnt_0, Nat.add_zero]
      unfold plr
      rw [if_pos hrok]
  · rw [if_pos (by omega)]
    have e : w = D 327 t := by omega
    subst e
    refine ok_ret ⟨fun s hs x hx => ?_, hF⟩
    rw [hP s hs x hx, cnt_0, cnt_0]
    congr 2
    refine (sm_zero (by omega) (fun r h1 h2 => ?_)).symm
    unfold plr
    rw [if_neg]
    intro z
    have := z.1
    rw [show r / 8 = t by omega] at this
    omega
theorem c_tC (hw : DWt D) (hc : CDt D σ) {v t : Nat} (ht : t < D 324 2) (hv : v ≤ 100000) (h10 : rI σ 3 10 = nI v) : f_X0_tabletCounts (nI t) σ = some (bI (tC D v t), σ) := by
  have := hw.1
  unfold f_X0_tabletCounts
  rw [gd_n (by omega) (by omega), nI_ix (by omega), h10, e_tC hw hc ht hv, bd_some, gd_bI]
theorem c_countPlaces (hw : DWt D) (hc : CDt D σ) {v : Nat} (hv : v ≤ 100000) (h10 : rI σ 3 10 = nI v) (h18 : ∀ s, s < 40 → rI σ 18 s = nI (std D v s)) (h0 : rI σ 322 7 = 0) : ok (f_X1_countPlaces σ) (fun _ τ => (∀ s, s < 40 → ∀ x, x < 5 → rI τ 323 (s * 5 + x) = nI (oft D v s x)) ∧ rI τ 322 7 = 1 ∧ Fr (fun k j => k = 323 ∨ (k = 322 ∧ j = 7)) σ τ) := by
  have h24 := hw.1
  unfold f_X1_countPlaces
  rw [if_pos h0]
  refine ok_bd (e_fillI 323 0 _ (by decide)) (fun _ τ h => ?_)
  have hF0 : Fr (fun k j => k = 323 ∨ (k = 322 ∧ j = 7)) σ τ := Fr.trans (Fr.w (W := fun k j => k = 323 ∨ (k = 322 ∧ j = 7)) Fr.refl (Or.inr ⟨rfl, rfl⟩)) (h.2.mono (fun k j z => Or.inl z))
  have h7 : rI τ 322 7 = 1 := (h.2.I _ _ (by omega)).trans (rI_same _ _ _ _)
  refine L_X1_countPlaces_23 (D 324 2) (fun t l1 τ => l1 = nI t ∧ PL D v (8 * t) 0 τ ∧ rI τ 322 7 = 1 ∧ Fr (fun k j => k = 323 ∨ (k = 322 ∧ j = 7)) σ τ) (by omega) (fun t q l1 τ hk hI hq => ?_) (Nat.zero_le _) ⟨rfl, fun s hs x hx => ?_, h7, hF0⟩
  · obtain ⟨rfl, hP, h7, hF⟩ := hI
    unfold s_X1_countPlaces_23 f_X1_countPlaces_58
    rw [hF.I 3 2 (by omega), hc.1]
    simp (disch := omega) only [nI_le2]
    have hc' : CDt D τ := CDt_eq hw rfl rfl rfl rfl rfl rfl (hF.I _ _ (by omega)) (fun k j a b => hF.I _ _ (by omega)) hc
    by_cases c : t < D 324 2
    · rw [if_neg (by omega), c_tC hw hc' c hv ((hF.I _ _ (by omega)).trans h10), bd_some, ite_bI]
      refine ok_ite (fun z => ?_) (fun z => ?_)
      · rw [gd_n (by omega) (by omega), nI_ix (by omega)]
        refine ok_bd (c_placesOf hw hc' c z (fun s hs => (hF.I _ _ (by omega)).trans (h18 s hs)) hP) (fun _ τ' h' => ?_)
        exact hq (t + 1) _ _ (by omega) (by omega) ⟨nI_1 t, h'.1, (h'.2.I _ _ (by omega)).trans h7, hF.trans (h'.2.mono (fun k j z => Or.inl z))⟩
      · refine hq (t + 1) _ _ (by omega) (by omega) ⟨nI_1 t, fun s hs x hx => ?_, h7, hF⟩
        rw [hP s hs x hx, cnt_0, cnt_0]
        congr 2
        refine (sm_zero (by omega) (fun r h1 h2 => ?_)).symm
        unfold plr
        rw [if_neg]
        intro y
        have := y.2
        rw [show r / 8 = t by omega] at this
        exact z this
    · rw [if_pos (by omega)]
      have e : t = D 324 2 := by omega
      subst e
      exact ok_ret ⟨fun s hs x hx => (hP s hs x hx).trans (by rw [cnt_0, Nat.add_zero]; rfl), h7, hF⟩
  · rw [h.1 (s * 5 + x) (by show s * 5 + x < 200; omega)]
    rfl
/-! the reference counts them -/
theorem m_oftenOf (hw : DWt D) (hM : MD D σ) {v s x : Nat} (hv : v ≤ 100000) (h343 : ∀ s, s < 40 → rI σ 343 s = nI (std D v s)) (hs : s < 40) (hx : x < 5) : f_X13_oftenOf (nI s) (nI v) (nI x) σ = some (nI (oft D v s x), σ) := by
  have h24 := hw.1
  refine ok_eq ?_
  unfold f_X13_oftenOf
  refine L_X13_oftenOf_6 (8 * D 324 2) (fun r l4 l5 τ => l4 = nI (sm (plr D v s x) r) ∧ l5 = nI r ∧ τ = σ) (by omega) (fun r q l4 l5 τ hk hI hq => ?_) (Nat.zero_le _) ⟨rfl, rfl, rfl⟩
  obtain ⟨rfl, rfl, rfl⟩ := hI
  unfold s_X13_oftenOf_6 f_X13_oftenOf_167
  rw [hM.r (k := 324) (j := 2) (by omega) (by omega), li8]
  simp (disch := omega) only [pk_mul, nI_le2, div_n, rem_n2, nI_ix]
  by_cases c : r < 8 * D 324 2
  · have hrows := (hw.2.1 (r / 8) (by omega)).2.2.2.1
    rw [if_neg (by omega), gd_n (by omega) (by omega), hM.r (k := 327) (j := r / 8) (by omega) (by omega)]
    simp (disch := omega) only [nI_le2]
    have no : ¬ rok D v r → ok (q (nI s) (nI v) (nI x) (nI (sm (plr D v s x) r)) (nI r + 1) τ) (fun a t => a = nI (oft D v s x) ∧ t = τ) := fun z => hq (r + 1) _ _ _ (by omega) (by omega) ⟨by rw [sm_s]; unfold plr; rw [if_neg z, Nat.add_zero], nI_1 r, rfl⟩
    refine ok_ite (fun z => no (fun y => by omega)) (fun z => ?_)
    rw [m_tC hw hM (by omega) hv, bd_some, ite_bI]
    refine ok_ite (fun z2 => ?_) (fun z2 => no (fun y => z2 y.2))
    have hrok : rok D v r := ⟨by omega, z2⟩
    obtain ⟨g1, g2⟩ := row_dw hw c hrok.1
    refine L_X13_oftenOf_55 (D 328 r) (fun i l4 l6 τ' => l4 = nI (sm (plr D v s x) r + cnt (plp D v s x r) i) ∧ l6 = nI i ∧ τ' = τ) (by omega) (fun i q2 l4 l6 τ' hk2 hI2 hq2 => ?_) (Nat.zero_le _) ⟨by rw [cnt_0, Nat.add_zero], rfl, rfl⟩
    obtain ⟨rfl, rfl, rfl⟩ := hI2
    unfold s_X13_oftenOf_55 f_X13_oftenOf_145 f_X13_oftenOf_158 f_X13_oftenOf_161 f_X13_oftenOf_167
    rw [gd_n (by omega) (by omega)]
    simp (disch := omega) only [nI_ix]
    rw [hM.r (k := 328) (j := r) (by omega) (by omega), li6, pk_mul, nI_add]
    simp (disch := omega) only [nI_le2, nI_ix]
    by_cases c2 : i < D 328 r
    · have hp9 := hw.2.2 (6 * r + i) (by omega)
      rw [if_neg (by omega), gd_n (by omega) (by omega), (hM.2 (6 * r + i) (by omega)).1, ite_iff (pz_m1 (by omega))]
      have one_ : plp D v s x r i = true → ok (q2 (nI s) (nI v) (nI x) (nI (sm (plr D v s x) r + cnt (plp D v s x r) i) + 1) (nI r) (nI i + 1) τ') (fun a t => a = nI (oft D v s x) ∧ t = τ') := fun z => hq2 (i + 1) _ _ _ (by omega) (by omega) ⟨by rw [cnt_s, if_pos z, nI_1, Nat.add_assoc], nI_1 i, rfl⟩
      have non_ : ¬ plp D v s x r i = true → ok (q2 (nI s) (nI v) (nI x) (nI (sm (plr D v s x) r + cnt (plp D v s x r) i)) (nI r) (nI i + 1) τ') (fun a t => a = nI (oft D v s x) ∧ t = τ') := fun z => hq2 (i + 1) _ _ _ (by omega) (by omega) ⟨by rw [cnt_s, if_neg z, Nat.add_zero], nI_1 i, rfl⟩
      refine ok_ite (fun y => non_ (fun w => (of_decide_eq_true w).1 y)) (fun y => ?_)
      have hu := hp9.resolve_left y
      have hS := std_lt (D := D) v hu
      rw [pz_n y, gd_n (by omega) (by omega)]
      simp (disch := omega) only [nI_ix]
      rw [h343 _ hu, ite_iff (nI_eq2 (by omega) (by omega))]
      refine ok_ite (fun y2 => ?_) (fun y2 => non_ (fun w => y2 (of_decide_eq_true w).2.1))
      have hkd := kd_lt i (D 328 r)
      have fin : ∀ k0 : Nat, k0 = kd i (D 328 r) → ok (if nI x = 4 then q2 (nI s) (nI v) (nI x) (nI (sm (plr D v s x) r + cnt (plp D v s x r) i) + 1) (nI r) (nI i + 1) τ' else if nI k0 = nI x then q2 (nI s) (nI v) (nI x) (nI (sm (plr D v s x) r + cnt (plp D v s x r) i) + 1) (nI r) (nI i + 1) τ' else q2 (nI s) (nI v) (nI x) (nI (sm (plr D v s x) r + cnt (plp D v s x r) i)) (nI r) (nI i + 1) τ') (fun a t => a = nI (oft D v s x) ∧ t = τ') := by
        intro k0 e0
        rw [ite_iff (show nI x = 4 ↔ x = 4 from nI_eq2 (b := 4) (by omega) (by omega)), ite_iff (nI_eq2 (a := k0) (b := x) (by omega) (by omega))]
        refine ok_ite (fun w => one_ (decide_eq_true ⟨y, y2, Or.inl w⟩)) (fun w => ok_ite (fun w2 => one_ (decide_eq_true ⟨y, y2, Or.inr (by rw [← e0]; exact w2)⟩)) (fun w2 => non_ (fun w3 => (of_decide_eq_true w3).2.2.elim w (fun w4 => w2 (by rw [e0]; exact w4)))))
      rw [gd_n (by omega) (by omega), sub1_n g1, ite_iff (show nI (D 328 r) = 1 ↔ D 328 r = 1 from nI_eq2 (b := 1) (by omega) (by omega)), ite_iff (eq0_n (a := i) (by omega)), gd_n (by omega) (by omega), ite_iff (nI_eq2 (a := i) (b := D 328 r - 1) (by omega) (by omega))]
      refine ok_ite (fun w => fin 2 ?_) (fun w => ok_ite (fun w2 => fin 0 ?_) (fun w2 => ok_ite (fun w3 => fin 1 ?_) (fun w3 => fin 3 ?_)))
      · unfold kd; rw [if_pos w]
      · unfold kd; rw [if_neg w, if_pos w2]
      · unfold kd; rw [if_neg w, if_neg w2, if_pos w3]
      · unfold kd; rw [if_neg w, if_neg w2, if_neg w3]
    · rw [if_pos (by omega)]
      have e : i = D 328 r := by omega
      subst e
      refine hq (r + 1) _ _ _ (by omega) (by omega) ⟨?_, nI_1 r, rfl⟩
      rw [sm_s]
      unfold plr
      rw [if_pos hrok]
  · rw [if_pos (by omega)]
    have e : r = 8 * D 324 2 := by omega
    subst e
    exact ok_ret ⟨rfl, rfl⟩
end OFT
