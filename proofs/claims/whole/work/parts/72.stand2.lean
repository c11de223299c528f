/-! the class's stand -/
section STD2
variable {D : dD} {σ : jM}
abbrev wst (k _j : Nat) : Prop := 15 ≤ k ∧ k ≤ 18
theorem wg_bits : ∀ w : Nat, w < 16 → ∀ h : Nat, h < 4 → ((nI w &&& (1 <<< (nI h &&& 31)) = 0) ↔ w.testBit h = false) ∧ (nI w ||| (1 <<< (nI h &&& 31))) = nI (w ||| 2 ^ h) ∧ (w ||| 2 ^ h) < 16 ∧ ∀ g : Nat, g < 4 → (w ||| 2 ^ h).testBit g = (w.testBit g || decide (g = h)) := by decide +kernel
theorem e_weigh {τ : jM} {p h x w : Nat} {z : Int} (hp : p < 780) (hh : h < 4) (hx : x ≤ 2) (hw : w < 16) (h15 : rI τ 15 p = nI w) (h16 : rI τ 16 p = zi z) (h9 : rI τ 9 h = nI (D 337 h)) :
    ok (f_X5_weigh (nI p) (nI h) (nI x) τ) (fun _ τ' => Fr (fun k j => (k = 15 ∨ k = 16) ∧ j = p) τ τ' ∧ ((w.testBit h = true ∧ τ' = τ) ∨ (w.testBit h = false ∧ rI τ' 15 p = nI (w ||| 2 ^ h) ∧ rI τ' 16 p = zi (z + wgt D h x)))) := by
  obtain ⟨b1, b2, b3, b4⟩ := wg_bits w hw h hh
  rw [q_X5_weigh]
  unfold f_X5_weigh_71
  simp (disch := omega) only [gd_n, nI_ix, h15, h16, h9]
  by_cases c : w.testBit h = true
  · rw [if_neg (fun y => by rw [b1.mp y] at c; cases c)]
    exact ok_ret ⟨Fr.refl, Or.inl ⟨c, rfl⟩⟩
  · have c' : w.testBit h = false := Bool.eq_false_iff.mpr c
    rw [if_pos (b1.mpr c')]
    rcases (by omega : x = 0 ∨ x = 1 ∨ x = 2) with rfl | rfl | rfl
    · rw [if_neg (by decide), if_pos (by decide)]
      refine ok_ret ⟨(Fr.refl.w (by omega)).w (by omega), Or.inr ⟨c', ?_, ?_⟩⟩
      · rw [rI_nk (by omega), rI_same, b2]
      · rw [rI_same, nI_zi, zi_sub]; rfl
    · rw [if_pos (by decide)]
      refine ok_ret ⟨(Fr.refl.w (by omega)).w (by omega), Or.inr ⟨c', ?_, ?_⟩⟩
      · rw [rI_nk (by omega), rI_same, b2]
      · rw [rI_same, nI_zi, zi_add]; rfl
    · rw [if_neg (by decide), if_neg (by decide)]
      refine ok_ret ⟨Fr.refl.w (by omega), Or.inr ⟨c', ?_, ?_⟩⟩
      · rw [rI_same, b2]
      · rw [rI_nk (by omega), h16, wgt_2]
        congr 1
        omega
theorem c_stand (hw : DWh D) (hc : CDh D σ) {v : Nat} (hv : v ≤ 100000) : ok (f_X5_stand (nI v) 18 σ) (fun _ τ => (∀ s, s < 40 → rI τ 18 s = nI (std D v s)) ∧ Fr wst σ τ) := by
  have hN := hw.1
  have g8 : ∀ τ, Fr wst σ τ → rI τ 8 1 = nI (D 324 25) := fun τ hF => (hF.I _ _ (by omega)).trans hc.1
  have g9 : ∀ τ, Fr wst σ τ → ∀ h, h < 4 → rI τ 9 h = nI (D 337 h) := fun τ hF h hh => (hF.I _ _ (by omega)).trans (hc.2.1 h hh)
  have g10 : ∀ τ, Fr wst σ τ → ∀ k, k < D 324 25 → rI τ 10 k = nI (D 342 k) := fun τ hF k hk => (hF.I _ _ (by omega)).trans (hc.2.2 k hk).2.2.2.2
  have g11 : ∀ τ, Fr wst σ τ → ∀ k, k < D 324 25 → rI τ 11 k = nI (D 338 k) := fun τ hF k hk => (hF.I _ _ (by omega)).trans (hc.2.2 k hk).1
  have g12 : ∀ τ, Fr wst σ τ → ∀ k, k < D 324 25 → rI τ 12 k = nI (D 339 k) := fun τ hF k hk => (hF.I _ _ (by omega)).trans (hc.2.2 k hk).2.1
  have g13 : ∀ τ, Fr wst σ τ → ∀ k, k < D 324 25 → rI τ 13 k = nI (D 340 k) := fun τ hF k hk => (hF.I _ _ (by omega)).trans (hc.2.2 k hk).2.2.1
  have g14 : ∀ τ, Fr wst σ τ → ∀ k, k < D 324 25 → rI τ 14 k = nI (D 341 k) := fun τ hF k hk => (hF.I _ _ (by omega)).trans (hc.2.2 k hk).2.2.2.1
  have hp : ∀ k, k < D 324 25 → pr (D 339 k) (D 340 k) < 780 := fun k hk => pr_lt (by have := hw.2.2 k hk; omega) (hw.2.2 k hk).2.2.1 (by have := hw.2.2 k hk; omega)
  have A184 : ∀ τ, Fr wst σ τ → Adj τ 17 (one D v) → ok (f_X5_stand_184 Fu 18 0 τ) (fun _ τ => (∀ s, s < 40 → rI τ 18 s = nI (std D v s)) ∧ Fr wst σ τ) := by
    intro τ hF hA
    refine L_X5_stand_184 40 (fun n l3 τ => l3 = nI n ∧ Fr wst σ τ ∧ Adj τ 17 (one D v) ∧ ∀ s, s < n → rI τ 18 s = nI (std D v s)) (by omega) (fun n q l3 τ hk hI hq => ?_) (Nat.zero_le _) ⟨rfl, hF, hA, fun s hs => by omega⟩
    obtain ⟨rfl, hF, hA, h⟩ := hI
    unfold s_X5_stand_184
    rw [li40]
    simp (disch := omega) only [nI_le2]
    by_cases c : n < 40
    · rw [if_neg (by omega)]
      obtain ⟨y, e1, hy⟩ := e_reachOf hA c
      rw [e1, bd_some, e_leastReach c (fun s t z => one_lt hw z) hy, bd_some, show (shf 18).2 = 40 from rfl, gd_n c (by omega), nI_ix (by omega)]
      refine hq (n + 1) _ _ (by omega) (by omega) ⟨nI_1 n, hF.w (by omega), Adj_fr hA (fun j => rfl), fun s hs => ?_⟩
      by_cases e : s = n
      · subst e; exact rI_same _ _ _ _
      · rw [rI_nj e]; exact h s (by omega)
    · rw [if_pos (by omega)]
      exact ok_ret ⟨fun s hs => h s (by omega), hF⟩
  have A126 : ∀ τ, Fr wst σ τ → Adj τ 17 (fun _ _ => False) → (∀ k, k < D 324 25 → rI τ 16 (pr (D 339 k) (D 340 k)) = zi (tw D v (D 339 k) (D 340 k))) → ok (f_X5_stand_126 Fu 18 0 τ) (fun _ τ => (∀ s, s < 40 → rI τ 18 s = nI (std D v s)) ∧ Fr wst σ τ) := by
    intro τ hF hA hW
    refine L_X5_stand_126 (D 324 25) (fun n l3 τ => l3 = nI n ∧ Fr wst σ τ ∧ (∀ k, k < D 324 25 → rI τ 16 (pr (D 339 k) (D 340 k)) = zi (tw D v (D 339 k) (D 340 k))) ∧ Adj τ 17 (fun a b => ∃ k, k < n ∧ ((D 339 k = a ∧ D 340 k = b) ∨ (D 339 k = b ∧ D 340 k = a)) ∧ 0 < tw D v (D 339 k) (D 340 k))) (by omega) (fun n q l3 τ hk hI hq => ?_) (Nat.zero_le _) ⟨rfl, hF, hW, Adj_iff hA (fun s t => ⟨fun z => z.elim, fun ⟨k, hk, _⟩ => by omega⟩)⟩
    obtain ⟨rfl, hF, hW, hA⟩ := hI
    unfold s_X5_stand_126 f_X5_stand_176
    rw [g8 τ hF]
    simp (disch := omega) only [nI_le2, nI_ix]
    by_cases c : n < D 324 25
    · obtain ⟨b1, b2, b3, b4, b5⟩ := hw.2.2 n c
      have hb := tws_bd hw v (D 339 n) (D 340 n) 0 (D 324 25) (h := 4) (by omega)
      rw [if_neg (by omega), gd_n (by omega) (by omega), gd_n (by omega) (by omega), g12 τ hF n c, g13 τ hF n c, e_pairOf (by omega) (by omega), bd_some, gd_n (hp n c) (by omega), nI_ix (by have := hp n c; omega), hW n c]
      have e0 : (zi (tw D v (D 339 n) (D 340 n)) ≤ 0) ↔ tw D v (D 339 n) (D 340 n) ≤ 0 := zi_le (b := 0) (by unfold tw; omega) (by unfold tw; omega) (by omega) (by omega)
      refine ok_ite (fun z => ?_) (fun z => ?_)
      · refine hq (n + 1) _ _ (by omega) (by omega) ⟨nI_1 n, hF, hW, Adj_iff hA (fun s t => ⟨fun ⟨k, y1, y2⟩ => ⟨k, by omega, y2⟩, fun ⟨k, y1, y2, y3⟩ => ⟨k, ?_, y2, y3⟩⟩)⟩
        rcases Nat.lt_or_ge k n with w | w
        · exact w
        · have : k = n := by omega
          subst this
          have := e0.mp z
          omega
      · have z : 0 < tw D v (D 339 n) (D 340 n) := by
          have : ¬ tw D v (D 339 n) (D 340 n) ≤ 0 := fun y => z (e0.mpr y)
          omega
        rw [gd_n (by omega) (by omega), gd_n (by omega) (by omega), g12 τ hF n c, g13 τ hF n c]
        refine ok_bd (e_join hA (by omega) b3) (fun _ τ' h => ?_)
        refine hq (n + 1) _ _ (by omega) (by omega) ⟨nI_1 n, hF.trans (h.2.mono (fun k j e => by omega)), fun k hk => (h.2.I _ _ (by omega)).trans (hW k hk), Adj_iff h.1 (fun s t => ⟨fun y => ?_, fun ⟨k, y1, y2, y3⟩ => ?_⟩)⟩
        · rcases y with ⟨k, y1, y2⟩ | y | y
          · exact ⟨k, by omega, y2⟩
          · exact ⟨n, by omega, Or.inl ⟨y.1.symm, y.2.symm⟩, z⟩
          · exact ⟨n, by omega, Or.inr ⟨y.2.symm, y.1.symm⟩, z⟩
        · rcases Nat.lt_or_ge k n with w | w
          · exact Or.inl ⟨k, w, y2, y3⟩
          · have : k = n := by omega
            subst this
            rcases y2 with y2 | y2
            · exact Or.inr (Or.inl ⟨y2.1.symm, y2.2.symm⟩)
            · exact Or.inr (Or.inr ⟨y2.2.symm, y2.1.symm⟩)
    · rw [if_pos (by omega)]
      have e : n = D 324 25 := by omega
      subst e
      exact A184 τ hF hA
  have A73 : ∀ τ, Fr wst σ τ → Adj τ 17 (fun _ _ => False) → (∀ k, k < D 324 25 → rI τ 15 (pr (D 339 k) (D 340 k)) = 0 ∧ rI τ 16 (pr (D 339 k) (D 340 k)) = 0) → ok (f_X5_stand_73 Fu (nI v) 18 (nI (D 324 25) - 1) τ) (fun _ τ => (∀ s, s < 40 → rI τ 18 s = nI (std D v s)) ∧ Fr wst σ τ) := by
    intro τ hF hA hW
    refine L_X5_stand_73 (D 324 25) (fun d l3 τ => l3 = zi ((D 324 25 : Int) - d - 1) ∧ Fr wst σ τ ∧ Adj τ 17 (fun _ _ => False) ∧ ∀ k, k < D 324 25 → (∃ w, w < 16 ∧ rI τ 15 (pr (D 339 k) (D 340 k)) = nI w ∧ ∀ h, h < 4 → (w.testBit h = true ↔ sn D v h (D 339 k) (D 340 k) (D 324 25 - d) d)) ∧ rI τ 16 (pr (D 339 k) (D 340 k)) = zi (tws D v (D 339 k) (D 340 k) (D 324 25 - d) d 4)) (by omega) (fun d q l3 τ hk hI hq => ?_) (Nat.zero_le _) ⟨?_, hF, hA, fun k hk => ⟨⟨0, by omega, (hW k hk).1, fun h hh => ⟨fun z => absurd z (by rw [Nat.zero_testBit]; decide), fun ⟨e, he, _⟩ => by omega⟩⟩, ?_⟩⟩
    · obtain ⟨rfl, hF, hA, h⟩ := hI
      unfold s_X5_stand_73 f_X5_stand_118
      have e0 : (zi ((D 324 25 : Int) - d - 1) < 0) ↔ (D 324 25 : Int) - d - 1 < 0 := zi_lt (b := 0) (by omega) (by omega) (by omega) (by omega)
      by_cases c : d < D 324 25
      · rw [if_neg (fun z => by have := e0.mp z; omega)]
        obtain ⟨i, ej, ek, ci⟩ : ∃ i, D 324 25 - d = i + 1 ∧ D 324 25 - (d + 1) = i ∧ i < D 324 25 := ⟨D 324 25 - d - 1, by omega, by omega, by omega⟩
        have ei : zi ((D 324 25 : Int) - d - 1) = nI i := by rw [nI_zi]; congr 1; omega
        have en : zi ((D 324 25 : Int) - d - 1) + -1 = zi ((D 324 25 : Int) - (d + 1 : Nat) - 1) := by rw [show (-1 : Int32) = zi (-1) from rfl, zi_add]; congr 1; omega
        rw [en, ei]
        rw [ej] at h
        obtain ⟨b1, b2, b3, b4, b5⟩ := hw.2.2 i ci
        simp (disch := omega) only [gd_n, nI_ix, g10 τ hF i ci, g12 τ hF i ci, g13 τ hF i ci, nI_lt2]
        refine ok_ite (fun z => ?_) (fun z => ?_)
        · refine hq (d + 1) _ _ (by omega) (by omega) ⟨rfl, hF, hA, fun k hk => ?_⟩
          obtain ⟨⟨w, w1, w2, w3⟩, w4⟩ := h k hk
          have nm : ∀ h, ¬ mat D v h (D 339 k) (D 340 k) i := fun h y => by have := y.2.2.2; omega
          rw [ek]
          refine ⟨⟨w, w1, w2, fun h hh => (w3 h hh).trans ⟨fun y => sn_front.mpr (Or.inr y), fun y => (sn_front.mp y).resolve_left (nm h)⟩⟩, ?_⟩
          rw [w4, tws_front_none v _ _ i d (fun h _ y => absurd y (nm h))]
        · rw [e_pairOf (by omega) (by omega), bd_some, g11 τ hF i ci, g14 τ hF i ci]
          obtain ⟨⟨w, w1, w2, w3⟩, w4⟩ := h i ci
          refine ok_bd (e_weigh (hp i ci) b1 b4 w1 w2 w4 (g9 τ hF _ b1)) (fun _ τ' h' => ?_)
          obtain ⟨hF', h'⟩ := h'
          have mi : mat D v (D 338 i) (D 339 i) (D 340 i) i := ⟨rfl, rfl, rfl, by omega⟩
          refine hq (d + 1) _ _ (by omega) (by omega) ⟨rfl, hF.trans (hF'.mono (fun k j e => by omega)), Adj_fr hA (fun j => hF'.L _ _ (by omega)), fun k hk => ?_⟩
          rw [ek]
          by_cases ep : pr (D 339 k) (D 340 k) = pr (D 339 i) (D 340 i)
          · obtain ⟨ea, eb⟩ := pr_inj (hw.2.2 k hk).2.1 b2 ep
            rw [ea, eb]
            rcases h' with ⟨y1, y2⟩ | ⟨y1, y2, y3⟩
            · have hs := (w3 _ b1).mp y1
              subst y2
              refine ⟨⟨w, w1, w2, fun h hh => (w3 h hh).trans ⟨fun y => sn_front.mpr (Or.inr y), fun y => ?_⟩⟩, ?_⟩
              · rcases sn_front.mp y with y | y
                · rw [← y.1]; exact hs
                · exact y
              · rw [w4, tws_front_none v _ _ i d (fun h _ y => by rw [← y.1]; exact hs)]
            · have hs : ¬ sn D v (D 338 i) (D 339 i) (D 340 i) (i + 1) d := fun y => by rw [(w3 _ b1).mpr y] at y1; cases y1
              obtain ⟨-, -, v3, v4⟩ := wg_bits w w1 (D 338 i) b1
              refine ⟨⟨w ||| 2 ^ (D 338 i), v3, y2, fun h hh => ?_⟩, ?_⟩
              · rw [v4 h hh, Bool.or_eq_true, decide_eq_true_eq, w3 h hh, sn_front]
                refine ⟨fun y => ?_, fun y => ?_⟩
                · rcases y with y | y
                  · exact Or.inr y
                  · subst y; exact Or.inl mi
                · rcases y with y | y
                  · exact Or.inr y.1.symm
                  · exact Or.inl y
              · rw [y3, tws_front v _ _ i d _ b1 mi hs]
          · have nm : ∀ h, ¬ mat D v h (D 339 k) (D 340 k) i := fun h y => ep (by rw [← y.2.1, ← y.2.2.1])
            obtain ⟨⟨w, w1, w2, w3⟩, w4⟩ := h k hk
            refine ⟨⟨w, w1, (hF'.I _ _ (by omega)).trans w2, fun h hh => (w3 h hh).trans ⟨fun y => sn_front.mpr (Or.inr y), fun y => (sn_front.mp y).resolve_left (nm h)⟩⟩, ?_⟩
            rw [hF'.I _ _ (by omega), w4, tws_front_none v _ _ i d (fun h _ y => absurd y (nm h))]
      · rw [if_pos (e0.mpr (by omega))]
        have e : d = D 324 25 := by omega
        subst e
        refine A126 τ hF hA (fun k hk => ?_)
        rw [(h k hk).2, Nat.sub_self]
        rfl
    · rw [nI_zi, show (1 : Int32) = zi 1 from rfl, zi_sub]
      congr 1
    · rw [(hW k hk).2]
      rfl
  have A10 : ∀ τ, Fr wst σ τ → Adj τ 17 (fun _ _ => False) → ok (f_X5_stand_10 Fu (nI v) 18 0 τ) (fun _ τ => (∀ s, s < 40 → rI τ 18 s = nI (std D v s)) ∧ Fr wst σ τ) := by
    intro τ hF hA
    refine L_X5_stand_10 (D 324 25) (fun n l3 τ => l3 = nI n ∧ Fr wst σ τ ∧ Adj τ 17 (fun _ _ => False) ∧ ∀ k, k < n → rI τ 15 (pr (D 339 k) (D 340 k)) = 0 ∧ rI τ 16 (pr (D 339 k) (D 340 k)) = 0) (by omega) (fun n q l3 τ hk hI hq => ?_) (Nat.zero_le _) ⟨rfl, hF, hA, fun k hk => by omega⟩
    obtain ⟨rfl, hF, hA, h⟩ := hI
    unfold s_X5_stand_10
    rw [g8 τ hF]
    simp (disch := omega) only [nI_le2, nI_ix]
    by_cases c : n < D 324 25
    · obtain ⟨b1, b2, b3, b4, b5⟩ := hw.2.2 n c
      have hpn := hp n c
      rw [if_neg (by omega), g12 τ hF n c, g13 τ hF n c]
      simp (disch := omega) only [gd_n, e_pairOf, bd_some, nI_ix]
      have hF2 : Fr wst σ (wI τ 15 (pr (D 339 n) (D 340 n)) 0) := hF.w (by omega)
      rw [g12 _ hF2 n c, g13 _ hF2 n c]
      simp (disch := omega) only [gd_n, e_pairOf, bd_some, nI_ix]
      refine hq (n + 1) _ _ (by omega) (by omega) ⟨nI_1 n, hF2.w (by omega), hA, fun k hk => ?_⟩
      rw [rI_nk (show 15 ≠ 16 by omega), rI_wI, rI_wI]
      by_cases e : pr (D 339 k) (D 340 k) = pr (D 339 n) (D 340 n)
      · rw [if_pos ⟨rfl, e⟩, if_pos ⟨rfl, e⟩]; exact ⟨rfl, rfl⟩
      · rw [if_neg (fun z => e z.2), if_neg (fun z => e z.2), rI_nk (show 16 ≠ 15 by omega)]
        refine h k ?_
        rcases Nat.lt_or_ge k n with w | w
        · exact w
        · have : k = n := by omega
          subst this; exact absurd rfl e
    · rw [if_pos (by omega)]
      have e : n = D 324 25 := by omega
      subst e
      exact A73 τ hF hA h
  unfold f_X5_stand
  refine ok_bd (e_fillL 17 0 σ (by decide)) (fun _ τ h => ?_)
  exact A10 τ (h.2.mono (fun k j e => by omega)) (Adj_0 rfl (fun j hj => h.1 j hj))
end STD2
