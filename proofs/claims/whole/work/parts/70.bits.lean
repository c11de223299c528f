/-! SETS OF SIGNS AS BITS -/
def bt (x : Int64) (i : Nat) : Bool := x.toBitVec.getLsbD i
theorem bt_and (x y : Int64) (i : Nat) : bt (x &&& y) i = (bt x i && bt y i) := BitVec.getLsbD_and
theorem bt_or (x y : Int64) (i : Nat) : bt (x ||| y) i = (bt x i || bt y i) := BitVec.getLsbD_or
theorem bt_xor (x y : Int64) (i : Nat) : bt (x ^^^ y) i = (bt x i ^^ bt y i) := BitVec.getLsbD_xor
theorem bt_ge (x : Int64) {i : Nat} (h : 64 ≤ i) : bt x i = false := BitVec.getLsbD_of_ge _ _ h
theorem bt_0 (i : Nat) : bt 0 i = false := by
  show BitVec.getLsbD (0#64) i = false
  simp
theorem bt_m1 {i : Nat} (h : i < 64) : bt (-1) i = true := by
  have e : (-1 : Int64).toBitVec = BitVec.allOnes 64 := by decide
  unfold bt
  rw [e, BitVec.getLsbD_allOnes]
  exact decide_eq_true h
theorem bt_not (x : Int64) {i : Nat} (h : i < 64) : bt (x ^^^ -1) i = !bt x i := by rw [bt_xor, bt_m1 h, Bool.xor_true]
theorem bt_ext {x y : Int64} (h : ∀ i, i < 64 → bt x i = bt y i) : x = y := Int64.toBitVec_inj.mp (BitVec.eq_of_getLsbD_eq h)
theorem bt_eq0 {x : Int64} : x = 0 ↔ ∀ i, i < 64 → bt x i = false := ⟨fun e i _ => by rw [e]; exact bt_0 i, fun h => bt_ext (fun i hi => by rw [h i hi, bt_0])⟩
theorem bt_ne0 {x : Int64} : ¬ x = 0 ↔ ∃ i, i < 64 ∧ bt x i = true := by
  rw [bt_eq0]
  refine ⟨fun h => Classical.byContradiction (fun z => h (fun i hi => ?_)), fun ⟨i, hi, e⟩ h => by rw [h i hi] at e; cases e⟩
  cases hb : bt x i with
  | false => rfl
  | true => exact absurd ⟨i, hi, hb⟩ z
theorem jl_sm : ∀ a : Nat, a < 64 → (((nI a).toInt64 &&& 63).toBitVec.smod 64).toNat = a := by decide +kernel
theorem jl_um : ∀ a : Nat, a < 64 → (((nI a).toInt64.toUInt64 &&& Int64.toUInt64 63).mod 64).toBitVec.toNat = a := by decide +kernel
theorem jl_bv (x : Int64) {a : Nat} (h : a < 64) : (jlshl x (nI a)).toBitVec = x.toBitVec <<< a := by
  show x.toBitVec <<< (((nI a).toInt64 &&& 63).toBitVec.smod 64) = _
  rw [BitVec.shiftLeft_eq', jl_sm a h]
theorem ju_bv (x : Int64) {a : Nat} (h : a < 64) : (jlushr x (nI a)).toBitVec = x.toBitVec >>> a := by
  show x.toBitVec >>> (((nI a).toInt64.toUInt64 &&& Int64.toUInt64 63).mod 64).toBitVec = _
  show x.toBitVec >>> (((nI a).toInt64.toUInt64 &&& Int64.toUInt64 63).mod 64).toBitVec.toNat = _
  rw [jl_um a h]
theorem bt_shl (x : Int64) {a i : Nat} (h : a < 64) (hi : i < 64) : bt (jlshl x (nI a)) i = (decide (a ≤ i) && bt x (i - a)) := by
  unfold bt
  rw [jl_bv x h, BitVec.getLsbD_shiftLeft, decide_eq_true hi, Bool.true_and]
  congr 1
  by_cases c : a ≤ i
  · rw [decide_eq_true c, decide_eq_false (by omega)]; rfl
  · rw [decide_eq_false c, decide_eq_true (by omega)]; rfl
theorem bt_ushr (x : Int64) {a i : Nat} (h : a < 64) : bt (jlushr x (nI a)) i = bt x (a + i) := by
  unfold bt
  rw [ju_bv x h, BitVec.getLsbD_ushiftRight]
theorem bt_1 (i : Nat) : bt 1 i = decide (i = 0) := by
  show BitVec.getLsbD (1#64) i = _
  simp
theorem bt_one {a i : Nat} (h : a < 64) (hi : i < 64) : bt (jlshl 1 (nI a)) i = decide (i = a) := by
  rw [bt_shl 1 h hi, bt_1]
  by_cases c : i = a
  · rw [decide_eq_true c, decide_eq_true (by omega), decide_eq_true (by omega)]; rfl
  · rw [decide_eq_false c]
    by_cases d : a ≤ i
    · rw [decide_eq_false (p := i - a = 0) (by omega), Bool.and_false]
    · rw [decide_eq_false d, Bool.false_and]
theorem lgc0 {x y : Int64} : lg_cmp x y = 0 ↔ x = y := by
  unfold lg_cmp
  by_cases h : x > y
  · rw [if_pos h]
    exact ⟨fun z => absurd z (by decide), fun z => absurd h (by rw [z]; exact Int64.lt_irrefl)⟩
  · rw [if_neg h]
    by_cases e : x = y
    · rw [if_pos e]; exact ⟨fun _ => e, fun _ => rfl⟩
    · rw [if_neg e]; exact ⟨fun z => absurd z (by decide), fun z => absurd z e⟩
theorem e_has {x : Int64} {s : Nat} (hs : s < 64) (σ : jM) : f_X12_has x (nI s) σ = some (bI (bt x s = true), σ) := by
  unfold f_X12_has f_X12_has_15
  have e : (jlushr x (nI s) &&& 1) = 0 ↔ ¬ bt x s = true := by
    rw [bt_eq0]
    refine ⟨fun h z => ?_, fun h i hi => ?_⟩
    · have := h 0 (by omega)
      rw [bt_and, bt_ushr x hs, Nat.add_zero, z, bt_1] at this
      cases this
    · rw [bt_and, bt_1]
      by_cases c : i = 0
      · subst c
        rw [bt_ushr x hs, Nat.add_zero, Bool.eq_false_iff.mpr h, Bool.false_and]
      · rw [decide_eq_false c, Bool.and_false]
  by_cases c : bt x s = true
  · rw [if_neg (fun z => (e.mp (lgc0.mp z)) c), bI_pos c, gd_1]
  · rw [if_pos (lgc0.mpr (e.mpr c)), bI_neg c, gd_0]
/-! the least of a set -/
def bcx (a : Int64) : Int32 :=
  let b := a - (jlushr a 1 &&& 6148914691236517205)
  let c := (b &&& 3689348814741910323) + (jlushr b 2 &&& 3689348814741910323)
  let d := (c + jlushr c 4) &&& 1085102592571150095
  let e := d + jlushr d 8
  let f := e + jlushr e 16
  let g := f + jlushr f 32
  Int64.toInt32 g &&& 127
theorem e_bcx (a : Int64) (σ : jM) : f_J13_bitCount_95d88 a σ = some (bcx a, σ) := rfl
theorem bcx_low : ∀ n : Nat, n < 64 → bcx (jlshl 1 (nI n) - 1) = nI n := by decide +kernel
theorem low_bit {x : Int64} {n : Nat} (hn : n < 64) (h1 : bt x n = true) (h2 : ∀ i, i < n → bt x i = false) : (x &&& -x) = jlshl 1 (nI n) := by
  refine bt_ext (fun i hi => ?_)
  rw [bt_one hn hi, bt_and]
  have e : bt (-x) i = (bt x i ^^ (decide (i < 64) && decide (∃ j, j < i ∧ bt x j = true))) := BitVec.getLsbD_neg
  rw [e, decide_eq_true hi, Bool.true_and]
  rcases Nat.lt_trichotomy i n with c | c | c
  · rw [h2 i c, decide_eq_false (p := i = n) (by omega), Bool.false_and]
  · subst c
    rw [h1, decide_eq_false (p := ∃ j, j < i ∧ bt x j = true) (fun ⟨j, hj, hb⟩ => by rw [h2 j hj] at hb; cases hb), decide_eq_true rfl]
    rfl
  · rw [decide_eq_true (p := ∃ j, j < i ∧ bt x j = true) ⟨n, c, h1⟩, decide_eq_false (p := i = n) (by omega)]
    cases bt x i <;> rfl
theorem e_leastOf {x : Int64} {n : Nat} (hn : n < 64) (h1 : bt x n = true) (h2 : ∀ i, i < n → bt x i = false) (σ : jM) : f_X12_leastOf x σ = some (nI n, σ) := by
  unfold f_X12_leastOf f_X12_leastOf_19
  have h0 : ¬ x = 0 := bt_ne0.mpr ⟨n, hn, h1⟩
  rw [if_neg (fun z => h0 (lgc0.mp z)), low_bit hn h1 h2, e_bcx, bd_some, bcx_low n hn]
theorem e_leastOf0 (σ : jM) : f_X12_leastOf 0 σ = some (-1, σ) := by
  unfold f_X12_leastOf f_X12_leastOf_19
  rw [if_pos (lgc0.mpr rfl)]
/-! a relation among the signs, held as an array of sets -/
def Adj (σ : jM) (a : Nat) (L : Nat → Nat → Prop) : Prop := (shf a).2 = 40 ∧ (∀ s, s < 40 → ∀ t, t < 64 → (bt (rL σ a s) t = true ↔ L s t)) ∧ (∀ s t, L s t → s < 40 ∧ t < 40)
theorem e_around {σ : jM} {a : Nat} {L : Nat → Nat → Prop} (hA : Adj σ a L) (x : Int64) : ∃ y, f_X12_around a x σ = some (y, σ) ∧ ∀ t, t < 64 → (bt y t = true ↔ ∃ s, s < 40 ∧ bt x s = true ∧ L s t) := by
  obtain ⟨h40, hL, -⟩ := hA
  have h : ok (f_X12_around a x σ) (fun y τ => τ = σ ∧ ∀ t, t < 64 → (bt y t = true ↔ ∃ s, s < 40 ∧ bt x s = true ∧ L s t)) := by
    unfold f_X12_around
    refine L_X12_around_5 40 (fun k l3 l5 τ => τ = σ ∧ l5 = nI k ∧ ∀ t, t < 64 → (bt l3 t = true ↔ ∃ s, s < k ∧ bt x s = true ∧ L s t)) (by omega) (fun k q l3 l5 τ hk hI hq => ?_) (Nat.zero_le _) ⟨rfl, rfl, fun t _ => ⟨fun z => (by rw [bt_0] at z; cases z), fun ⟨s, hs, _⟩ => by omega⟩⟩
    obtain ⟨rfl, rfl, hb⟩ := hI
    unfold s_X12_around_5 f_X12_around_28
    rw [li40]
    simp (disch := omega) only [nI_le2]
    by_cases c : k < 40
    · rw [if_neg (by omega), e_has (by omega), bd_some, ite_bI]
      refine ok_ite (fun z => ?_) (fun z => ?_)
      · rw [h40, gd_n (by omega) (by omega), nI_ix (by omega)]
        refine hq (k + 1) _ _ _ (by omega) (by omega) ⟨rfl, nI_1 k, fun t ht => ?_⟩
        rw [bt_or, Bool.or_eq_true, hb t ht, hL k c t ht]
        refine ⟨fun w => ?_, fun ⟨s, hs, h1, h2⟩ => ?_⟩
        · rcases w with ⟨s, hs, h1, h2⟩ | w
          · exact ⟨s, by omega, h1, h2⟩
          · exact ⟨k, by omega, z, w⟩
        · by_cases e : s = k
          · subst e; exact Or.inr h2
          · exact Or.inl ⟨s, by omega, h1, h2⟩
      · refine hq (k + 1) _ _ _ (by omega) (by omega) ⟨rfl, nI_1 k, fun t ht => ?_⟩
        rw [hb t ht]
        refine ⟨fun ⟨s, hs, h1, h2⟩ => ⟨s, by omega, h1, h2⟩, fun ⟨s, hs, h1, h2⟩ => ?_⟩
        by_cases e : s = k
        · subst e; exact absurd h1 z
        · exact ⟨s, by omega, h1, h2⟩
    · rw [if_pos (by omega)]
      have e : k = 40 := by omega
      subst e
      exact ok_ret ⟨rfl, hb⟩
  obtain ⟨y, τ, e, rfl, hy⟩ := h
  exact ⟨y, e, hy⟩
theorem Rc_lt {L : Nat → Nat → Prop} {N : Nat} (hL : ∀ s t, L s t → s < N ∧ t < N) {a b : Nat} (ha : a < N) (h : Rc L a b) : b < N := Rc_ind (P := fun x => x < N) h ha (fun x y _ _ hl => (hL x y hl).2)
/-- what is seen after n rounds: within n steps; the edge: seen, and not within fewer -/
theorem e_reachOf {σ : jM} {a : Nat} {L : Nat → Nat → Prop} (hA : Adj σ a L) {s : Nat} (hs : s < 40) : ∃ y, f_X12_reachOf a (nI s) σ = some (y, σ) ∧ ∀ t, t < 64 → (bt y t = true ↔ Rc L s t) := by
  have hLt := hA.2.2
  have key : ∀ (x0 : Int64), (∀ t, t < 64 → bt x0 t = true → t = s) → (bt x0 s = true ∨ ∀ t, ¬ L s t) → ok (f_X12_reachOf_22 Fu a (jlshl 1 (nI s)) x0 0 σ) (fun y τ => τ = σ ∧ ∀ t, t < 64 → (bt y t = true ↔ Rc L s t)) := by
    intro x0 hx0 hx1
    refine L_X12_reachOf_22 40 (fun k l2 l4 l6 τ => τ = σ ∧ l6 = nI k ∧ bt l2 s = true ∧ (∀ t, t < 64 → bt l2 t = true → Rc L s t) ∧ (∀ t, t < 64 → bt l4 t = true → bt l2 t = true) ∧ (∀ u t, u < 64 → bt l2 u = true → bt l4 u = false → L u t → bt l2 t = true) ∧ (¬ l4 = 0 → k < cnt (fun i => bt l2 i) 40)) (by omega) (fun k q l2 l4 l6 τ hk hI hq => ?_) (Nat.zero_le _) ⟨rfl, rfl, by rw [bt_one (by omega) (by omega)]; exact decide_eq_true rfl, fun t ht z => ?_, fun t ht z => ?_, fun u t hu z1 z2 z3 => ?_, fun _ => ?_⟩
    · obtain ⟨rfl, rfl, h1, h2, h3, h4, h5⟩ := hI
      unfold s_X12_reachOf_22 f_X12_reachOf_61
      rw [li40]
      simp (disch := omega) only [nI_le2]
      have fin : l4 = 0 → ok (some (l2, τ)) (fun y τ' => τ' = τ ∧ ∀ t, t < 64 → (bt y t = true ↔ Rc L s t)) := by
        intro e
        refine ok_ret ⟨rfl, fun t ht => ⟨h2 t ht, fun hr => ?_⟩⟩
        exact Rc_ind (P := fun x => bt l2 x = true) hr h1 (fun x y hx hp hl => h4 x y (by have := (hLt x y hl).1; omega) hp (by rw [e]; exact bt_0 x) hl)
      have hc40 : cnt (fun i => bt l2 i) 40 ≤ 40 := cnt_le _ _
      by_cases c : k < 40
      · rw [if_neg (by omega)]
        refine ok_ite (fun z => fin (lgc0.mp z)) (fun z => ?_)
        have z : ¬ l4 = 0 := fun w => z (lgc0.mpr w)
        obtain ⟨y, ey, hy⟩ := e_around hA l4
        rw [ey, bd_some]
        have hb : ∀ t, t < 64 → bt (y &&& (l2 ^^^ -1)) t = (bt y t && !bt l2 t) := fun t ht => by rw [bt_and, bt_not _ ht]
        refine hq (k + 1) _ _ _ _ (by omega) (by omega) ⟨rfl, nI_1 k, ?_, fun t ht w => ?_, fun t ht w => ?_, fun u t hu w1 w2 w3 => ?_, fun w => ?_⟩
        · rw [bt_or, h1, Bool.true_or]
        · rw [bt_or, Bool.or_eq_true, hb t ht] at w
          rcases w with w | w
          · exact h2 t ht w
          · obtain ⟨u, hu, hb1, hb2⟩ := (hy t ht).mp (Bool.and_eq_true_iff.mp w).1
            exact Rc_step (h2 u (by omega) (h3 u (by omega) hb1)) hb2
        · rw [bt_or, w, Bool.or_true]
        · have hu40 := (hLt u t w3)
          rw [hb u hu] at w2
          rw [bt_or, hb u hu, Bool.or_eq_true] at w1
          have hu2 : bt l2 u = true := by
            rcases w1 with w1 | w1
            · exact w1
            · rw [w1] at w2; cases w2
          by_cases e4 : bt l4 u = true
          · have : bt y t = true := (hy t (by omega)).mpr ⟨u, hu40.1, e4, w3⟩
            rw [bt_or, hb t (by omega), this, Bool.true_and]
            cases bt l2 t <;> rfl
          · rw [bt_or, h4 u t hu hu2 (Bool.eq_false_iff.mpr e4) w3, Bool.true_or]
        · obtain ⟨t, ht, w⟩ := bt_ne0.mp w
          have w' := w
          rw [hb t ht] at w
          obtain ⟨w1, w2⟩ := Bool.and_eq_true_iff.mp w
          obtain ⟨u, -, -, hl⟩ := (hy t ht).mp w1
          have ht40 := (hLt u t hl).2
          have g := cnt_lt (p := fun i => bt l2 i) (q := fun i => bt (l2 ||| (y &&& (l2 ^^^ -1))) i) (n := 40) (fun i _ zz => by show bt (l2 ||| (y &&& (l2 ^^^ -1))) i = true; rw [bt_or]; have : bt l2 i = true := zz; rw [this, Bool.true_or]) ht40 (by show bt l2 t = false; cases hh : bt l2 t with | false => rfl | true => rw [hh] at w2; cases w2) (by show bt (l2 ||| (y &&& (l2 ^^^ -1))) t = true; rw [bt_or, w', Bool.or_true])
          have := h5 z
          omega
      · rw [if_pos (by omega)]
        refine fin (Classical.byContradiction (fun w => ?_))
        have := h5 w
        omega
    · rw [bt_one (by omega) ht] at z
      rw [of_decide_eq_true z]
      exact Rc_refl s
    · rw [hx0 t ht z, bt_one (by omega) (by omega)]
      exact decide_eq_true rfl
    · rw [bt_one (by omega) hu] at z1
      have e := of_decide_eq_true z1
      subst e
      rcases hx1 with w | w
      · rw [w] at z2; cases z2
      · exact absurd z3 (w t)
    · exact cnt_pos hs (by rw [bt_one (by omega) (by omega)]; exact decide_eq_true rfl)
  have h : ok (f_X12_reachOf a (nI s) σ) (fun y τ => τ = σ ∧ ∀ t, t < 64 → (bt y t = true ↔ Rc L s t)) := by
    unfold f_X12_reachOf f_X12_reachOf_17
    rw [hA.1, gd_n (by omega) (by omega), nI_ix (by omega)]
    refine ok_ite (fun z => key 0 (fun t _ w => (by rw [bt_0] at w; cases w)) (Or.inr (fun t hl => ?_))) (fun z => key _ (fun t ht w => ?_) (Or.inl ?_))
    · have := (hA.2.1 s hs t (by have := (hLt s t hl).2; omega)).mpr hl
      rw [lgc0.mp z, bt_0] at this
      cases this
    · rw [bt_one (by omega) ht] at w
      exact of_decide_eq_true w
    · rw [bt_one (by omega) (by omega)]
      exact decide_eq_true rfl
  obtain ⟨y, τ, e, rfl, hy⟩ := h
  exact ⟨y, e, hy⟩
/-- the least of what can be come to -/
theorem e_leastReach {y : Int64} {L : Nat → Nat → Prop} {s : Nat} (hs : s < 40) (hL : ∀ s t, L s t → s < 40 ∧ t < 40) (hy : ∀ t, t < 64 → (bt y t = true ↔ Rc L s t)) (σ : jM) : f_X12_leastOf y σ = some (nI (lst (fun t => Rc L s t)), σ) := by
  obtain ⟨h1, h2⟩ := lst_spec (p := fun t => Rc L s t) ⟨s, Rc_refl s⟩
  have hlt := Rc_lt hL hs h1
  refine e_leastOf (by omega) ((hy _ (by omega)).mpr h1) (fun i hi => ?_) σ
  cases hb : bt y i with
  | false => rfl
  | true =>
    have := h2 i ((hy i (by omega)).mp hb)
    omega
