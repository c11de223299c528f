/-! two rows compared: the class -/
section CMP
variable {D : dD} {σ : jM}
theorem lgc_lt {x y : Int64} : lg_cmp x y < 0 ↔ x.toInt < y.toInt := by
  unfold lg_cmp
  by_cases h : x > y
  · rw [if_pos h]
    have : y.toInt < x.toInt := Int64.lt_iff_toInt_lt.mp h
    exact ⟨fun z => absurd z (by decide), fun z => by omega⟩
  · rw [if_neg h]
    have h' : ¬ y.toInt < x.toInt := fun z => h (Int64.lt_iff_toInt_lt.mpr z)
    by_cases e : x = y
    · subst e
      rw [if_pos rfl]
      exact ⟨fun z => absurd z (by decide), fun z => by omega⟩
    · rw [if_neg e]
      have : x.toInt ≠ y.toInt := fun z => e (Int64.toInt_inj.mp z)
      exact ⟨fun _ => by omega, fun _ => by decide⟩
theorem bt_nat (x : Int64) (j : Nat) : x.toBitVec.toNat.testBit j = bt x j := rfl
theorem lg_64 {z : Int64} (h : ∀ j, 36 ≤ j → bt z j = false) : lg_cmp z 64 < 0 ↔ ∀ j, 6 ≤ j → bt z j = false := by
  have h36 : z.toBitVec.toNat < 2 ^ 36 := Nat.lt_pow_two_of_testBit _ (fun j hj => h j hj)
  have e : z.toInt = (z.toBitVec.toNat : Int) := BitVec.toInt_eq_toNat_of_lt (by omega)
  rw [lgc_lt, e, show (64 : Int64).toInt = 64 by decide]
  refine ⟨fun y j hj => ?_, fun y => ?_⟩
  · exact tb_hi (k := 6) (n := z.toBitVec.toNat) (by omega) hj
  · have : z.toBitVec.toNat < 2 ^ 6 := Nat.lt_pow_two_of_testBit _ (fun j hj => y j hj)
    omega
theorem lN_of {z : Int64} {n : Nat} (hn : n < 64) (h : ∀ j, j < 64 → bt z j = (decide (j < 6) && n.testBit j)) : z = lN n := by
  refine bt_ext (fun j hj => ?_)
  rw [h j hj, bt_lN n hj]
  by_cases c : j < 6
  · rw [decide_eq_true c, Bool.true_and]
  · rw [decide_eq_false c, Bool.false_and, tb_hi (k := 6) (by omega) (by omega)]
theorem c_signIn {v r i : Nat} {x : Int64} (hx : KeyB D v r x) (hi : i < D 328 r) (h6 : D 328 r ≤ 6) (hs : sg D v r i < 40) : f_X4_signIn x (nI (6 * i)) σ = some (nI (sg D v r i), σ) := by
  unfold f_X4_signIn
  have e : (jlushr x (nI (6 * i)) &&& 63) = lN (sg D v r i + 1) := by
    refine lN_of (by omega) (fun j hj => ?_)
    have e63 : ∀ j : Nat, j < 64 → bt 63 j = decide (j < 6) := by decide +kernel
    rw [bt_and, e63 j hj, bt_ushr x (by omega)]
    by_cases c : j < 6
    · rw [key_place hx hi h6 c, decide_eq_true c, Bool.and_true, Bool.true_and]
    · rw [decide_eq_false c, Bool.and_false, Bool.false_and]
  rw [e, lN_i, sub1_n (by omega), Nat.add_sub_cancel]
theorem e_meansS {v c len i : Nat} (hwr : DWr D) (hc : CDr D σ) (hcl : c < ncl D v) (hl : 1 ≤ len) (hl6 : len ≤ 6) (hi : i < 6) : f_X7_means (rIx D v) (nI c) (nI len) (nI i) σ = some (bI (mn D v c len i), σ) := by
  have h12 := ncl_le hwr v
  obtain ⟨f1, f2, -, -⟩ := c_cl hwr hc hcl
  obtain ⟨g1, g2, -, -⟩ := cl_dw hwr hcl
  unfold f_X7_means f_X7_means_22 f_X7_means_44 f_X7_means_54
  simp (disch := omega) only [gd_n, nI_ix]
  rw [f1, e_isSort, bd_some, ite_bI]
  by_cases c1 : cl D v 332 c < 2
  · have h01 : nI (cl D v 332 c) = 0 ∨ nI (cl D v 332 c) = 1 := by
      rcases (by omega : cl D v 332 c = 0 ∨ cl D v 332 c = 1) with e | e
      · rw [e]; exact Or.inl rfl
      · rw [e]; exact Or.inr rfl
    obtain ⟨k2, k3, k4⟩ := f2 c1
    obtain ⟨m1, m2, m3, m4, m5⟩ := g2 c1
    have hwb : whc (cl D v 333 c) ≤ 6 := by unfold whc; split; omega; split <;> omega
    rw [if_pos h01, k3, ite_iff (nI_le2 (by omega) (by omega))]
    by_cases c2 : cl D v 334 c ≤ len
    · rw [if_pos c2, k2, ite_iff (eq0_n (by omega))]
      have fin : ∀ p : Prop, ∀ _ : Decidable p, (p ↔ i = wpl (cl D v 333 c) len) → (if p then gd ((1 : Int32) = 0 ∨ (1 : Int32) = 1) (some ((1 : Int32), σ)) else gd ((0 : Int32) = 0 ∨ (0 : Int32) = 1) (some ((0 : Int32), σ))) = some (bI (mn D v c len i), σ) := by
        intro p _ hp
        by_cases w : p
        · rw [if_pos w, gd_1, bI_pos ⟨c1, c2, hp.mp w⟩]
        · rw [if_neg w, gd_0, bI_neg (fun y => w (hp.mpr y.2.2))]
      by_cases c3 : whc (cl D v 333 c) = 0
      · rw [if_pos c3, sub1_n hl]
        refine fin _ _ ?_
        rw [nI_eq2 (by omega) (by omega)]
        unfold whc at c3
        unfold wpl
        split at c3
        · omega
        · split at c3
          · rename_i q1 q2
            rw [if_neg q1, if_pos q2]
          · omega
      · rw [if_neg c3, sub1_n (by omega)]
        refine fin _ _ ?_
        rw [nI_eq2 (by omega) (by omega)]
        unfold whc at c3 ⊢
        unfold wpl
        split
        · rfl
        · split
          · rename_i q1 q2
            rw [if_neg q1, if_pos q2] at c3
            omega
          · rfl
    · rw [if_neg c2, bI_neg (fun y => c2 y.2.1)]
  · have hn : ¬ (nI (cl D v 332 c) = 0 ∨ nI (cl D v 332 c) = 1) := fun z => by
      rcases z with z | z
      · have := (eq0_n (by omega)).mp z; omega
      · have := (nI_eq2 (b := 1) (by omega) (by omega)).mp z; omega
    rw [if_neg hn, bI_neg (fun y => c1 y.1)]
/-! counts so far -/
noncomputable def pcn (D : dD) (v y x c a b : Nat) : Nat := sm (fun y => cnt (fun x => tl D v c a b x y) y) y + cnt (fun x => tl D v c a b x y) x
theorem pcn_symm (v y x c a b : Nat) : pcn D v y x c a b = pcn D v y x c b a := by
  unfold pcn
  rw [sm_congr (n := y) (fun i _ => cnt_congr (n := i) (fun j _ => tl_symm v c a b j i)), cnt_congr (n := x) (fun j _ => tl_symm v c a b j y)]
theorem pcn_s (v y x c a b : Nat) : pcn D v y (x + 1) c a b = pcn D v y x c a b + (if tl D v c a b x y = true then 1 else 0) := by
  unfold pcn
  rw [cnt_s, Nat.add_assoc]
theorem pcn_le (v y x c a b : Nat) (hy : y < 192) (hx : x ≤ y) : pcn D v y x c a b ≤ 40000 := by
  unfold pcn
  have := smc_le (fun x y => tl D v c a b x y) (n := y) (y := 0) (by omega)
  have := cnt_le (fun x => tl D v c a b x y) x
  omega
theorem pcn_pos (hw : DWt D) {v y x c a b : Nat} (hy : y < wN D v) (hx : x ≤ y) (h : 0 < pcn D v y x c a b) : a < 40 ∧ b < 40 ∧ a ≠ b := by
  unfold pcn at h
  by_cases h0 : 0 < sm (fun y => cnt (fun x => tl D v c a b x y) y) y
  · obtain ⟨y', h1, h2⟩ := sm_ex h0
    obtain ⟨x', h3, h4⟩ := cnt_ex h2
    exact tl_lt hw (by omega) (by omega) h4
  · obtain ⟨x', h3, h4⟩ := cnt_ex (show 0 < cnt (fun x => tl D v c a b x y) x by omega)
    exact tl_lt hw (by omega) hy h4
/-- clauses below n have counted the pair at hand -/
noncomputable def pq (D : dD) (v n y x c a b : Nat) : Nat := if c < n then pcn D v y (x + 1) c a b else pcn D v y x c a b
def LC (D : dD) (v n y x : Nat) (σ : jM) : Prop := (∀ c, c < ncl D v → ∀ a b, a < b → b < 40 → rI σ (266 + c) (pr a b) = nI (pq D v n y x c a b)) ∧ ∀ o, o < 2 → Adj σ (279 + o) (fun a b => ∃ c, c < ncl D v ∧ cl D v 332 c = o ∧ cl D v 335 c ≤ pq D v n y x c a b)
abbrev wcm (k _j : Nat) : Prop := (266 ≤ k ∧ k ≤ 277) ∨ k = 279 ∨ k = 280
theorem shf_tel : ∀ c : Nat, c < 12 → (shf (266 + c)).2 = 780 := by decide +kernel
set_option maxHeartbeats 4000000 in
theorem c_compare62 (hw : DWt D) (hwr : DWr D) (hc : CDr D σ) {v x y i p s : Nat} (hv : σ.2.2 = rIx D v) (hy : y < wN D v) (hx : x < y) (hu : un D v (wxr D v x) (wxr D v y) i) (hp : p = sg D v (wxr D v y) i) (hs : s = sg D v (wxr D v x) i) (hL : LC D v 0 y x σ) : ok (f_X4_compare_62 Fu (nI (D 328 (wxr D v x))) (nI i) (nI p) (nI s) 0 σ) (fun _ τ => LC D v (ncl D v) y x τ ∧ Fr wcm σ τ) := by
  have h12 := ncl_le hwr v
  have hN := wN_le hw v
  have h24 := hw.1
  have hrx := rulX_cases (rIx D v)
  have hrl := rIx_le hwr v
  obtain ⟨a1, a2, a3, a4, a5⟩ := wxr_dw hw (v := v) (k := x) (Nat.le_refl _) (show x < wct D v (8 * D 324 2) by unfold wN at hy; omega)
  obtain ⟨b1, b2, b3, b4, b5⟩ := wxr_dw hw (v := v) (k := y) (Nat.le_refl _) hy
  have s1 : s < 40 := by rw [hs]; exact sg_lt hw (v := v) (by omega) a3 hu.2.1 a2
  have s2 : p < 40 := by rw [hp]; exact sg_lt hw (v := v) (by omega) b3 (by rw [← hu.1]; exact hu.2.1) b2
  have hne : p ≠ s := fun z => hu.2.2.1 (by rw [← hs, ← hp, z])
  have hi6 : i < 6 := by have := hu.2.1; omega
  have hui : ui D v (wxr D v x) (wxr D v y) = i := ui_eq hu
  -- what the pair tells by a clause
  have htl : ∀ c a b, tl D v c a b x y = true ↔ (mn D v c (D 328 (wxr D v x)) i ∧ ab2 s p a b) := by
    intro c a b
    unfold tl
    rw [decide_eq_true_eq]
    show ((ui D v (wxr D v x) (wxr D v y) ≠ 999 ∧ mn D v c (D 328 (wxr D v x)) (ui D v (wxr D v x) (wxr D v y))) ∧ ab2 (sg D v (wxr D v x) (ui D v (wxr D v x) (wxr D v y))) (sg D v (wxr D v y) (ui D v (wxr D v x) (wxr D v y))) a b) ↔ _
    rw [hui, ← hs, ← hp]
    exact ⟨fun z => ⟨z.1.2, z.2⟩, fun z => ⟨⟨by omega, z.1⟩, z.2⟩⟩
  refine L_X4_compare_62 (ncl D v) (fun n l11 τ => l11 = nI n ∧ LC D v n y x τ ∧ Fr wcm σ τ) (by omega) (fun n q l11 τ hk hI hq => ?_) (Nat.zero_le _) ⟨rfl, hL, Fr.refl⟩
  obtain ⟨rfl, hL, hF⟩ := hI
  have hc' : CDr D τ := CDr_eq hwr rfl rfl rfl rfl rfl rfl rfl (hF.I _ _ (by omega)) (hF.I _ _ (by omega)) (fun k j h1 h2 i => hF.I _ _ (by omega)) hc
  have hv' : τ.2.2 = rIx D v := (hF.2.2 (by omega)).trans hv
  unfold s_X4_compare_62 f_X4_compare_171
  rw [hv', c_ncl hwr hc' v]
  simp (disch := omega) only [nI_le2]
  by_cases cn : n < ncl D v
  · obtain ⟨f1, f2, -, -⟩ := c_cl hwr hc' cn
    rw [if_neg (by omega), e_meansS hwr hc' cn a1 a2 hi6, bd_some, ite_bI]
    have hqe : ∀ c a b, c ≠ n → pq D v (n + 1) y x c a b = pq D v n y x c a b := fun c a b hc => by
      unfold pq
      by_cases e : c < n
      · rw [if_pos e, if_pos (by omega)]
      · rw [if_neg e, if_neg (by omega)]
    have hqn : ∀ a b, pq D v (n + 1) y x n a b = pcn D v y x n a b + (if tl D v n a b x y = true then 1 else 0) := fun a b => by
      unfold pq
      rw [if_pos (by omega), pcn_s]
    have hqo : ∀ a b, pq D v n y x n a b = pcn D v y x n a b := fun a b => by unfold pq; rw [if_neg (by omega)]
    refine ok_ite (fun z => ?_) (fun z => ?_)
    · obtain ⟨k2, k3, k4⟩ := f2 z.1
      obtain ⟨m1, m2, m3, m4, m5⟩ := (cl_dw hwr cn).2.1 z.1
      have hpp := pr_lt s2 s1 hne
      have hle := pcn_le (D := D) v y x n p s (by omega) (by omega)
      have hcell : rI τ (266 + n) (pr p s) = nI (pcn D v y x n p s) := by
        rcases Nat.lt_or_ge p s with w | w
        · rw [hL.1 n cn p s w s1, hqo]
        · rw [pr_comm, hL.1 n cn s p (by omega) s2, hqo, pcn_symm]
      rw [gd_n (by omega) (by omega), e_pairOf s2 s1, bd_some]
      simp (disch := omega) only [gd_n, nI_ix]
      rw [e_pairOf s2 s1, bd_some, gd_n hpp (by omega)]
      simp (disch := omega) only [nI_ix]
      rw [rI_same, hcell, nI_1]
      rw [show (wI τ (266 + n) (pr p s) (nI (pcn D v y x n p s + 1))).2.2 = rIx D v from hv', rI_nk (show rulX (rIx D v) + 4 ≠ 266 + n by omega), k4, ite_iff (nI_lt2 (by omega) (by omega))]
      have hF1 : Fr wcm σ (wI τ (266 + n) (pr p s) (nI (pcn D v y x n p s + 1))) := hF.w (Or.inl ⟨by omega, by omega⟩)
      have hcnt : ∀ c, c < ncl D v → ∀ a b, a < b → b < 40 → rI (wI τ (266 + n) (pr p s) (nI (pcn D v y x n p s + 1))) (266 + c) (pr a b) = nI (pq D v (n + 1) y x c a b) := by
        intro c hcc a b hab hb
        by_cases e : c = n
        · subst e
          rw [hqn]
          by_cases e2 : ab2 s p a b
          · have e3 : pr a b = pr p s := by
              rcases e2 with ⟨h1, h2⟩ | ⟨h1, h2⟩
              · rw [← h1, ← h2, pr_comm]
              · rw [← h1, ← h2]
            rw [e3, rI_same, if_pos ((htl _ _ _).mpr ⟨z, e2⟩)]
            congr 2
            rcases e2 with ⟨h1, h2⟩ | ⟨h1, h2⟩
            · rw [← h1, ← h2, pcn_symm]
            · rw [← h1, ← h2]
          · rw [rI_nj, hL.1 c hcc a b hab hb, hqo, if_neg (fun y2 => e2 ((htl _ _ _).mp y2).2), Nat.add_zero]
            intro y2
            rcases Nat.lt_or_ge p s with w | w
            · obtain ⟨y3, y4⟩ := pr_inj hab w y2
              exact e2 (Or.inr ⟨y4.symm, y3.symm⟩)
            · rw [pr_comm p s] at y2
              obtain ⟨y3, y4⟩ := pr_inj hab (show s < p by omega) y2
              exact e2 (Or.inl ⟨y3.symm, y4.symm⟩)
        · rw [rI_nk (by omega), hqe c a b e]
          exact hL.1 c hcc a b hab hb
      -- how the relation grows
      have hrel : ∀ o a b, (∃ c, c < ncl D v ∧ cl D v 332 c = o ∧ cl D v 335 c ≤ pq D v (n + 1) y x c a b) ↔ ((∃ c, c < ncl D v ∧ cl D v 332 c = o ∧ cl D v 335 c ≤ pq D v n y x c a b) ∨ (cl D v 332 n = o ∧ ab2 s p a b ∧ cl D v 335 n ≤ pcn D v y x n p s + 1)) := by
        intro o a b
        have hsame : ab2 s p a b → pcn D v y x n a b = pcn D v y x n p s := fun e2 => by
          rcases e2 with ⟨h1, h2⟩ | ⟨h1, h2⟩
          · rw [← h1, ← h2, pcn_symm]
          · rw [← h1, ← h2]
        refine ⟨fun ⟨c, y1, y2, y3⟩ => ?_, fun y => ?_⟩
        · by_cases e : c = n
          · subst e
            rw [hqn] at y3
            by_cases e2 : ab2 s p a b
            · rw [if_pos ((htl _ _ _).mpr ⟨z, e2⟩), hsame e2] at y3
              exact Or.inr ⟨y2, e2, y3⟩
            · rw [if_neg (fun w => e2 ((htl _ _ _).mp w).2), Nat.add_zero, ← hqo] at y3
              exact Or.inl ⟨c, y1, y2, y3⟩
          · rw [hqe c a b e] at y3
            exact Or.inl ⟨c, y1, y2, y3⟩
        · rcases y with ⟨c, y1, y2, y3⟩ | ⟨y1, y2, y3⟩
          · refine ⟨c, y1, y2, ?_⟩
            by_cases e : c = n
            · subst e
              rw [hqn]
              rw [hqo] at y3
              omega
            · rw [hqe c a b e]; exact y3
          · refine ⟨n, cn, y1, ?_⟩
            rw [hqn, if_pos ((htl _ _ _).mpr ⟨z, y2⟩), hsame y2]
            exact y3
      refine ok_ite (fun w => ?_) (fun w => ?_)
      · refine hq (n + 1) _ _ (by omega) (by omega) ⟨nI_1 n, ⟨hcnt, fun o ho => Adj_iff (Adj_fr (hL.2 o ho) (fun j => rfl)) (fun a b => ((hrel o a b).trans ⟨fun y => y.resolve_right (fun y => by omega), Or.inl⟩).symm)⟩, hF1⟩
      · rw [rI_nk (show rulX (rIx D v) + 1 ≠ 266 + n by omega), f1, gd_n z.1 (by omega)]
        simp (disch := omega) only [nI_ix]
        refine ok_bd (e_join (Adj_fr (τ := wI τ (266 + n) (pr p s) (nI (pcn D v y x n p s + 1))) (hL.2 _ z.1) (fun j => rfl)) s2 s1) (fun _ τ2 h2 => ?_)
        have hz := z.1
        refine hq (n + 1) _ _ (by omega) (by omega) ⟨nI_1 n, ⟨fun c hcc a b hab hb => (h2.2.I _ _ (by omega)).trans (hcnt c hcc a b hab hb), fun o ho => ?_⟩, hF1.trans (h2.2.mono (fun k j e => by omega))⟩
        by_cases e : o = cl D v 332 n
        · subst e
          refine Adj_iff h2.1 (fun a b => ⟨fun y => (hrel _ a b).mpr ?_, fun y => ?_⟩)
          · rcases y with y | ⟨rfl, rfl⟩ | ⟨rfl, rfl⟩
            · exact Or.inl y
            · exact Or.inr ⟨rfl, Or.inr ⟨rfl, rfl⟩, by omega⟩
            · exact Or.inr ⟨rfl, Or.inl ⟨rfl, rfl⟩, by omega⟩
          · rcases (hrel _ a b).mp y with y | ⟨-, y, -⟩
            · exact Or.inl y
            · rcases y with ⟨rfl, rfl⟩ | ⟨rfl, rfl⟩
              · exact Or.inr (Or.inr ⟨rfl, rfl⟩)
              · exact Or.inr (Or.inl ⟨rfl, rfl⟩)
        · exact Adj_iff (Adj_fr (hL.2 o ho) (fun j => h2.2.L _ _ (by omega))) (fun a b => ((hrel o a b).trans ⟨fun y => y.resolve_right (fun y => e y.1.symm), Or.inl⟩).symm)
    · have hsm : ∀ c a b, pq D v (n + 1) y x c a b = pq D v n y x c a b := fun c a b => by
        by_cases e : c = n
        · subst e
          rw [hqn, hqo, if_neg (fun w => z ((htl _ _ _).mp w).1), Nat.add_zero]
        · exact hqe c a b e
      refine hq (n + 1) _ _ (by omega) (by omega) ⟨nI_1 n, ⟨fun c hcc a b hab hb => by rw [hsm]; exact hL.1 c hcc a b hab hb, fun o ho => Adj_iff (hL.2 o ho) (fun a b => ⟨fun ⟨c, y1, y2, y3⟩ => ⟨c, y1, y2, by rw [hsm]; exact y3⟩, fun ⟨c, y1, y2, y3⟩ => ⟨c, y1, y2, by rw [hsm] at y3; exact y3⟩⟩)⟩, hF⟩
  · rw [if_pos (by omega)]
    have e : n = ncl D v := by omega
    subst e
    exact ok_ret ⟨hL, hF⟩
end CMP
