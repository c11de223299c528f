/-! fits: which rows; the class -/
section FIT
variable {D : dD} {σ : jM} {v : Nat} {m t q : Nat} {T : Nat → Nat}
/-- the new one can lie on row q of tablet t, as the class asks it -/
def FT (D : dD) (v m : Nat) (T : Nat → Nat) (t q : Nat) : Prop := D 328 (8 * t + q) = nce D v T m ∧ ∃ g1, ly D v (cev D v T m) (8 * t + q) g0 (nce D v T m) = some g1 ∧ 0 < (lvs D v (esN D v m T t) (nse D v 0) 0 g1 (up r0 (nse D v 0) q)).length
/-- beside this way, as the reference asks it -/
def FX (D : dD) (v m : Nat) (T : Nat → Nat) (t q : Nat) (x : gF × gF) : Prop := (∀ i, i < nse D v 0 → ¬ ((ese D v 0).1 i = t ∧ x.2 i = q)) ∧ D 328 (8 * t + q) = nce D v T m ∧ ∃ g', ly D v (cev D v T m) (8 * t + q) x.1 (nce D v T m) = some g'
theorem SOK_e (hw : DW D) : SOK D (ese D v 0) 0 (0 + nse D v 0) := fun i _ hi => by
  have hi : i < nse D v 0 := by omega
  have hlt := ese_lt hw hi
  have h24 := hw.1.1
  obtain ⟨b1, b2, b3, b4, b5⟩ := hw.1.2.1 _ hlt
  refine ⟨fun j hj => cev_bd hw.2.1 (nl_bd hw.2.2.2.2 (nmo_of hi).1) hj, fun q hq hz j hj => ?_⟩
  have := b5 q hq
  exact hw.1.2.2 _ (by omega)
theorem SOK_n (hw : DW D) : SOK D (esN D v m T t) 0 (0 + nse D v 0) := fun i a hi => by
  have hn : i ≠ nse D v 0 := by omega
  have := SOK_e hw (v := v) i a hi
  rw [(esN_i hn).1, (esN_i hn).2.1]
  exact ⟨fun j hj => by rw [(esN_i hn).2.2]; exact this.1 j hj, this.2⟩
theorem SAT_n {h : gF} {i : Nat} (hn : i ≠ nse D v 0) (p : Nat) : SAT D v (esN D v m T t) h i p ↔ SAT D v (ese D v 0) h i p := by
  unfold SAT
  rw [(esN_i hn).1, (esN_i hn).2.1, show (esN D v m T t).2.2 i = (ese D v 0).2.2 i from funext (esN_i hn).2.2]
theorem FT_iff (hw : DW D) (hm : nmok m T) (ht : t < D 324 2) (hq : q < D 327 t) : FT D v m T t q ↔ ∃ x, x ∈ WW D v 0 ∧ FX D v m T t q x := by
  have h6 := nse_le hw (v := v) 0
  have h24 := hw.1.1
  obtain ⟨b1, b2, b3, b4, b5⟩ := hw.1.2.1 t ht
  have bq := b5 q hq
  have hC : ∀ j, j < nce D v T m → cev D v T m j < 135 := fun j hj => cev_bd hw.2.1 hm.2.2 hj
  have hS : D 328 (8 * t + q) = nce D v T m → ∀ j, j < nce D v T m → D 329 (6 * (8 * t + q) + j) = 99 ∨ D 329 (6 * (8 * t + q) + j) < 40 := fun hz j hj => hw.1.2.2 _ (by omega)
  have r8 : ∀ i p (h : gF), i < nse D v 0 → SAT D v (ese D v 0) h i p → p < 8 := fun i p h hi hs => by
    have := (hw.1.2.1 _ (ese_lt hw hi)).2.2.2.1
    have := hs.1
    omega
  constructor
  · rintro ⟨hz, g1, h1, hlen⟩
    obtain ⟨y, hy⟩ := List.exists_mem_of_length_pos hlen
    obtain ⟨s1, -, s3⟩ := ly_sd (hS hz) hC CP_0 h1
    obtain ⟨k1, k2, k3, k4⟩ := lvs_sd (SOK_n hw) s1 (by omega) hy
    obtain ⟨x, x1, x2, x3, x4⟩ := lvs_mk (g := g0) (r := r0) (h := y.1) (p := y.2) (SOK_e hw) k1 (LEg_0 _) (fun i a b => by
      obtain ⟨m1, m2, m3⟩ := k4 i a b
      have hn : i ≠ nse D v 0 := by omega
      have m1 := (SAT_n hn _).mp m1
      refine ⟨m1, fun i' _ z => ?_, fun i' a' b' z => ?_⟩
      · have := r8 i _ _ (by omega) m1
        have z : 99 = y.2 i := z
        omega
      · have := m3 i' a' b' z
        rw [(esN_i (show i' ≠ nse D v 0 by omega)).1, (esN_i hn).1] at this
        exact this)
    refine ⟨x, x1, fun i hi z => ?_, hz, ?_⟩
    · obtain ⟨m1, m2, m3⟩ := k4 i (by omega) (by omega)
      have := m2 (nse D v 0) (by omega) (by omega) (by rw [up_same, ← x3 i (by omega) (by omega)]; exact z.2.symm)
      rw [esN_n.1, (esN_i (show i ≠ nse D v 0 by omega)).1] at this
      exact this z.1.symm
    · obtain ⟨g', e1, -⟩ := ly_mk (hS hz) hC k1 x2 (RS_le hC s3 k2)
      exact ⟨g', e1⟩
  · rintro ⟨x, hx, hown, hz, g', hg'⟩
    obtain ⟨k1, k2, k3, k4⟩ := lvs_sd (SOK_e hw) CP_0 (by omega) hx
    obtain ⟨s1, s2, s3⟩ := ly_sd (hS hz) hC k1 hg'
    obtain ⟨g1, e1, e2⟩ := ly_mk (g := g0) (hS hz) hC s1 (LEg_0 _) s3
    obtain ⟨y, y1, -⟩ := lvs_mk (g := g1) (r := up r0 (nse D v 0) q) (h := g') (p := x.2) (SOK_n hw (m := m) (T := T) (t := t)) s1 e2 (fun i a b => by
      obtain ⟨m1, m2, m3⟩ := k4 i a b
      have hn : i ≠ nse D v 0 := by omega
      have r := r8 i _ _ (by omega) m1
      refine ⟨(SAT_n hn _).mpr ⟨m1.1, m1.2.1, RS_le (SOK_e hw i a b).1 m1.2.2 s2⟩, fun i' h7 z => ?_, fun i' a' b' z => ?_⟩
      · rw [(esN_i hn).1]
        by_cases e : i' = nse D v 0
        · subst e
          rw [up_same] at z
          rw [esN_n.1]
          exact fun y => hown i (by omega) ⟨y.symm, z.symm⟩
        · rw [up_ne _ _ e] at z
          have z : 99 = x.2 i := z
          omega
      · rw [(esN_i (show i' ≠ nse D v 0 by omega)).1, (esN_i hn).1]
        exact m3 i' a' b' z)
    exact ⟨hz, g1, e1, List.length_pos_of_mem y1⟩
/-- rows by their numbers -/
noncomputable def fp (D : dD) (v m : Nat) (T : Nat → Nat) (r : Nat) : Bool := decP (r / 8 < D 324 2 ∧ r % 8 < D 327 (r / 8) ∧ tC D v (r / 8) ∧ FT D v m T (r / 8) (r % 8))
theorem decP_f {P : Prop} (h : ¬ P) : decP P = false := Bool.eq_false_iff.mpr (fun z => h (decP_t.mp z))
theorem decP_c {P Q : Prop} (h : P ↔ Q) : decP P = decP Q := by
  by_cases c : P
  · rw [decP_t.mpr c, decP_t.mpr (h.mp c)]
  · rw [decP_f c, decP_f (fun z => c (h.mpr z))]
theorem fp_row (hw : DW D) {k : Nat} (hk : k < D 324 2) : cnt (fun i => fp D v m T (8 * k + i)) 8 = if tC D v k then cnt (fun q => decP (FT D v m T k q)) (D 327 k) else 0 := by
  have b4 := (hw.1.2.1 k hk).2.2.2.1
  by_cases c : tC D v k
  · rw [if_pos c]
    obtain ⟨d, hd⟩ : ∃ d, 8 = D 327 k + d := ⟨8 - D 327 k, by omega⟩
    have e : cnt (fun i => fp D v m T (8 * k + i)) 8 = cnt (fun i => fp D v m T (8 * k + i)) (D 327 k + d) := by rw [← hd]
    rw [e, cnt_add, cnt_zero (p := fun i => fp D v m T (8 * k + (D 327 k + i))) (fun i hi => decP_f (fun z => by
      have := z.2.1
      rw [show (8 * k + (D 327 k + i)) / 8 = k by omega] at this
      omega)), Nat.add_zero]
    refine cnt_congr (fun i hi => decP_c ?_)
    rw [show (8 * k + i) / 8 = k by omega, show (8 * k + i) % 8 = i by omega]
    exact ⟨fun z => z.2.2.2, fun z => ⟨hk, hi, c, z⟩⟩
  · rw [if_neg c]
    exact cnt_zero (fun i hi => decP_f (fun z => c (by
      have := z.2.2.1
      rw [show (8 * k + i) / 8 = k by omega] at this
      exact this)))
theorem c_rowsAt (hw : DW D) (hct : CDt D σ) (hG : GK D v σ) (h18 : ∀ s, s < 40 → rI σ 18 s = nI (std D v s)) (hN : SN D v m T σ) (hm : nmok m T) (ht : t < D 324 2) : ok (f_X8_rowsForNewAt (nI t) σ) (fun r τ => r = nI (cnt (fun q => decP (FT D v m T t q)) (D 327 t)) ∧ SN D v m T τ ∧ Fr (wsq (rI σ 296 18 ≠ 0)) σ τ) := by
  have h6 := nse_le hw (v := v) 0
  have h24 := hw.1.1
  obtain ⟨b1, b2, b3, b4, b5⟩ := hw.1.2.1 t ht
  have eC : (esN D v m T t).2.2 (nse D v 0) = cev D v T m := funext esN_n.2.2
  have hx : 28 ≤ tabX t ∧ tabX t + 2 ≤ 99 := by unfold tabX; omega
  unfold f_X8_rowsForNewAt
  rw [hN.1, gd_n (by omega) (by omega), nI_ix (by omega)]
  refine L_X8_rowsForNewAt_14 (D 327 t) (fun k l2 l3 τ => l2 = nI (cnt (fun q => decP (FT D v m T t q)) k) ∧ l3 = nI k ∧ SN D v m T τ ∧ rI τ 300 (nse D v 0) = nI t ∧ Fr (wsq (rI σ 296 18 ≠ 0)) σ τ) (by omega) (fun k p l2 l3 τ hk hI hp => ?_) (Nat.zero_le _) ⟨rfl, rfl, SN_fr hN h6 (rI_nk (by omega)) (fun i hi => rI_nj (by omega)) (fun i => rI_nk (by omega)) (fun k j a b => rI_nk (by omega)), rI_same _ _ _ _, Fr.w Fr.refl (Or.inr (by omega))⟩
  obtain ⟨rfl, rfl, hN1, e300, hF⟩ := hI
  have hct1 : CDt D τ := CDt_eq hw.1 rfl rfl rfl rfl rfl rfl (hF.I _ _ (wsq_no (by omega) (by omega))) (fun k j a b => hF.I _ _ (wsq_no (by omega) (by omega))) hct
  unfold s_X8_rowsForNewAt_14 f_X8_rowsForNewAt_69
  rw [gd_n (by omega) (by omega)]
  simp (disch := omega) only [nI_ix]
  rw [(hct1.2.1 t ht).2.2.1, ite_iff (nI_le2 (by omega) (by omega))]
  by_cases ck : k < D 327 t
  · have hb := b5 k ck
    have no : ¬ FT D v m T t k → ∀ τ', SN D v m T τ' → rI τ' 300 (nse D v 0) = nI t → Fr (wsq (rI σ 296 18 ≠ 0)) σ τ' → ok (p (nI t) (nI (cnt (fun q => decP (FT D v m T t q)) k)) (nI k + 1) τ') (fun r τ => r = nI (cnt (fun q => decP (FT D v m T t q)) (D 327 t)) ∧ SN D v m T τ ∧ Fr (wsq (rI σ 296 18 ≠ 0)) σ τ) := fun z τ' x1 x2 x3 => hp (k + 1) _ _ _ (by omega) (by omega) ⟨by rw [cnt_s, if_neg (fun y => z (decP_t.mp y)), Nat.add_zero], nI_1 k, x1, x2, x3⟩
    rw [if_neg (by omega)]
    refine ok_bd c_clearCells (fun _ τ1 u => ?_)
    obtain ⟨u1, u2, u3, uF⟩ := u
    have hF1 : Fr (wsq (rI σ 296 18 ≠ 0)) σ τ1 := hF.trans (uF.mono (fun k j z => Or.inr (by omega)))
    have hN2 : SN D v m T τ1 := SN_fr hN1 h6 (uF.I _ _ (by omega)) (fun i _ => uF.I _ _ (by omega)) (fun i => uF.I _ _ (by omega)) (fun k j a b => uF.I _ _ (by omega))
    have e301 : rI τ1 300 (nse D v 0) = nI t := (uF.I _ _ (by omega)).trans e300
    have hX1 : CX D v (esN D v m T t) (nse D v 0 + 1) τ1 := ⟨CDt_eq hw.1 rfl rfl rfl rfl rfl rfl (hF1.I _ _ (wsq_no (by omega) (by omega))) (fun k j a b => hF1.I _ _ (wsq_no (by omega) (by omega))) hct, GK_St _ _ _ _ (fun k j hr => ⟨hF1.I _ _ (wsq_no (by omega) (by omega)), hF1.L _ _ (wsq_no (by omega) (by omega))⟩) hG, fun s hs => (hF1.I _ _ (wsq_no (by omega) (by omega))).trans (h18 s hs), SN_SC hw hm ht hN2 e301⟩
    have hkt : k < D 327 ((esN D v m T t).1 (nse D v 0)) := by rw [esN_n.1]; exact ck
    rw [hN2.1, c_isOpen hw hX1 (l := nse D v 0) (by omega) hkt u2 (fun i _ h => absurd rfl h), bd_some, ite_bI]
    refine ok_ite (fun z => ?_) (fun z => no (fun y => z (decP_t.mpr ⟨by rw [esN_n.1, esN_n.2.1]; exact y.1, fun i _ w => ?_⟩)) τ1 hN2 e301 hF1)
    · have hz := (decP_t.mp z).1
      have hz2 := hz
      rw [esN_n.1, esN_n.2.1] at hz2
      rw [hN2.1]
      refine ok_bd (c_lay hw hX1 (l := nse D v 0) (by omega) hkt hz u1) (fun ret τ2 w => ?_)
      obtain ⟨g1, kk, N, w1, w2, w3, w4, w5, w6, w7⟩ := w
      rw [esN_n.1, esN_n.2.1, eC] at w7
      have hF2 : Fr (wsq (rI σ 296 18 ≠ 0)) σ τ2 := hF1.trans (w6.mono (fun k j z => Or.inr (by omega)))
      have hN3 : SN D v m T τ2 := SN_fr hN2 h6 (w6.I _ _ (by omega)) (fun i _ => w6.I _ _ (by omega)) (fun i => w6.I _ _ (by omega)) (fun k j a b => w6.I _ _ (by omega))
      have e302 : rI τ2 300 (nse D v 0) = nI t := (w6.I _ _ (by omega)).trans e301
      rcases w7 with ⟨rfl, w7⟩ | ⟨rfl, w7⟩
      · rw [if_pos rfl]
        refine no (fun y => ?_) τ2 hN3 e302 hF2
        obtain ⟨-, g', y1, -⟩ := y
        rw [w7] at y1
        cases y1
      · rw [if_neg (by decide)]
        have hX2 : CX D v (esN D v m T t) (nse D v 0 + 1) τ2 := CX_fr hw hX1 (w6.mono (fun k j z => wly_wS (by omega) z))
        have hr2 : CR7 (up r0 (nse D v 0) k) τ2 := fun i hi => by
          by_cases ei : i = nse D v 0
          · subst ei
            rw [up_same]
            exact ⟨by rw [w5]; exact (if_neg (by omega)).symm, Or.inr (by omega)⟩
          · rw [up_ne _ _ ei]
            exact ⟨(w6.I _ _ (by omega)).trans (u2 i hi).1, Or.inl rfl⟩
        have hla := c_layAll (M := 1) hw (n := nse D v 0) (n' := nse D v 0 + 1) (by omega) (by omega) (by omega) (rI σ 296 18 ≠ 0) hX2 hN3.1 (by rw [hF2.I 296 18 (wsq_no (by omega) (by omega))]) ((w6.I _ _ (by omega)).trans u3) w1 hr2 (fun i hi => up_ne _ _ (by omega)) (fun i h7 h => by
          by_cases ei : i = nse D v 0
          · omega
          · rw [up_ne _ _ ei] at h; exact absurd rfl h)
        refine ok_bd (R := DQ (rI σ 296 18 ≠ 0) 1 g1 (up r0 (nse D v 0) k) (lvs D v (esN D v m T t) (nse D v 0) 0 g1 (up r0 (nse D v 0) k)) τ2) hla (fun ret τ3 hh => ?_)
        obtain ⟨hF3, hres⟩ := hh
        have hF4 : Fr (wsq (rI σ 296 18 ≠ 0)) σ τ3 := hF2.trans (hF3.mono (fun k j z => wA_wsq z))
        have hN4 : SN D v m T τ3 := SN_fr hN3 h6 (hF3.I _ _ (wA_no (by omega) (by omega))) (fun i _ => hF3.I _ _ (wA_no (by omega) (by omega))) (fun i => hF3.I _ _ (wA_no (by omega) (by omega))) (fun k j a b => hF3.I _ _ (wA_no (by omega) (by omega)))
        have e303 : rI τ3 300 (nse D v 0) = nI t := (hF3.I _ _ (wA_no (by omega) (by omega))).trans e302
        rcases hres with ⟨x1, rfl, -⟩ | ⟨x1, rfl, -⟩
        · rw [if_pos rfl]
          refine no (fun y => ?_) τ3 hN4 e303 hF4
          obtain ⟨-, g', y1, y2⟩ := y
          rw [w7] at y1
          cases y1
          omega
        · rw [if_neg (by decide)]
          exact hp (k + 1) _ _ _ (by omega) (by omega) ⟨by rw [cnt_s, if_pos (decP_t.mpr ⟨hz2, g1, w7, by omega⟩), nI_1], nI_1 k, hN4, e303, hF4⟩
    · have w : 99 = k := w
      omega
  · have e : k = D 327 t := by omega
    rw [if_pos (by omega), e]
    exact ok_ret ⟨rfl, hN1, hF⟩
theorem c_rowsNew (hw : DW D) (hct : CDt D σ) (hG : GK D v σ) (h18 : ∀ s, s < 40 → rI σ 18 s = nI (std D v s)) (h10 : rI σ 3 10 = nI v) (hv : v ≤ 100000) (hN : SN D v m T σ) (hm : nmok m T) : ok (f_X8_rowsForNew σ) (fun r τ => r = nI (cnt (fp D v m T) (8 * D 324 2)) ∧ Fr (wsq (rI σ 296 18 ≠ 0)) σ τ) := by
  have h24 := hw.1.1
  unfold f_X8_rowsForNew
  refine L_X8_rowsForNew_4 (D 324 2) (fun k l1 l2 τ => l1 = nI (cnt (fp D v m T) (8 * k)) ∧ l2 = nI k ∧ SN D v m T τ ∧ Fr (wsq (rI σ 296 18 ≠ 0)) σ τ) (by omega) (fun k p l1 l2 τ hk hI hp => ?_) (Nat.zero_le _) ⟨rfl, rfl, hN, Fr.refl⟩
  obtain ⟨rfl, rfl, hN1, hF⟩ := hI
  have hct1 : CDt D τ := CDt_eq hw.1 rfl rfl rfl rfl rfl rfl (hF.I _ _ (wsq_no (by omega) (by omega))) (fun k j a b => hF.I _ _ (wsq_no (by omega) (by omega))) hct
  unfold s_X8_rowsForNew_4 f_X8_rowsForNew_34
  rw [hct1.1, ite_iff (nI_le2 (by omega) (by omega))]
  by_cases ck : k < D 324 2
  · have hr := fp_row (v := v) (m := m) (T := T) hw ck
    have es : cnt (fp D v m T) (8 * (k + 1)) = cnt (fp D v m T) (8 * k) + cnt (fun i => fp D v m T (8 * k + i)) 8 := by rw [show 8 * (k + 1) = 8 * k + 8 by omega, cnt_add]
    rw [hr] at es
    rw [if_neg (by omega), c_tC hw.1 hct1 ck hv ((hF.I _ _ (wsq_no (by omega) (by omega))).trans h10), bd_some, ite_bI]
    refine ok_ite (fun z => ?_) (fun z => ?_)
    · rw [if_pos z] at es
      refine ok_bd (c_rowsAt hw hct1 (GK_St _ _ _ _ (fun k j hr => ⟨hF.I _ _ (wsq_no (by omega) (by omega)), hF.L _ _ (wsq_no (by omega) (by omega))⟩) hG) (fun s hs => (hF.I _ _ (wsq_no (by omega) (by omega))).trans (h18 s hs)) hN1 hm ck) (fun r τ2 u => ?_)
      obtain ⟨rfl, u2, u3⟩ := u
      rw [hF.I 296 18 (wsq_no (by omega) (by omega))] at u3
      rw [nI_add, ← es]
      exact hp (k + 1) _ _ _ (by omega) (by omega) ⟨rfl, nI_1 k, u2, hF.trans u3⟩
    · rw [if_neg z] at es
      exact hp (k + 1) _ _ _ (by omega) (by omega) ⟨by rw [es]; rfl, nI_1 k, hN1, hF⟩
  · have e : k = D 324 2 := by omega
    rw [if_pos (by omega), e]
    exact ok_ret ⟨rfl, hF⟩
end FIT
