/-! feed -/
section FEED
variable {K : dD → Nat → jM → Prop} {σ : jM}
def Bt (a : Int32) (i : Nat) : Int32 := jushr a (nI (24 - 8 * i)) &&& 255
theorem Bt_E (a : Int32) (i : Nat) : ∃ j : Nat, j < 256 ∧ Bt a i = nI j := pk_andE _ 8 (by decide)
theorem Bt_sh : ∀ i : Nat, i < 4 → ((nI (24 - 8 * i)).toBitVec.smod 32).toNat = 24 - 8 * i ∧ (((nI (24 - 8 * i)).toUInt32 &&& Int32.toUInt32 31).mod 32).toBitVec.toNat = 24 - 8 * i := by decide +kernel
theorem Bt_byte (a : Int32) {i : Nat} (hi : i < 4) : vp_nar .byte (Int8.toInt32 (Int32.toInt8 (a >>> nI (24 - 8 * i)))) = (Bt a i).toInt8.toInt32 := by
  have e0 : ∀ y : Int8, vp_nar .byte y.toInt32 = y.toInt32 := fun y => by
    show y.toInt32.toInt8.toInt32 = y.toInt32
    rw [Int8.toInt8_toInt32]
  rw [e0]
  congr 1
  obtain ⟨s1, s2⟩ := Bt_sh i hi
  have t1 : (a >>> nI (24 - 8 * i)).toBitVec = a.toBitVec.sshiftRight (24 - 8 * i) := by
    show a.toBitVec.sshiftRight ((nI (24 - 8 * i)).toBitVec.smod 32).toNat = _
    rw [s1]
  have t2 : (jushr a (nI (24 - 8 * i))).toBitVec = a.toBitVec >>> (24 - 8 * i) := by
    show a.toBitVec >>> (((nI (24 - 8 * i)).toUInt32 &&& Int32.toUInt32 31).mod 32).toBitVec.toNat = _
    rw [s2]
  refine Int8.toBitVec_inj.mp ?_
  show (a >>> nI (24 - 8 * i)).toBitVec.signExtend 8 = ((jushr a (nI (24 - 8 * i))).toBitVec &&& (255 : Int32).toBitVec).signExtend 8
  rw [t1, t2]
  refine BitVec.eq_of_getLsbD_eq (fun j hj => ?_)
  have h255 : ∀ j : Nat, j < 8 → ((255 : Int32).toBitVec).getLsbD j = true := by decide
  rw [BitVec.getLsbD_signExtend, BitVec.getLsbD_signExtend, if_pos (by omega), if_pos (by omega), BitVec.getLsbD_and, h255 j hj, Bool.and_true, BitVec.getLsbD_sshiftRight, BitVec.getLsbD_ushiftRight, if_pos (by omega)]
  rw [show decide (32 ≤ j) = false from decide_eq_false (by omega)]
  rfl
theorem c_takeBytes {n : Nat} (h : rI σ 262 1 = nI n) (hn : n + 4 ≤ 300) (a : Int32) : ok (f_X11_takeBytes a σ) (fun _ τ => rI τ 262 1 = nI (n + 4) ∧ (∀ i, i < 4 → rI τ 263 (n + i) = Bt a i) ∧ Fr (fun k j => (k = 262 ∧ j = 1) ∨ (k = 263 ∧ n ≤ j ∧ j < n + 4)) σ τ) := by
  unfold f_X11_takeBytes
  refine L_X11_takeBytes_3 4 (fun k l2 τ => l2 = zi (24 - 8 * (k : Int)) ∧ rI τ 262 1 = nI (n + k) ∧ (∀ i, i < k → rI τ 263 (n + i) = Bt a i) ∧ Fr (fun k j => (k = 262 ∧ j = 1) ∨ (k = 263 ∧ n ≤ j ∧ j < n + 4)) σ τ) (by omega) (fun k q l2 τ hk hI hq => ?_) (Nat.zero_le _) ⟨rfl, h, fun i hi => by omega, Fr.refl⟩
  obtain ⟨rfl, h1, h2, h3⟩ := hI
  rw [q_s_X11_takeBytes_3]
  unfold f_X11_takeBytes_49
  have e0 : (zi (24 - 8 * (k : Int)) < 0) ↔ 24 - 8 * (k : Int) < 0 := zi_lt (b := 0) (by omega) (by omega) (by omega) (by omega)
  rw [h1, show (300 : Int32) = nI 300 from rfl]
  simp (disch := omega) only [nI_le2, nI_ix]
  by_cases c : k < 4
  · rw [if_neg (fun z => by have := e0.mp z; omega), if_neg (by omega), gd_n (by omega) (by omega)]
    refine hq (k + 1) _ _ (by omega) (by omega) ⟨?_, ?_, fun i hi => ?_, (h3.w (Or.inr ⟨rfl, by omega, by omega⟩)).w (Or.inl ⟨rfl, rfl⟩)⟩
    · rw [show (-8 : Int32) = zi (-8) from rfl, zi_add]; congr 1; omega
    · rw [rI_same, nI_1, Nat.add_assoc]
    · rw [rI_nk (by omega)]
      by_cases e : i = k
      · subst e
        rw [rI_same]
        have : zi (24 - 8 * (i : Int)) = nI (24 - 8 * i) := by rw [nI_zi]; congr 1; omega
        rw [this]
        rfl
      · rw [rI_nj (by omega)]; exact h2 i (by omega)
  · have e : k = 4 := by omega
    subst e
    rw [if_pos (e0.mpr (by omega))]
    exact ok_ret ⟨h1, h2, h3⟩
def ag (a1 a2 a3 a4 a5 : Int32) (i : Nat) : Int32 := if i < 4 then a1 else if i < 8 then a2 else if i < 12 then a3 else if i < 16 then a4 else a5
abbrev wfd (n : Nat) (k j : Nat) : Prop := (k = 262 ∧ j = 1) ∨ (k = 263 ∧ n ≤ j ∧ j < n + 20)
theorem c_feed {n : Nat} (h : rI σ 262 1 = nI n) (hn : n + 20 ≤ 300) (a1 a2 a3 a4 a5 : Int32) : ok (f_X12_feed a1 a2 a3 a4 a5 σ) (fun r τ => r = nI (n + 20) ∧ rI τ 262 1 = nI (n + 20) ∧ (∀ i, i < 20 → rI τ 263 (n + i) = Bt (ag a1 a2 a3 a4 a5 i) (i % 4)) ∧ Fr (wfd n) σ τ) := by
  unfold f_X12_feed
  rw [h, show nI n + 20 = nI (n + 20) from nI_add n 20, if_pos (show nI (n + 20) ≤ 300 from (nI_le2 (b := 300) (by omega) (by omega)).mpr hn)]
  refine ok_bd (c_takeBytes h (by omega) a1) (fun _ τ1 h1 => ?_)
  obtain ⟨b1, c1, d1⟩ := h1
  refine ok_bd (c_takeBytes b1 (by omega) a2) (fun _ τ2 h2 => ?_)
  obtain ⟨b2, c2, d2⟩ := h2
  refine ok_bd (c_takeBytes b2 (by omega) a3) (fun _ τ3 h3 => ?_)
  obtain ⟨b3, c3, d3⟩ := h3
  refine ok_bd (c_takeBytes b3 (by omega) a4) (fun _ τ4 h4 => ?_)
  obtain ⟨b4, c4, d4⟩ := h4
  refine ok_bd (c_takeBytes b4 (by omega) a5) (fun _ τ5 h5 => ?_)
  obtain ⟨b5, c5, d5⟩ := h5
  refine ok_ret ⟨b5, b5, fun i hi => ?_, ?_⟩
  · unfold ag
    by_cases g1 : i < 4
    · rw [if_pos g1, d5.I _ _ (by omega), d4.I _ _ (by omega), d3.I _ _ (by omega), d2.I _ _ (by omega), c1 i g1, show i % 4 = i by omega]
    · rw [if_neg g1]
      by_cases g2 : i < 8
      · have := c2 (i - 4) (by omega)
        rw [show n + 4 + (i - 4) = n + i by omega] at this
        rw [if_pos g2, d5.I _ _ (by omega), d4.I _ _ (by omega), d3.I _ _ (by omega), this, show i % 4 = i - 4 by omega]
      · rw [if_neg g2]
        by_cases g3 : i < 12
        · have := c3 (i - 8) (by omega)
          rw [show n + 4 + 4 + (i - 8) = n + i by omega] at this
          rw [if_pos g3, d5.I _ _ (by omega), d4.I _ _ (by omega), this, show i % 4 = i - 8 by omega]
        · rw [if_neg g3]
          by_cases g4 : i < 16
          · have := c4 (i - 12) (by omega)
            rw [show n + 4 + 4 + 4 + (i - 12) = n + i by omega] at this
            rw [if_pos g4, d5.I _ _ (by omega), this, show i % 4 = i - 12 by omega]
          · have := c5 (i - 16) (by omega)
            rw [show n + 4 + 4 + 4 + 4 + (i - 16) = n + i by omega] at this
            rw [if_neg g4, this, show i % 4 = i - 16 by omega]
  · exact ((((d1.mono (fun k j e => by omega)).trans (d2.mono (fun k j e => by omega))).trans (d3.mono (fun k j e => by omega))).trans (d4.mono (fun k j e => by omega))).trans (d5.mono (fun k j e => by omega))
abbrev wmf (n : Nat) (k j : Nat) : Prop := (k = 324 ∧ j = 16) ∨ (k = 336 ∧ n ≤ j ∧ j < n + 20)
theorem fd_sh : ∀ k : Nat, k < 20 → ((24 : Int32) - 8 * (nI k - nI k / 4 * 4)) &&& 31 = nI (24 - 8 * (k % 4)) := by decide +kernel
theorem m_feed23 {n : Nat} (h : rI σ 324 16 = nI n) (hn : n + 20 ≤ 300) (a1 a2 a3 a4 a5 : Int32) : ok (f_X13_feed_23 Fu a1 a2 a3 a4 a5 0 σ) (fun r τ => r = nI (n + 20) ∧ rI τ 324 16 = nI (n + 20) ∧ (∀ i, i < 20 → rI τ 336 (n + i) = (Bt (ag a1 a2 a3 a4 a5 i) (i % 4)).toInt8.toInt32) ∧ Fr (wmf n) σ τ) := by
  refine L_X13_feed_23 20 (fun k l6 τ => l6 = nI k ∧ rI τ 324 16 = nI (n + k) ∧ (∀ i, i < k → rI τ 336 (n + i) = (Bt (ag a1 a2 a3 a4 a5 i) (i % 4)).toInt8.toInt32) ∧ Fr (wmf n) σ τ) (by omega) (fun k q l6 τ hk hI hq => ?_) (Nat.zero_le _) ⟨rfl, h, fun i hi => by omega, Fr.refl⟩
  obtain ⟨rfl, h1, h2, h3⟩ := hI
  have go : ∀ x : Int32, k < 20 → x = ag a1 a2 a3 a4 a5 k → ok (f_X13_feed_76 q a1 a2 a3 a4 a5 (nI k) x τ) (fun r τ => r = nI (n + 20) ∧ rI τ 324 16 = nI (n + 20) ∧ (∀ i, i < 20 → rI τ 336 (n + i) = (Bt (ag a1 a2 a3 a4 a5 i) (i % 4)).toInt8.toInt32) ∧ Fr (wmf n) σ τ) := by
    intro x c e
    rw [q_X13_feed_76, h1, fd_sh k c, gd_n (by omega) (by omega), nI_ix (by omega), Bt_byte x (by omega), e]
    refine hq (k + 1) _ _ (by omega) (by omega) ⟨nI_1 k, ?_, fun i hi => ?_, (h3.w (Or.inr ⟨rfl, by omega, by omega⟩)).w (Or.inl ⟨rfl, rfl⟩)⟩
    · rw [rI_same, nI_1, Nat.add_assoc]
    · rw [rI_nk (by omega)]
      by_cases ei : i = k
      · subst ei; exact rI_same _ _ _ _
      · rw [rI_nj (by omega)]; exact h2 i (by omega)
  unfold s_X13_feed_23
  rw [show (20 : Int32) = nI 20 from rfl, li4, li8, li12, show (16 : Int32) = nI 16 from rfl]
  simp (disch := omega) only [nI_le2]
  by_cases c : k < 20
  · rw [if_neg (by omega)]
    unfold ag at go
    refine ok_ite (fun g1 => ok_ite (fun g2 => ok_ite (fun g3 => ok_ite (fun g4 => go _ c ?_) (fun g4 => go _ c ?_)) (fun g3 => go _ c ?_)) (fun g2 => go _ c ?_)) (fun g1 => go _ c ?_)
    · rw [if_neg (by omega), if_neg (by omega), if_neg (by omega), if_neg (by omega)]
    · rw [if_neg (by omega), if_neg (by omega), if_neg (by omega), if_pos (by omega)]
    · rw [if_neg (by omega), if_neg (by omega), if_pos (by omega)]
    · rw [if_neg (by omega), if_pos (by omega)]
    · rw [if_pos (by omega)]
  · have e : k = 20 := by omega
    subst e
    rw [if_pos (by omega)]
    exact ok_ret ⟨h1, h1, h2, h3⟩
theorem op_feed (h : Inv K σ) (hK : KX K) (a1 a2 a3 a4 a5 : Int32) : ∃ σ', lw_op 1 a1 a2 a3 a4 a5 σ σ' ∧ Inv K σ' := by
  obtain ⟨n, hn, e1, e2, e3⟩ := h.2.2.2.1.2.1
  show ∃ σ', (∃ (r : Int32) (σ1 : jM), f_X12_feed a1 a2 a3 a4 a5 σ = some (r, σ1) ∧ f_X13_feed a1 a2 a3 a4 a5 σ1 = some (r, σ')) ∧ Inv K σ'
  by_cases c : n + 20 ≤ 300
  · refine op_mk (c_feed e2 c a1 a2 a3 a4 a5) (fun r τ hq => ?_)
    obtain ⟨rfl, f1, f2, f3⟩ := hq
    have g1 : rI τ 324 16 = nI n := (f3.I _ _ (by omega)).trans e1
    rw [q_X13_feed, g1, show nI n + 20 = nI (n + 20) from nI_add n 20, if_pos (show nI (n + 20) ≤ 300 from (nI_le2 (b := 300) (by omega) (by omega)).mpr c)]
    refine ok_imp (m_feed23 (σ := wI τ 324 0 0) g1 c a1 a2 a3 a4 a5) (fun r τ' hh => ?_)
    obtain ⟨rfl, k1, k2, k3⟩ := hh
    refine ⟨rfl, ?_⟩
    have hF : Fr (fun k j => wfd n k j ∨ wmf n k j ∨ (k = 324 ∧ j = 0)) σ τ' := Fr.trans (Fr.w (W := fun k j => wfd n k j ∨ wmf n k j ∨ (k = 324 ∧ j = 0)) (f3.mono (fun k j z => Or.inl z)) (Or.inr (Or.inr ⟨rfl, rfl⟩))) (k3.mono (fun k j z => Or.inr (Or.inl z)))
    refine Inv_keep hK h (fun k j hp => hF.I k j (by omega)) (fun k j a b => ⟨hF.I k j (by omega), hF.L k j (by omega)⟩) (fun j => hF.I _ _ (by omega)) (hF.2.2 (by omega)) (hF.I _ _ (by omega)) ?_ (Int32.le_of_eq (hF.I _ _ (by omega)).symm)
    obtain ⟨⟨d, a1', a2', a3'⟩, -, c1, m, d1, d2, d3, d4⟩ := h.2.2.2.1
    refine ⟨⟨d, a1', (hF.I _ _ (by omega)).trans a2', (hF.I _ _ (by omega)).trans a3'⟩, ⟨n + 20, c, k1, (k3.I _ _ (by omega)).trans f1, fun j hj => ?_⟩, ?_, m, d1, (hF.I _ _ (by omega)).trans d2, (hF.I _ _ (by omega)).trans d3, fun j hj => ?_⟩
    · by_cases g : j < n
      · rw [hF.I 263 j (by omega), hF.I 336 j (by omega)]
        exact e3 j g
      · obtain ⟨b, hb, eb⟩ := Bt_E (ag a1 a2 a3 a4 a5 (j - n)) ((j - n) % 4)
        have x1 := f2 (j - n) (by omega)
        have x2 := k2 (j - n) (by omega)
        rw [show n + (j - n) = j by omega, eb] at x1 x2
        refine ⟨b, hb, ?_, x2⟩
        rw [k3.I 263 j (by omega)]
        exact x1
    · rw [hF.I 262 3 (by omega), hF.I 324 23 (by omega)]
      exact c1
    · rw [hF.I 1 j (by omega), hF.I 374 j (by omega)]
      exact d4 j hj
  · have g : ¬ nI n + 20 ≤ 300 := by
      rw [show nI n + 20 = nI (n + 20) from nI_add n 20]
      exact fun z => c ((nI_le2 (b := 300) (by omega) (by omega)).mp z)
    refine ⟨_, ⟨-1, σ, ?_, ?_⟩, Inv_thr hK h 0⟩
    · unfold f_X12_feed
      rw [e2, if_neg g]
    · rw [q_X13_feed, e1, if_neg g]
end FEED
