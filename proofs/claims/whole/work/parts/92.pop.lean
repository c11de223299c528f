/-! how many signs a set has -/
section POP
theorem and_256 (a c : Nat) {b d : Nat} (hb : b < 256) (hd : d < 256) : (256 * a + b) &&& (256 * c + d) = 256 * (a &&& c) + (b &&& d) := by
  have h1 := Nat.and_div_two_pow (a := 256 * a + b) (b := 256 * c + d) (n := 8)
  have h2 := Nat.and_mod_two_pow (a := 256 * a + b) (b := 256 * c + d) (n := 8)
  have e1 : (256 * a + b) / 2 ^ 8 = a := by show (256 * a + b) / 256 = a; omega
  have e2 : (256 * c + d) / 2 ^ 8 = c := by show (256 * c + d) / 256 = c; omega
  have e3 : (256 * a + b) % 2 ^ 8 = b := by show (256 * a + b) % 256 = b; omega
  have e4 : (256 * c + d) % 2 ^ 8 = d := by show (256 * c + d) % 256 = d; omega
  rw [e1, e2] at h1
  rw [e3, e4] at h2
  have h3 : ((256 * a + b) &&& (256 * c + d)) / 256 = a &&& c := h1
  have h4 : ((256 * a + b) &&& (256 * c + d)) % 256 = b &&& d := h2
  omega
def mk8 (x : Nat) : Nat → Nat := Nat.rec 0 (fun _ r => 256 * r + x)
theorem mk8_s (x n : Nat) : mk8 x (n + 1) = 256 * mk8 x n + x := rfl
def p1 (n A : Nat) : Nat := A - ((A / 2) &&& mk8 85 n)
def p2 (n B : Nat) : Nat := (B &&& mk8 51 n) + ((B / 4) &&& mk8 51 n)
def p3 (n C : Nat) : Nat := (C + C / 16) &&& mk8 15 n
def b1 (y : Nat) : Nat := y - ((y / 2) &&& 85)
def b2 (y : Nat) : Nat := (y &&& 51) + ((y / 4) &&& 51)
def p8 (y : Nat) : Nat := cnt (fun i => y.testBit i) 8
theorem b_all : ∀ y : Nat, y < 256 → b1 y < 256 ∧ ((y / 2) &&& 85) ≤ y ∧ b2 (b1 y) ≤ 68 ∧ b2 (b1 y) % 16 ≤ 4 ∧ ((b2 (b1 y) + b2 (b1 y) / 16) &&& 15) = p8 y ∧ p8 y ≤ 8 := by decide +kernel
theorem b_85 : ∀ y : Nat, y < 128 → ∀ k : Nat, k < 2 → (128 * k + y) &&& 85 = y &&& 85 := by decide +kernel
theorem b_51 : ∀ y : Nat, y < 64 → ∀ k : Nat, k < 4 → (64 * k + y) &&& 51 = y &&& 51 := by decide +kernel
theorem b_15 : ∀ y : Nat, y < 80 → ∀ k : Nat, k < 5 → (16 * k + y) &&& 15 = y &&& 15 := by decide +kernel
theorem p1_s (n A y : Nat) (hy : y < 256) (hA : ((A / 2) &&& mk8 85 n) ≤ A) : p1 (n + 1) (256 * A + y) = 256 * p1 n A + b1 y := by
  unfold p1 b1
  rw [mk8_s, show (256 * A + y) / 2 = 256 * (A / 2) + (128 * (A % 2) + y / 2) by omega, and_256 _ _ (by omega) (by omega), b_85 (y / 2) (by omega) (A % 2) (by omega)]
  have := (b_all y hy).2.1
  omega
theorem p1_le (n A : Nat) : ((A / 2) &&& mk8 85 n) ≤ A := Nat.le_trans Nat.and_le_left (Nat.div_le_self A 2)
theorem p2_s (n B b : Nat) (hb : b < 256) : p2 (n + 1) (256 * B + b) = 256 * p2 n B + b2 b := by
  unfold p2 b2
  rw [mk8_s, show (256 * B + b) / 4 = 256 * (B / 4) + (64 * (B % 4) + b / 4) by omega, and_256 _ _ hb (by omega), and_256 _ _ (by omega) (by omega), b_51 (b / 4) (by omega) (B % 4) (by omega)]
  omega
theorem p3_s (n C c : Nat) (hc : c ≤ 68) (hC : C % 16 ≤ 4) : p3 (n + 1) (256 * C + c) = 256 * p3 n C + ((c + c / 16) &&& 15) := by
  unfold p3
  rw [mk8_s, show 256 * C + c + (256 * C + c) / 16 = 256 * (C + C / 16) + (16 * (C % 16) + (c + c / 16)) by omega, and_256 _ _ (by omega) (by omega), b_15 (c + c / 16) (by omega) (C % 16) (by omega)]
theorem p2_low (n A : Nat) : p2 n (p1 n A) % 16 ≤ 4 := by
  cases n with
  | zero => show ((p1 0 A &&& 0) + ((p1 0 A / 4) &&& 0)) % 16 ≤ 4; rw [Nat.and_zero, Nat.and_zero]; decide
  | succ n =>
    have e : A = 256 * (A / 256) + A % 256 := by omega
    have hb := b_all (A % 256) (by omega)
    rw [e, p1_s n _ _ (by omega) (p1_le n _), p2_s n _ _ hb.1]
    omega
/-- by bytes -/
def pby (A : Nat) : Nat → Nat → Nat := fun n => Nat.rec (fun _ => 0) (fun _ r A => 256 * r (A / 256) + p8 (A % 256)) n
theorem pby_s (A n : Nat) (X : Nat) : pby A (n + 1) X = 256 * pby A n (X / 256) + p8 (X % 256) := rfl
theorem p123 (n A : Nat) : p3 n (p2 n (p1 n A)) = pby 0 n A := by
  induction n generalizing A with
  | zero => show (_ &&& 0) = 0; exact Nat.and_zero _
  | succ n ih =>
    have hb := b_all (A % 256) (by omega)
    rw [pby_s, ← ih (A / 256)]
    have e : A = 256 * (A / 256) + A % 256 := by omega
    rw [show p1 (n + 1) A = 256 * p1 n (A / 256) + b1 (A % 256) from by rw [← p1_s n _ _ (by omega) (p1_le n _), ← e], p2_s n _ _ hb.1, p3_s n _ _ hb.2.2.1 (p2_low n _), hb.2.2.2.2.1]
theorem cnt_shift (A m : Nat) : cnt (fun i => A.testBit i) (m + 8) = p8 (A % 256) + cnt (fun i => (A / 256).testBit i) m := by
  have hlow : cnt (fun i => A.testBit i) 8 = p8 (A % 256) := by
    unfold p8
    refine cnt_congr (fun i hi => ?_)
    show A.testBit i = (A % 2 ^ 8).testBit i
    rw [Nat.testBit_mod_two_pow, decide_eq_true hi, Bool.true_and]
  induction m with
  | zero => rw [cnt_0, Nat.add_zero]; exact hlow
  | succ m ih =>
    rw [show m + 1 + 8 = m + 8 + 1 by omega, cnt_s, ih, cnt_s, Nat.add_assoc]
    congr 3
    show (A.testBit (m + 8) = true) = ((A / 2 ^ 8).testBit m = true)
    rw [Nat.testBit_div_two_pow]
theorem pop_sum (A : Nat) : ∃ z0 z1 z2 z3 z4 z5 z6 z7 R1 R2 R3 R4 R5 R6 : Nat, (z0 ≤ 8 ∧ z1 ≤ 8 ∧ z2 ≤ 8 ∧ z3 ≤ 8 ∧ z4 ≤ 8 ∧ z5 ≤ 8 ∧ z6 ≤ 8 ∧ z7 ≤ 8) ∧ (pby 0 8 A = z0 + 256 * R1 ∧ R1 = z1 + 256 * R2 ∧ R2 = z2 + 256 * R3 ∧ R3 = z3 + 256 * R4 ∧ R4 = z4 + 256 * R5 ∧ R5 = z5 + 256 * R6 ∧ R6 = z6 + 256 * z7) ∧ cnt (fun i => A.testBit i) 64 = z0 + z1 + z2 + z3 + z4 + z5 + z6 + z7 := by
  have h8 : ∀ x : Nat, p8 x ≤ 8 := fun x => cnt_le _ _
  have hs : ∀ n X : Nat, pby 0 (n + 1) X = p8 (X % 256) + 256 * pby 0 n (X / 256) := fun n X => by rw [pby_s, Nat.add_comm]
  refine ⟨p8 (A % 256), p8 (A / 256 % 256), p8 (A / 256 / 256 % 256), p8 (A / 256 / 256 / 256 % 256), p8 (A / 256 / 256 / 256 / 256 % 256), p8 (A / 256 / 256 / 256 / 256 / 256 % 256), p8 (A / 256 / 256 / 256 / 256 / 256 / 256 % 256), p8 (A / 256 / 256 / 256 / 256 / 256 / 256 / 256 % 256), pby 0 7 (A / 256), pby 0 6 (A / 256 / 256), pby 0 5 (A / 256 / 256 / 256), pby 0 4 (A / 256 / 256 / 256 / 256), pby 0 3 (A / 256 / 256 / 256 / 256 / 256), pby 0 2 (A / 256 / 256 / 256 / 256 / 256 / 256), ⟨h8 _, h8 _, h8 _, h8 _, h8 _, h8 _, h8 _, h8 _⟩, ⟨hs _ _, hs _ _, hs _ _, hs _ _, hs _ _, hs _ _, ?_⟩, ?_⟩
  · rw [hs 1, hs 0]
    rfl
  · have c1 := cnt_shift A 56
    have c2 := cnt_shift (A / 256) 48
    have c3 := cnt_shift (A / 256 / 256) 40
    have c4 := cnt_shift (A / 256 / 256 / 256) 32
    have c5 := cnt_shift (A / 256 / 256 / 256 / 256) 24
    have c6 := cnt_shift (A / 256 / 256 / 256 / 256 / 256) 16
    have c7 := cnt_shift (A / 256 / 256 / 256 / 256 / 256 / 256) 8
    have c8 := cnt_shift (A / 256 / 256 / 256 / 256 / 256 / 256 / 256) 0
    rw [cnt_0] at c8
    rw [c1, c2, c3, c4, c5, c6, c7, c8]
    simp only [Nat.add_assoc, Nat.add_zero]
theorem dg2 {a b R S T U : Nat} (h1 : R = a + 256 * S) (h2 : T = b + 256 * U) : R + T = (a + b) + 256 * (S + U) := by omega
theorem dv2 {a R S : Nat} (h : R = a + 256 * S) (ha : a < 256) : R / 256 = S := by omega
theorem md2 {s X : Nat} (hs : s < 128) : (s + 256 * X) % 128 = s := by omega
theorem bs2 {z R S B : Nat} (h : R = z + 256 * S) (hz : z ≤ 8) (hS : S ≤ B) : R ≤ 8 + 256 * B := by omega
theorem le2 {a R S : Nat} (h : R = a + 256 * S) : S ≤ R := by omega
theorem pop_hor {z0 z1 z2 z3 z4 z5 z6 z7 R1 R2 R3 R4 R5 R6 Z : Nat} (h : z0 ≤ 8 ∧ z1 ≤ 8 ∧ z2 ≤ 8 ∧ z3 ≤ 8 ∧ z4 ≤ 8 ∧ z5 ≤ 8 ∧ z6 ≤ 8 ∧ z7 ≤ 8) (hZ : Z = z0 + 256 * R1 ∧ R1 = z1 + 256 * R2 ∧ R2 = z2 + 256 * R3 ∧ R3 = z3 + 256 * R4 ∧ R4 = z4 + 256 * R5 ∧ R5 = z5 + 256 * R6 ∧ R6 = z6 + 256 * z7) : Z ≤ 578721382704613384 ∧ (((Z + Z / 256) + (Z + Z / 256) / 65536) + ((Z + Z / 256) + (Z + Z / 256) / 65536) / 4294967296) % 128 = z0 + z1 + z2 + z3 + z4 + z5 + z6 + z7 := by
  obtain ⟨h0, h1, h2, h3, h4, h5, h6, h7⟩ := h
  obtain ⟨g0, g1, g2, g3, g4, g5, g6⟩ := hZ
  have l0 := bs2 g0 h0 (bs2 g1 h1 (bs2 g2 h2 (bs2 g3 h3 (bs2 g4 h4 (bs2 g5 h5 (bs2 g6 h6 h7))))))
  refine ⟨l0, ?_⟩
  clear l0
  have d0 := dg2 g0 g1
  have d1 := dg2 g1 g2
  have d2 := dg2 g2 g3
  have d3 := dg2 g3 g4
  have d4 := dg2 g4 g5
  have d5 := dg2 g5 g6
  have d6 : R6 + z7 = (z6 + z7) + 256 * z7 := by rw [g6, Nat.add_right_comm]
  rw [dv2 g0 (by omega)]
  have u : (Z + R1) / 65536 = R2 + R3 := by
    rw [show (65536 : Nat) = 256 * 256 from rfl, ← Nat.div_div_eq_div_mul, dv2 d0 (by omega), dv2 d1 (by omega)]
  rw [u]
  have f0 := dg2 d0 d2
  have f1 := dg2 d1 d3
  have f2 := dg2 d2 d4
  have f3 := dg2 d3 d5
  have f4 := dg2 d4 d6
  have w : ((Z + R1) + (R2 + R3)) / 4294967296 = (R4 + R5) + (R6 + z7) := by
    rw [show (4294967296 : Nat) = 256 * 256 * 256 * 256 from rfl, ← Nat.div_div_eq_div_mul, ← Nat.div_div_eq_div_mul, ← Nat.div_div_eq_div_mul, dv2 f0 (by omega), dv2 f1 (by omega), dv2 f2 (by omega), dv2 f3 (by omega)]
  rw [w, dg2 f0 f4, md2 (by omega)]
  omega
theorem tn_sub {x y : Int64} (h : y.toBitVec.toNat ≤ x.toBitVec.toNat) : (x - y).toBitVec.toNat = x.toBitVec.toNat - y.toBitVec.toNat := by
  show (x.toBitVec - y.toBitVec).toNat = _
  exact BitVec.toNat_sub_of_le h
theorem tn_add {x y : Int64} (h : x.toBitVec.toNat + y.toBitVec.toNat < 2 ^ 64) : (x + y).toBitVec.toNat = x.toBitVec.toNat + y.toBitVec.toNat := by
  show (x.toBitVec + y.toBitVec).toNat = _
  rw [BitVec.toNat_add, Nat.mod_eq_of_lt h]
theorem tn_and (x y : Int64) : (x &&& y).toBitVec.toNat = x.toBitVec.toNat &&& y.toBitVec.toNat := BitVec.toNat_and _ _
theorem tn_shr (x : Int64) {a : Nat} (h : a < 64) : (jlushr x (nI a)).toBitVec.toNat = x.toBitVec.toNat / 2 ^ a := by
  rw [ju_bv x h, BitVec.toNat_ushiftRight, Nat.shiftRight_eq_div_pow]
theorem bq1 (x : Int64) : (x - (jlushr x 1 &&& 6148914691236517205)).toBitVec.toNat = p1 8 x.toBitVec.toNat := by
  have m85 : (6148914691236517205 : Int64).toBitVec.toNat = mk8 85 8 := by decide +kernel
  have e1 : (jlushr x 1 &&& 6148914691236517205).toBitVec.toNat = (x.toBitVec.toNat / 2) &&& mk8 85 8 := by
    rw [tn_and, show jlushr x 1 = jlushr x (nI 1) from rfl, tn_shr x (by omega), m85]
  rw [tn_sub (by rw [e1]; exact p1_le 8 _), e1]
  rfl
theorem bq2 (B : Int64) : ((B &&& 3689348814741910323) + (jlushr B 2 &&& 3689348814741910323)).toBitVec.toNat = p2 8 B.toBitVec.toNat ∧ p2 8 B.toBitVec.toNat ≤ 7378697629483820646 := by
  have n51 : (3689348814741910323 : Int64).toBitVec.toNat = mk8 51 8 := by decide +kernel
  have m51 : mk8 51 8 = 3689348814741910323 := by decide +kernel
  have e1 : (B &&& 3689348814741910323).toBitVec.toNat = B.toBitVec.toNat &&& mk8 51 8 := by rw [tn_and, n51]
  have e2 : (jlushr B 2 &&& 3689348814741910323).toBitVec.toNat = (B.toBitVec.toNat / 4) &&& mk8 51 8 := by
    rw [tn_and, show jlushr B 2 = jlushr B (nI 2) from rfl, tn_shr B (by omega), n51]
  have l1 : B.toBitVec.toNat &&& mk8 51 8 ≤ mk8 51 8 := Nat.and_le_right
  have l2 : (B.toBitVec.toNat / 4) &&& mk8 51 8 ≤ mk8 51 8 := Nat.and_le_right
  have l3 : (B.toBitVec.toNat &&& mk8 51 8) + ((B.toBitVec.toNat / 4) &&& mk8 51 8) ≤ 7378697629483820646 := by
    rw [m51] at l1 l2 ⊢
    exact Nat.le_trans (Nat.add_le_add l1 l2) (by decide)
  refine ⟨?_, l3⟩
  rw [tn_add (by rw [e1, e2]; exact Nat.lt_of_le_of_lt l3 (by decide)), e1, e2]
  rfl
theorem bq3 (C : Int64) (h : C.toBitVec.toNat ≤ 7378697629483820646) : ((C + jlushr C 4) &&& 1085102592571150095).toBitVec.toNat = p3 8 C.toBitVec.toNat := by
  have n15 : (1085102592571150095 : Int64).toBitVec.toNat = mk8 15 8 := by decide +kernel
  have e1 : (jlushr C 4).toBitVec.toNat = C.toBitVec.toNat / 16 := by rw [show jlushr C 4 = jlushr C (nI 4) from rfl, tn_shr C (by omega)]
  rw [tn_and, tn_add (by rw [e1]; omega), e1, n15]
  rfl
theorem bq4 (E : Int64) {a w : Nat} (ha : a < 64) (hw : 2 ^ a = w) (h1 : 1 ≤ w) (h : E.toBitVec.toNat < 9223372036854775808) : (E + jlushr E (nI a)).toBitVec.toNat = E.toBitVec.toNat + E.toBitVec.toNat / w := by
  have e1 : (jlushr E (nI a)).toBitVec.toNat = E.toBitVec.toNat / w := by rw [tn_shr E ha, hw]
  have l : E.toBitVec.toNat / w ≤ E.toBitVec.toNat := Nat.div_le_self _ _
  rw [tn_add (by rw [e1]; omega), e1]
theorem bcx_eq (x : Int64) : bcx x = nI (cnt (fun i => bt x i) 64) := by
  have hcnt : cnt (fun i => bt x i) 64 = cnt (fun i => x.toBitVec.toNat.testBit i) 64 := rfl
  rw [hcnt]
  obtain ⟨z0, z1, z2, z3, z4, z5, z6, z7, R1, R2, R3, R4, R5, R6, hz, hZ, hS⟩ := pop_sum x.toBitVec.toNat
  rw [hS]
  obtain ⟨q1, q4⟩ := pop_hor hz hZ
  clear hz hZ hS hcnt
  have hZ' := p123 8 x.toBitVec.toNat
  have tB := bq1 x
  unfold bcx
  generalize x - (jlushr x 1 &&& 6148914691236517205) = B at *
  obtain ⟨tC, lC⟩ := bq2 B
  rw [tB] at tC lC
  show Int64.toInt32 _ &&& 127 = _
  generalize (B &&& 3689348814741910323) + (jlushr B 2 &&& 3689348814741910323) = C at *
  have tE := bq3 C (by rw [tC]; exact lC)
  rw [tC, hZ'] at tE
  clear lC tC tB hZ'
  generalize (C + jlushr C 4) &&& 1085102592571150095 = E at *
  generalize pby 0 8 x.toBitVec.toNat = Z at *
  have tF := bq4 E (a := 8) (w := 256) (by omega) (by decide) (by decide) (by rw [tE]; exact Nat.lt_of_le_of_lt q1 (by decide))
  rw [show nI 8 = (8 : Int32) from rfl, tE] at tF
  have lF : Z + Z / 256 ≤ 1157442765409226768 := Nat.le_trans (Nat.add_le_add q1 (Nat.le_trans (Nat.div_le_self _ _) q1)) (by decide)
  generalize E + jlushr E 8 = F at *
  generalize Z + Z / 256 = Y at *
  have tG := bq4 F (a := 16) (w := 65536) (by omega) (by decide) (by decide) (by rw [tF]; exact Nat.lt_of_le_of_lt lF (by decide))
  rw [show nI 16 = (16 : Int32) from rfl, tF] at tG
  have lG : Y + Y / 65536 ≤ 2314885530818453536 := Nat.le_trans (Nat.add_le_add lF (Nat.le_trans (Nat.div_le_self _ _) lF)) (by decide)
  generalize F + jlushr F 16 = G at *
  generalize Y + Y / 65536 = X at *
  have tH := bq4 G (a := 32) (w := 4294967296) (by omega) (by decide) (by decide) (by rw [tG]; exact Nat.lt_of_le_of_lt lG (by decide))
  rw [show nI 32 = (32 : Int32) from rfl, tG] at tH
  generalize G + jlushr G 32 = H at *
  rw [pk_and (m := 127) (Int64.toInt32 H) 7 (by decide)]
  congr 1
  have e32 : (Int64.toInt32 H).toBitVec.toNat = H.toBitVec.toNat % 4294967296 := by
    show (H.toBitVec.signExtend 32).toNat = _
    rw [BitVec.signExtend_eq_setWidth_of_le _ (by omega), BitVec.toNat_setWidth]
  rw [e32, tH, ← q4]
  exact Nat.mod_mod_of_dvd _ (by decide)
end POP
