/-! NUMBERS. Every int is zi z of a whole number z; sums, differences and products of such are such without a condition; where z is within an int's bounds, orders, indices and quotients are those of z. -/
def zi (z : Int) : Int32 := Int32.ofInt z
def rg (z : Int) : Prop := -2147483648 ≤ z ∧ z < 2147483648
theorem zi_of (x : Int32) : zi x.toInt = x := Int32.ofInt_toInt x
theorem zi_rng (x : Int32) : -2147483648 ≤ x.toInt ∧ x.toInt < 2147483648 := by
  have h1 := Int32.le_toInt x
  have h2 := Int32.toInt_lt x
  omega
theorem zi_bmod {z : Int} (h1 : -2147483648 ≤ z) (h2 : z < 2147483648) : z.bmod 4294967296 = z := by
  have e : z.bmod 4294967296 = (if z % 4294967296 < 2147483648 then z % 4294967296 else z % 4294967296 - 4294967296) := rfl
  rw [e]
  split <;> omega
theorem zi_toInt {z : Int} (h1 : -2147483648 ≤ z) (h2 : z < 2147483648) : (zi z).toInt = z := by
  unfold zi
  rw [Int32.toInt_ofInt]
  exact zi_bmod h1 h2
theorem zi_add (a b : Int) : zi a + zi b = zi (a + b) := (Int32.ofInt_add a b).symm
theorem zi_sub (a b : Int) : zi a - zi b = zi (a - b) := (Int32.ofInt_sub a b).symm
theorem zi_mul (a b : Int) : zi a * zi b = zi (a * b) := (Int32.ofInt_mul a b).symm
theorem zi_neg (a : Int) : -zi a = zi (-a) := (Int32.ofInt_neg a).symm
theorem zi_nat (n : Nat) : Int32.ofNat n = zi (n : Int) := (Int32.ofInt_eq_ofNat (n := n)).symm
theorem zi_lit (n : Nat) : (OfNat.ofNat n : Int32) = zi (OfNat.ofNat n : Nat) := zi_nat n
theorem zi_lt {a b : Int} (h1 : -2147483648 ≤ a) (h2 : a < 2147483648) (h3 : -2147483648 ≤ b) (h4 : b < 2147483648) : zi a < zi b ↔ a < b := by
  rw [Int32.lt_iff_toInt_lt, zi_toInt h1 h2, zi_toInt h3 h4]
theorem zi_le {a b : Int} (h1 : -2147483648 ≤ a) (h2 : a < 2147483648) (h3 : -2147483648 ≤ b) (h4 : b < 2147483648) : zi a ≤ zi b ↔ a ≤ b := by
  rw [Int32.le_iff_toInt_le, zi_toInt h1 h2, zi_toInt h3 h4]
theorem zi_eq {a b : Int} (h1 : -2147483648 ≤ a) (h2 : a < 2147483648) (h3 : -2147483648 ≤ b) (h4 : b < 2147483648) : zi a = zi b ↔ a = b := by
  rw [← Int32.toInt_inj, zi_toInt h1 h2, zi_toInt h3 h4]
theorem zi_ix {a : Int} (h1 : 0 ≤ a) (h2 : a < 2147483648) : (zi a).toNatClampNeg = a.toNat := by
  show (zi a).toInt.toNat = _
  rw [zi_toInt (by omega) h2]
theorem zi_inb {a : Int} {n : Nat} (h1 : 0 ≤ a) (h2 : a < (n : Int)) (h3 : a < 2147483648) : inb (zi a) n := by
  refine ⟨?_, ?_⟩
  · show zi 0 ≤ zi a
    rw [zi_le (by omega) (by omega) (by omega) h3]
    exact h1
  · rw [zi_ix h1 h3]
    omega
theorem zi_div {a b : Int} (h1 : 0 ≤ a) (h2 : a < 2147483648) (h3 : 0 < b) (h4 : b < 2147483648) : zi a / zi b = zi (a / b) := by
  have hq : 0 ≤ a / b := Int.ediv_nonneg h1 (by omega)
  have hl : a / b ≤ a := Int.ediv_le_self b h1
  apply Int32.toInt_inj.mp
  rw [Int32.toInt_div, zi_toInt (by omega) h2, zi_toInt (by omega) h4, zi_toInt (by omega) (by omega), Int.tdiv_eq_ediv_of_nonneg h1]
  exact zi_bmod (by omega) (by omega)
theorem nI_zi (n : Nat) : nI n = zi (n : Int) := zi_nat n
