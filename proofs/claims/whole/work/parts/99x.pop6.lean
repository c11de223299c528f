/-! masks of names -/
section POP
variable {D : dD} {σ : jM} {v : Nat}
def p6 (a : Nat) : Nat := cnt (fun i => a.testBit i) 6
theorem p6_le : ∀ a : Nat, a < 64 → p6 a ≤ 6 := fun a _ => cnt_le _ _
theorem p6_sub : ∀ f : Nat, f < 64 → ∀ a : Nat, a < 64 → a &&& f = a → a < f → p6 a < p6 f := by decide +kernel
theorem sub_c : ∀ f : Nat, f < 64 → ∀ a : Nat, a < 64 → (((nI a) &&& ((nI f) ^^^ (-1)) = 0) ↔ a &&& f = a) := by decide +kernel
def bc1 (l0 : Int32) : Int32 := l0 - ((jushr l0 1) &&& 1431655765)
def bc2 (l0 : Int32) : Int32 := (l0 &&& 858993459) + ((jushr l0 2) &&& 858993459)
def bc3 (l0 : Int32) : Int32 := (l0 + (jushr l0 4)) &&& 252645135
def bc4 (l0 : Int32) : Int32 := l0 + (jushr l0 8)
def bc5 (l0 : Int32) : Int32 := l0 + (jushr l0 16)
theorem bc_all : ∀ a : Nat, a < 64 → (bc5 (bc4 (bc3 (bc2 (bc1 (nI a)))))) &&& 63 = nI (p6 a) := by decide +kernel
theorem c_bitCount (a : Nat) (ha : a < 64) : f_J6_bitCount_0f7a4 (nI a) σ = some (nI (p6 a), σ) := by
  rw [← bc_all a ha]
  rfl
theorem bit_set : ∀ k : Nat, k < 6 → ∀ a : Nat, a < 2 ^ k → (nI a) ||| (1 <<< ((nI k) &&& 31)) = nI (a + 2 ^ k) := by decide +kernel
end POP
