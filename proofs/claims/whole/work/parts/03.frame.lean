/-! THE FRAME OF THE WALK. A method is walked over PURE numbers: the cells that the law makes lie one behind another from the
    address b0 on, so a reference is the number of a cell. J b d kc ks Q pc ls st S: method b, at pc, with locals ls, stack st,
    cells S, comes to its end with Q, in any machine; d frames below it, kc cells and ks slots may be made. -/
abbrev jHS : Type := (Nat → Nat → Int32) × (Nat → Nat → Int64) × (Nat → Nat → Option Nat)
abbrev jSh : Type := (Nat → Nat × Nat) × Nat
abbrev jPS : Type := jSh × jHS
/-- b0; the classes' numbers and slots; the classes of arrays by kind; other references: Strings, the script; the Strings' bytes -/
abbrev jG : Type := Nat × va_G × (Nat → ClassId) × (Nat → Nat) × (Nat → Nat)
abbrev jMI : Type := String × MethodName × ByteArray × Nat × Option FieldType
def jad (g : jG) (q : Nat) : Nat := if q < 1000000 then g.1 + q else g.2.2.2.1 (q - 1000000)
def jtr (g : jG) : Value → Value
  | .ref q => .ref (jad g q)
  | v => v
/-- of a field: 0 a number of 32 bits, 1 of 64, 2 a reference -/
def jcode (t : FieldType) : Nat := match t with
  | .long => 1
  | .object _ => 2
  | .array _ => 2
  | _ => 0
def jty (ci : Nat) : Nat → FieldType := match ci with
  | 0 => tyX0
  | 1 => tyX1
  | 2 => tyX2
  | 3 => tyX4
  | 4 => tyX5
  | 5 => tyX6
  | 6 => tyX7
  | 7 => tyX8
  | 8 => tyX9
  | 9 => tyX10
  | 10 => tyX11
  | 11 => tyX12
  | _ => tyX13
def jnf (ci : Nat) : Nat := match ci with
  | 0 => 14
  | 1 => 8
  | 2 => 13
  | 3 => 9
  | 4 => 10
  | 5 => 5
  | 6 => 10
  | 7 => 19
  | 8 => 6
  | 9 => 5
  | 10 => 8
  | 11 => 9
  | _ => 76
def jfv (g : jG) (S : jHS) (t k j : Nat) : Value := if t = 0 then .int (S.1 k j) else if t = 1 then .long (S.2.1 k j) else va_rf ((S.2.2 k j).map (jad g))
def jar (g : jG) (S : jHS) (kd k : Nat) : (Nat → Int32) ⊕ (Nat → Int64) ⊕ (Nat → UInt32) ⊕ (Nat → UInt64) ⊕ (Nat → Option Nat) :=
  if kd = 15 then .inr (.inl (S.2.1 k)) else if kd < 17 then .inl (S.1 k) else .inr (.inr (.inr (.inr (fun j => (S.2.2 k j).map (jad g)))))
def jent (g : jG) (S : jPS) (k : Nat) : va_E :=
  if (S.1.1 k).1 < 13 then .inr ((S.1.1 k).1, (List.range (jnf (S.1.1 k).1)).map (fun j => jfv g S.2 (jcode (jty (S.1.1 k).1 j)) k j))
  else .inl (g.2.2.1 (S.1.1 k).1, (S.1.1 k).2, jar g S.2 (S.1.1 k).1 k)
def jws (g : jG) (S : jPS) : va_W := (List.range S.1.2).map (fun k => (g.1 + k, jent g S k))
theorem jws_get {g : jG} {S : jPS} {k : Nat} (h : k < S.1.2) : (jws g S)[k]? = some (g.1 + k, jent g S k) := by
  unfold jws
  rw [List.getElem?_map, List.getElem?_range h]
  rfl
theorem jws_inv {g : jG} {S : jPS} {k : Nat} {q : Nat × va_E} (h : (jws g S)[k]? = some q) : q = (g.1 + k, jent g S k) ∧ k < S.1.2 := by
  have hk : k < S.1.2 := by
    have := (List.getElem?_eq_some_iff.mp h).1
    simpa [jws] using this
  rw [jws_get hk] at h
  exact ⟨(Option.some.inj h).symm, hk⟩
theorem jws_D (g : jG) (S : jPS) : va_D (fun q => g.1 ≤ q) (jws g S) := by
  refine ⟨fun i j p q hi hj e => ?_, fun k q hk => ?_⟩
  · have h1 := (jws_inv hi).1
    have h2 := (jws_inv hj).1
    rw [h1, h2] at e
    exact Nat.add_left_cancel e
  · rw [(jws_inv hk).1]
    exact Nat.le_add_right _ _
theorem jws_set {g : jG} {S S' : jPS} {k : Nat} {e : va_E} (hn : S'.1.2 = S.1.2) (he : jent g S' k = e) (ho : ∀ j, j ≠ k → jent g S' j = jent g S j) : (jws g S).set k (g.1 + k, e) = jws g S' := by
  apply List.ext_getElem?
  intro i
  by_cases hi : i < S.1.2
  · rw [jws_get (S := S') (by rw [hn]; exact hi)]
    by_cases hk : k = i
    · subst hk
      rw [List.getElem?_set_self (by simpa [jws] using hi), he]
    · rw [List.getElem?_set_ne hk, jws_get hi, ho i (fun q => hk q.symm)]
  · rw [List.getElem?_eq_none (by simpa [jws] using hi), List.getElem?_eq_none (by simpa [jws, hn] using hi)]
def jtys (g : jG) : List (ClassId × FieldType) := [(g.2.2.1 13, .byte), (g.2.2.1 14, .int), (g.2.2.1 15, .long), (g.2.2.1 16, .boolean), (g.2.2.1 17, .object RX6), (g.2.2.1 18, .object RX7), (g.2.2.1 19, .object RX9), (g.2.2.1 20, .object RX10), (g.2.2.1 21, .array .int), (g.2.2.1 22, .array .long)]
/-- the tables' words that hold wherever a call comes to -/
def jgt : List Cond := lw_tbl.filter goodWord
theorem jgt_good (ws : List Cond) (h : ∀ w ∈ ws, w ∈ jgt) : GoodIn jgt ws := fun w hw => ⟨h w hw, good_of_word (List.mem_filter.mp (h w hw)).2⟩
theorem jmT {w : Cond} (i : Nat) (h : tables_1[i]? = some w) (hg : goodWord w = true) : w ∈ jgt := List.mem_filter.mpr ⟨List.mem_append_right _ (List.mem_of_getElem? h), hg⟩
theorem jmS {w : Cond} (i : Nat) (h : (k2_sels lw_privs)[i]? = some w) (hg : goodWord w = true) : w ∈ jgt := List.mem_filter.mpr ⟨List.mem_append_left _ (List.mem_of_getElem? h), hg⟩
