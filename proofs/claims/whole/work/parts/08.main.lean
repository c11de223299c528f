/-! THE CELLS THAT STAND ONCE BOTH OBJECTS ARE MADE: which cell is what, what refers to what; only numbers change, and which rules are current. -/
def shL : List (Nat × Nat) := [(11, 0), (14, 12), (14, 8), (0, 0), (20, 24), (18, 10), (19, 60), (17, 6), (4, 0), (14, 4), (14, 200), (14, 200), (14, 200), (14, 200), (14, 200), (14, 780), (14, 780), (15, 40), (14, 40), (6, 0), (14, 12), (14, 12), (14, 12), (14, 12), (14, 12), (14, 12), (14, 8), (14, 8), (9, 0), (14, 8), (14, 48), (9, 0), (14, 8), (14, 48), (9, 0), (14, 8), (14, 48), (9, 0), (14, 8), (14, 48), (9, 0), (14, 8), (14, 48), (9, 0), (14, 8), (14, 48), (9, 0), (14, 8), (14, 48), (9, 0), (14, 8), (14, 48), (9, 0), (14, 8), (14, 48), (9, 0), (14, 8), (14, 48), (9, 0), (14, 8), (14, 48), (9, 0), (14, 8), (14, 48), (9, 0), (14, 8), (14, 48), (9, 0), (14, 8), (14, 48), (9, 0), (14, 8), (14, 48), (9, 0), (14, 8), (14, 48), (9, 0), (14, 8), (14, 48), (9, 0), (14, 8), (14, 48), (9, 0), (14, 8), (14, 48), (9, 0), (14, 8), (14, 48), (9, 0), (14, 8), (14, 48), (9, 0), (14, 8), (14, 48), (9, 0), (14, 8), (14, 48), (9, 0), (14, 8), (14, 48), (6, 0), (14, 12), (14, 12), (14, 12), (14, 12), (14, 12), (14, 12), (14, 8), (14, 8), (6, 0), (14, 12), (14, 12), (14, 12), (14, 12), (14, 12), (14, 12), (14, 8), (14, 8), (6, 0), (14, 12), (14, 12), (14, 12), (14, 12), (14, 12), (14, 12), (14, 8), (14, 8), (6, 0), (14, 12), (14, 12), (14, 12), (14, 12), (14, 12), (14, 12), (14, 8), (14, 8), (6, 0), (14, 12), (14, 12), (14, 12), (14, 12), (14, 12), (14, 12), (14, 8), (14, 8), (6, 0), (14, 12), (14, 12), (14, 12), (14, 12), (14, 12), (14, 12), (14, 8), (14, 8), (6, 0), (14, 12), (14, 12), (14, 12), (14, 12), (14, 12), (14, 12), (14, 8), (14, 8), (6, 0), (14, 12), (14, 12), (14, 12), (14, 12), (14, 12), (14, 12), (14, 8), (14, 8), (6, 0), (14, 12), (14, 12), (14, 12), (14, 12), (14, 12), (14, 12), (14, 8), (14, 8), (6, 0), (14, 12), (14, 12), (14, 12), (14, 12), (14, 12), (14, 12), (14, 8), (14, 8), (8, 0), (8, 0), (8, 0), (8, 0), (8, 0), (8, 0), (8, 0), (8, 0), (8, 0), (8, 0), (8, 0), (8, 0), (8, 0), (8, 0), (8, 0), (8, 0), (8, 0), (8, 0), (8, 0), (8, 0), (8, 0), (8, 0), (8, 0), (8, 0), (8, 0), (8, 0), (8, 0), (8, 0), (8, 0), (8, 0), (8, 0), (8, 0), (8, 0), (8, 0), (8, 0), (8, 0), (8, 0), (8, 0), (8, 0), (8, 0), (8, 0), (8, 0), (8, 0), (8, 0), (8, 0), (8, 0), (8, 0), (8, 0), (8, 0), (8, 0), (8, 0), (8, 0), (8, 0), (8, 0), (8, 0), (8, 0), (8, 0), (8, 0), (8, 0), (8, 0), (5, 0), (14, 8), (5, 0), (14, 8), (5, 0), (14, 8), (5, 0), (14, 8), (5, 0), (14, 8), (5, 0), (14, 8), (10, 0), (14, 300), (3, 0), (21, 12), (14, 780), (14, 780), (14, 780), (14, 780), (14, 780), (14, 780), (14, 780), (14, 780), (14, 780), (14, 780), (14, 780), (14, 780), (22, 2), (15, 40), (15, 40), (22, 2), (15, 40), (15, 40), (22, 2), (15, 40), (15, 40), (15, 192), (14, 192), (2, 0), (14, 80), (14, 80), (14, 80), (21, 2), (14, 40), (14, 40), (7, 0), (14, 5400), (14, 40), (14, 7), (14, 7), (14, 7), (21, 7), (14, 8), (14, 8), (14, 8), (14, 8), (14, 8), (14, 8), (14, 8), (14, 7), (21, 7), (14, 6), (14, 6), (14, 6), (14, 6), (14, 6), (14, 6), (14, 6), (14, 7), (15, 27), (15, 5), (1, 0), (14, 200), (12, 0), (14, 24), (14, 24), (14, 25), (14, 200), (14, 1200), (14, 10), (14, 11), (14, 132), (14, 132), (14, 132), (14, 132), (13, 300), (14, 4), (14, 200), (14, 200), (14, 200), (14, 200), (14, 200), (14, 40), (14, 60), (14, 60), (14, 60), (16, 60), (14, 60), (14, 60), (14, 192), (14, 1152), (16, 3200), (16, 3200), (14, 80), (14, 1600), (14, 40), (14, 3200), (14, 240), (14, 7), (14, 56), (14, 7), (14, 6), (14, 6), (14, 56), (14, 7), (14, 8), (14, 7), (14, 7), (14, 320), (14, 7), (14, 40), (14, 5440), (16, 192), (14, 12), (15, 1)]
def shf (k : Nat) : Nat × Nat := shL.getD k (99, 0)
def sh0 : jSh := (shf, 376)
def grT : List (List (Option Nat)) := [[some 3, some 262, some 264, some 289, some 296, some 322, some 1, none, some 2], [], [], [none, some 4, none, some 5, none, some 6, none, some 7, none, some 8, none, some 18, some 19, some 19], [some 28, some 31, some 34, some 37, some 40, some 43, some 46, some 49, some 52, some 55, some 58, some 61, some 64, some 67, some 70, some 73, some 76, some 79, some 82, some 85, some 88, some 91, some 94, some 97], [some 100, some 109, some 118, some 127, some 136, some 145, some 154, some 163, some 172, some 181], [some 190, some 191, some 192, some 193, some 194, some 195, some 196, some 197, some 198, some 199, some 200, some 201, some 202, some 203, some 204, some 205, some 206, some 207, some 208, some 209, some 210, some 211, some 212, some 213, some 214, some 215, some 216, some 217, some 218, some 219, some 220, some 221, some 222, some 223, some 224, some 225, some 226, some 227, some 228, some 229, some 230, some 231, some 232, some 233, some 234, some 235, some 236, some 237, some 238, some 239, some 240, some 241, some 242, some 243, some 244, some 245, some 246, some 247, some 248, some 249], [some 250, some 252, some 254, some 256, some 258, some 260], [some 9, none, some 10, some 11, some 12, some 13, some 14, some 15, some 16, some 17], [], [], [], [], [], [], [], [], [], [], [none, none, some 20, some 21, some 22, some 23, some 24, some 25, some 26, some 27], [], [], [], [], [], [], [], [], [none, none, none, some 29, some 30], [], [], [none, none, none, some 32, some 33], [], [], [none, none, none, some 35, some 36], [], [], [none, none, none, some 38, some 39], [], [], [none, none, none, some 41, some 42], [], [], [none, none, none, some 44, some 45], [], [], [none, none, none, some 47, some 48], [], [], [none, none, none, some 50, some 51], [], [], [none, none, none, some 53, some 54], [], [], [none, none, none, some 56, some 57], [], [], [none, none, none, some 59, some 60], [], [], [none, none, none, some 62, some 63], [], [], [none, none, none, some 65, some 66], [], [], [none, none, none, some 68, some 69], [], [], [none, none, none, some 71, some 72], [], [], [none, none, none, some 74, some 75], [], [], [none, none, none, some 77, some 78], [], [], [none, none, none, some 80, some 81], [], [], [none, none, none, some 83, some 84], [], [], [none, none, none, some 86, some 87], [], [], [none, none, none, some 89, some 90], [], [], [none, none, none, some 92, some 93], [], [], [none, none, none, some 95, some 96], [], [], [none, none, none, some 98, some 99], [], [], [none, none, some 101, some 102, some 103, some 104, some 105, some 106, some 107, some 108], [], [], [], [], [], [], [], [], [none, none, some 110, some 111, some 112, some 113, some 114, some 115, some 116, some 117], [], [], [], [], [], [], [], [], [none, none, some 119, some 120, some 121, some 122, some 123, some 124, some 125, some 126], [], [], [], [], [], [], [], [], [none, none, some 128, some 129, some 130, some 131, some 132, some 133, some 134, some 135], [], [], [], [], [], [], [], [], [none, none, some 137, some 138, some 139, some 140, some 141, some 142, some 143, some 144], [], [], [], [], [], [], [], [], [none, none, some 146, some 147, some 148, some 149, some 150, some 151, some 152, some 153], [], [], [], [], [], [], [], [], [none, none, some 155, some 156, some 157, some 158, some 159, some 160, some 161, some 162], [], [], [], [], [], [], [], [], [none, none, some 164, some 165, some 166, some 167, some 168, some 169, some 170, some 171], [], [], [], [], [], [], [], [], [none, none, some 173, some 174, some 175, some 176, some 177, some 178, some 179, some 180], [], [], [], [], [], [], [], [], [none, none, some 182, some 183, some 184, some 185, some 186, some 187, some 188, some 189], [], [], [], [], [], [], [], [], [], [], [], [], [], [], [], [], [], [], [], [], [], [], [], [], [], [], [], [], [], [], [], [], [], [], [], [], [], [], [], [], [], [], [], [], [], [], [], [], [], [], [], [], [], [], [], [], [], [], [], [], [], [], [], [], [], [], [], [], [none, none, some 251], [], [none, none, some 253], [], [none, none, some 255], [], [none, none, some 257], [], [none, none, some 259], [], [none, none, some 261], [], [some 263], [], [none, some 265, some 278, some 281, some 284, some 3, some 287, some 288], [some 266, some 267, some 268, some 269, some 270, some 271, some 272, some 273, some 274, some 275, some 276, some 277], [], [], [], [], [], [], [], [], [], [], [], [], [some 279, some 280], [], [], [some 282, some 283], [], [], [some 285, some 286], [], [], [], [], [none, none, none, none, none, none, some 290, some 291, some 292, some 264, none, none, some 293], [], [], [], [some 294, some 295], [], [], [some 297, none, some 298, some 3, some 264, none, some 299, some 300, some 301, some 302, some 310, some 311, some 319, none, some 320, some 321], [], [], [], [], [], [some 303, some 304, some 305, some 306, some 307, some 308, some 309], [], [], [], [], [], [], [], [], [some 312, some 313, some 314, some 315, some 316, some 317, some 318], [], [], [], [], [], [], [], [], [], [], [none, none, some 323, some 3, some 296], [], [none, none, none, some 325, some 326, some 327, some 328, some 329, none, some 330, some 331, some 332, some 333, some 334, some 335, some 336, none, none, none, none, none, none, none, none, some 337, none, some 338, some 339, some 340, some 341, some 342, some 343, none, some 344, some 345, some 346, some 347, some 348, some 349, none, some 350, some 351, some 352, some 353, some 354, some 355, some 356, none, none, none, none, none, some 357, none, some 358, none, some 359, some 360, some 361, some 362, some 363, some 364, some 365, some 366, none, some 367, some 368, some 369, none, none, some 370, some 371, some 372, some 373, some 374], [], [], [], [], [], [], [], [], [], [], [], [], [], [], [], [], [], [], [], [], [], [], [], [], [], [], [], [], [], [], [], [], [], [], [], [], [], [], [], [], [], [], [], [], [], [], [], [], [], [], []]
def tabX (t : Nat) : Nat := 28 + 3 * t
def rulX (t : Nat) : Nat := if t < 10 then 100 + 9 * t else 19
def shaX (t : Nat) : Nat := 190 + t
def namX (t : Nat) : Nat := 250 + 2 * t
def gr (c k j : Nat) : Option Nat := if k = 3 ∧ j = 12 then some (rulX c) else (grT.getD k []).getD j none
abbrev jM : Type := (Nat → Nat → Int32) × (Nat → Nat → Int64) × Nat
def ms (σ : jM) : jPS := (sh0, (σ.1, σ.2.1, gr σ.2.2))
def rI (σ : jM) (k j : Nat) : Int32 := σ.1 k j
def rL (σ : jM) (k j : Nat) : Int64 := σ.2.1 k j
def wI (σ : jM) (k j : Nat) (x : Int32) : jM := (jup σ.1 k j x, σ.2)
def wL (σ : jM) (k j : Nat) (x : Int64) : jM := (σ.1, jup σ.2.1 k j x, σ.2.2)
def wC (σ : jM) (c : Nat) : jM := (σ.1, σ.2.1, c)
def Fu : Nat := 1000000000
abbrev inb (i : Int32) (n : Nat) : Prop := 0 ≤ i ∧ i.toNatClampNeg < n
theorem inb_vp {i : Int32} {n : Nat} (h : inb i n) : vp_in i n := fun q => q.elim (fun z => absurd h.1 (Int32.not_le.mpr z)) (fun z => absurd h.2 (Nat.not_lt.mpr z))
def gd {α : Type} (c : Prop) [Decidable c] (x : Option α) : Option α := if c then x else none
theorem gd_inv {α : Type} {c : Prop} [Decidable c] {x : Option α} {r : α} (h : gd c x = some r) : c ∧ x = some r := by
  unfold gd at h
  by_cases hc : c
  · rw [if_pos hc] at h
    exact ⟨hc, h⟩
  · rw [if_neg hc] at h
    cases h
theorem gd_pos {α : Type} {c : Prop} [Decidable c] {x : Option α} (h : c) : gd c x = x := if_pos h
def bd {α β : Type} (x : Option (α × jM)) (k : α → jM → Option β) : Option β := match x with
  | none => none
  | some q => k q.1 q.2
theorem bd_inv {α β : Type} {x : Option (α × jM)} {k : α → jM → Option β} {r : β} (h : bd x k = some r) : ∃ (a : α) (σ : jM), x = some (a, σ) ∧ k a σ = some r := by
  cases x with
  | none => cases h
  | some q => exact ⟨q.1, q.2, rfl, h⟩
theorem bd_some {α β : Type} {a : α} {σ : jM} {k : α → jM → Option β} : bd (some (a, σ)) k = k a σ := rfl
def jrv (r : Option Nat) : Value := match r with
  | none => .null
  | some q => .ref q
def jqI (r : Int32 × jM) : Option Value → jPS → Prop := fun v S => v = some (.int r.1) ∧ S = ms r.2
def jqL (r : Int64 × jM) : Option Value → jPS → Prop := fun v S => v = some (.long r.1) ∧ S = ms r.2
def jqV (r : Unit × jM) : Option Value → jPS → Prop := fun v S => v = none ∧ S = ms r.2
def jqR (r : Option Nat × jM) : Option Value → jPS → Prop := fun v S => v = some (jrv r.1) ∧ S = ms r.2
theorem jqI_mk {r : Int32 × jM} {v : Int32} {σ : jM} (h : some (v, σ) = some r) : jqI r (some (.int v)) (ms σ) := by cases h; exact ⟨rfl, rfl⟩
theorem jqL_mk {r : Int64 × jM} {v : Int64} {σ : jM} (h : some (v, σ) = some r) : jqL r (some (.long v)) (ms σ) := by cases h; exact ⟨rfl, rfl⟩
theorem jqV_mk {r : Unit × jM} {σ : jM} (h : some ((), σ) = some r) : jqV r none (ms σ) := by cases h; exact ⟨rfl, rfl⟩
theorem jqR_mk {r : Option Nat × jM} {q : Nat} {σ : jM} (h : some (some q, σ) = some r) : jqR r (some (.ref q)) (ms σ) := by cases h; exact ⟨rfl, rfl⟩
theorem jqN_mk {r : Option Nat × jM} {σ : jM} (h : some (none, σ) = some r) : jqR r (some .null) (ms σ) := by cases h; exact ⟨rfl, rfl⟩
theorem gr_cur (c c' : Nat) : jup (gr c) 3 12 (some (rulX c')) = gr c' := by
  funext a b
  unfold jup gr
  by_cases h : a = 3 ∧ b = 12
  · rw [if_pos h, if_pos h]
  · rw [if_neg h, if_neg h, if_neg h]

theorem shf_off : shf 1000000 = (99, 0) := by decide +kernel
theorem ms_off (σ : jM) : (ms σ).1.1 1000000 = (99, 0) := shf_off
theorem M_getI {b : jMI} {d : Nat} {Q : Option Value → jPS → Prop} {pc : Nat} {ls : List (Nat × Value)} {st : List Value} {σ : jM} {idx ci j k : Nat} (hF : jGF b.1 idx ci j 0) (hdg : decode b.2.2.1 pc = .ok (.getfield idx, 3)) (hk : (shf k).1 = ci) (hn : k < 376) (K : J b d 0 0 Q (pc + 3) ls (.int (rI σ k j) :: st) (ms σ)) : J b d 0 0 Q pc ls (.ref k :: st) (ms σ) := J_getI (S := ms σ) hF hdg hk hn K
theorem M_getL {b : jMI} {d : Nat} {Q : Option Value → jPS → Prop} {pc : Nat} {ls : List (Nat × Value)} {st : List Value} {σ : jM} {idx ci j k : Nat} (hF : jGF b.1 idx ci j 1) (hdg : decode b.2.2.1 pc = .ok (.getfield idx, 3)) (hk : (shf k).1 = ci) (hn : k < 376) (K : J b d 0 0 Q (pc + 3) ls (.long (rL σ k j) :: st) (ms σ)) : J b d 0 0 Q pc ls (.ref k :: st) (ms σ) := J_getL (S := ms σ) hF hdg hk hn K
theorem M_getR {b : jMI} {d : Nat} {Q : Option Value → jPS → Prop} {pc : Nat} {ls : List (Nat × Value)} {st : List Value} {σ : jM} {idx ci j k q : Nat} (hF : jGF b.1 idx ci j 2) (hdg : decode b.2.2.1 pc = .ok (.getfield idx, 3)) (hq : gr σ.2.2 k j = some q) (hk : (shf k).1 = ci) (hn : k < 376) (K : J b d 0 0 Q (pc + 3) ls (.ref q :: st) (ms σ)) : J b d 0 0 Q pc ls (.ref k :: st) (ms σ) := J_getR (S := ms σ) hq hF hdg hk hn K
theorem M_putI {b : jMI} {d : Nat} {Q : Option Value → jPS → Prop} {pc : Nat} {ls : List (Nat × Value)} {st : List Value} {σ : jM} {idx ci j k : Nat} {x : Int32} (hF : jPF b.1 idx ci j 0 false) (hdg : decode b.2.2.1 pc = .ok (.putfield idx, 3)) (hk : (shf k).1 = ci) (hn : k < 376) (hx : narrow (jty ci j) (.int x) = .int x ∧ fits (jty ci j) (.int x) = true) (K : J b d 0 0 Q (pc + 3) ls st (ms (wI σ k j x))) : J b d 0 0 Q pc ls (.int x :: .ref k :: st) (ms σ) := J_putI (S := ms σ) (ms_off σ) hF hdg hk hn hx K
theorem M_putL {b : jMI} {d : Nat} {Q : Option Value → jPS → Prop} {pc : Nat} {ls : List (Nat × Value)} {st : List Value} {σ : jM} {idx ci j k : Nat} {x : Int64} (hF : jPF b.1 idx ci j 1 false) (hdg : decode b.2.2.1 pc = .ok (.putfield idx, 3)) (hk : (shf k).1 = ci) (hn : k < 376) (K : J b d 0 0 Q (pc + 3) ls st (ms (wL σ k j x))) : J b d 0 0 Q pc ls (.long x :: .ref k :: st) (ms σ) := J_putL (S := ms σ) (ms_off σ) hF hdg hk hn K
theorem M_putC {b : jMI} {d : Nat} {Q : Option Value → jPS → Prop} {pc : Nat} {ls : List (Nat × Value)} {st : List Value} {σ : jM} {idx c : Nat} (hF : jPF b.1 idx 0 12 2 false) (hdg : decode b.2.2.1 pc = .ok (.putfield idx, 3)) (K : J b d 0 0 Q (pc + 3) ls st (ms (wC σ c))) : J b d 0 0 Q pc ls (.ref (rulX c) :: .ref 3 :: st) (ms σ) := by
  refine J_putR (S := ms σ) (ms_off σ) hF hdg rfl (show 3 < 376 by decide) ?_
  have e : jwR (ms σ) 3 12 (some (rulX c)) = ms (wC σ c) := by
    show (sh0, (σ.1, σ.2.1, jup (gr σ.2.2) 3 12 (some (rulX c)))) = (sh0, (σ.1, σ.2.1, gr c))
    rw [gr_cur]
  rw [e]
  exact K
theorem M_iald {b : jMI} {d : Nat} {Q : Option Value → jPS → Prop} {pc : Nat} {ls : List (Nat × Value)} {st : List Value} {σ : jM} {k n : Nat} {i : Int32} (hdg : decode b.2.2.1 pc = .ok (.iaload, 1)) (hk : shf k = (14, n)) (hn : k < 376) (hin : inb i n) (K : J b d 0 0 Q (pc + 1) ls (.int (rI σ k i.toNatClampNeg) :: st) (ms σ)) : J b d 0 0 Q pc ls (.int i :: .ref k :: st) (ms σ) := J_iald (S := ms σ) hdg hk hn (inb_vp hin) K
theorem M_bald {b : jMI} {d : Nat} {Q : Option Value → jPS → Prop} {pc : Nat} {ls : List (Nat × Value)} {st : List Value} {σ : jM} {k n : Nat} {i : Int32} (hdg : decode b.2.2.1 pc = .ok (.baload, 1)) (hk : shf k = (13, n)) (hn : k < 376) (hin : inb i n) (K : J b d 0 0 Q (pc + 1) ls (.int (rI σ k i.toNatClampNeg) :: st) (ms σ)) : J b d 0 0 Q pc ls (.int i :: .ref k :: st) (ms σ) := J_bald (S := ms σ) hdg hk hn (inb_vp hin) K
theorem M_zald {b : jMI} {d : Nat} {Q : Option Value → jPS → Prop} {pc : Nat} {ls : List (Nat × Value)} {st : List Value} {σ : jM} {k n : Nat} {i : Int32} (hdg : decode b.2.2.1 pc = .ok (.baload, 1)) (hk : shf k = (16, n)) (hn : k < 376) (hin : inb i n) (K : J b d 0 0 Q (pc + 1) ls (.int (rI σ k i.toNatClampNeg) :: st) (ms σ)) : J b d 0 0 Q pc ls (.int i :: .ref k :: st) (ms σ) := J_zald (S := ms σ) hdg hk hn (inb_vp hin) K
theorem M_lald {b : jMI} {d : Nat} {Q : Option Value → jPS → Prop} {pc : Nat} {ls : List (Nat × Value)} {st : List Value} {σ : jM} {k n : Nat} {i : Int32} (hdg : decode b.2.2.1 pc = .ok (.laload, 1)) (hk : shf k = (15, n)) (hn : k < 376) (hin : inb i n) (K : J b d 0 0 Q (pc + 1) ls (.long (rL σ k i.toNatClampNeg) :: st) (ms σ)) : J b d 0 0 Q pc ls (.int i :: .ref k :: st) (ms σ) := J_lald (S := ms σ) hdg hk hn (inb_vp hin) K
theorem M_aald {b : jMI} {d : Nat} {Q : Option Value → jPS → Prop} {pc : Nat} {ls : List (Nat × Value)} {st : List Value} {σ : jM} {k n kd q : Nat} {i : Int32} (hdg : decode b.2.2.1 pc = .ok (.aaload, 1)) (hk : shf k = (kd, n)) (hkd : 17 ≤ kd ∧ kd ≤ 22) (hn : k < 376) (hin : inb i n) (hq : gr σ.2.2 k i.toNatClampNeg = some q) (K : J b d 0 0 Q (pc + 1) ls (.ref q :: st) (ms σ)) : J b d 0 0 Q pc ls (.int i :: .ref k :: st) (ms σ) := J_aald (S := ms σ) hdg hk hkd hn (inb_vp hin) hq K
theorem M_alen {b : jMI} {d : Nat} {Q : Option Value → jPS → Prop} {pc : Nat} {ls : List (Nat × Value)} {st : List Value} {σ : jM} {k n kd : Nat} (hdg : decode b.2.2.1 pc = .ok (.arraylength, 1)) (hk : shf k = (kd, n)) (hkd : 13 ≤ kd ∧ kd ≤ 22) (hn : k < 376) (K : J b d 0 0 Q (pc + 1) ls (.int (Int32.ofNat n) :: st) (ms σ)) : J b d 0 0 Q pc ls (.ref k :: st) (ms σ) := J_alen (S := ms σ) hdg hk hkd hn K
theorem M_iast {b : jMI} {d : Nat} {Q : Option Value → jPS → Prop} {pc : Nat} {ls : List (Nat × Value)} {st : List Value} {σ : jM} {k n : Nat} {i x : Int32} (hdg : decode b.2.2.1 pc = .ok (.iastore, 1)) (hk : shf k = (14, n)) (hn : k < 376) (hin : inb i n) (K : J b d 0 0 Q (pc + 1) ls st (ms (wI σ k i.toNatClampNeg x))) : J b d 0 0 Q pc ls (.int x :: .int i :: .ref k :: st) (ms σ) := J_iast (S := ms σ) (ms_off σ) hdg hk hn (inb_vp hin) K
theorem M_bast {b : jMI} {d : Nat} {Q : Option Value → jPS → Prop} {pc : Nat} {ls : List (Nat × Value)} {st : List Value} {σ : jM} {k n : Nat} {i x : Int32} (hdg : decode b.2.2.1 pc = .ok (.bastore, 1)) (hk : shf k = (13, n)) (hn : k < 376) (hin : inb i n) (K : J b d 0 0 Q (pc + 1) ls st (ms (wI σ k i.toNatClampNeg (vp_nar .byte x)))) : J b d 0 0 Q pc ls (.int x :: .int i :: .ref k :: st) (ms σ) := J_bast (S := ms σ) (ms_off σ) hdg hk hn (inb_vp hin) K
theorem M_zast {b : jMI} {d : Nat} {Q : Option Value → jPS → Prop} {pc : Nat} {ls : List (Nat × Value)} {st : List Value} {σ : jM} {k n : Nat} {i x : Int32} (hdg : decode b.2.2.1 pc = .ok (.bastore, 1)) (hk : shf k = (16, n)) (hn : k < 376) (hin : inb i n) (K : J b d 0 0 Q (pc + 1) ls st (ms (wI σ k i.toNatClampNeg (vp_nar .boolean x)))) : J b d 0 0 Q pc ls (.int x :: .int i :: .ref k :: st) (ms σ) := J_zast (S := ms σ) (ms_off σ) hdg hk hn (inb_vp hin) K
theorem M_last {b : jMI} {d : Nat} {Q : Option Value → jPS → Prop} {pc : Nat} {ls : List (Nat × Value)} {st : List Value} {σ : jM} {k n : Nat} {i : Int32} {x : Int64} (hdg : decode b.2.2.1 pc = .ok (.lastore, 1)) (hk : shf k = (15, n)) (hn : k < 376) (hin : inb i n) (K : J b d 0 0 Q (pc + 1) ls st (ms (wL σ k i.toNatClampNeg x))) : J b d 0 0 Q pc ls (.long x :: .int i :: .ref k :: st) (ms σ) := J_last (S := ms σ) (ms_off σ) hdg hk hn (inb_vp hin) K
theorem jbool {x : Int32} (h : x = 0 ∨ x = 1) : narrow .boolean (.int x) = .int x ∧ fits .boolean (.int x) = true := by rcases h with rfl | rfl <;> exact ⟨rfl, rfl⟩

theorem M_callVI {b : jMI} {d : Nat} {Q : Option Value → jPS → Prop} {pc : Nat} {ls : List (Nat × Value)} {st : List Value} {σ : jM} {b' : jMI} {d' idx n ci k : Nat} {As st0 : List Value} {ls' : List (Nat × Value)} {T : u_T} {N : Nat} {r : Int32 × jM} (hc : jCV b.1 idx b' n) (hdg : decode b.2.2.1 pc = .ok (.invokevirtual idx, 3)) (hci : vwCl[ci]? = some (b'.1, T, N)) (hc13 : ci < 13) (hn : As.length = n) (hw : (st.map (fun v => v.category)).sum ≤ 8) (hA : (lg_sl (.ref k :: As)).length ≤ b'.2.2.2.1) (hd : d' + 1 ≤ d) (hr : k < 376) (hk : (shf k).1 = ci) (hst : st0 = As.reverse ++ .ref k :: st) (hls : lv_args 0 (.ref k :: As) = ls') (hJ : J b' d' 0 0 (jqI r) 0 ls' [] (ms σ)) (K : J b d 0 0 Q (pc + 3) ls (.int r.1 :: st) (ms r.2)) : J b d 0 0 Q pc ls st0 (ms σ) := by
  subst hst
  subst hls
  exact J_callV (S := ms σ) (kc := 0) (ks := 0) (kc' := 0) (ks' := 0) hc hdg hci hc13 hn hw hA hd hr hk hJ (fun v S' hq => by obtain ⟨rfl, rfl⟩ := hq; exact K)
theorem M_callSI {b : jMI} {d : Nat} {Q : Option Value → jPS → Prop} {pc : Nat} {ls : List (Nat × Value)} {st : List Value} {σ : jM} {b' : jMI} {d' idx n : Nat} {As st0 : List Value} {ls' : List (Nat × Value)} {r : Int32 × jM} (hc : jCS b.1 idx b' n) (hdg : decode b.2.2.1 pc = .ok (.invokestatic idx, 3)) (hn : As.length = n) (hw : (st.map (fun v => v.category)).sum ≤ 8) (hA : (lg_sl As).length ≤ b'.2.2.2.1) (hd : d' + 1 ≤ d) (hst : st0 = As.reverse ++ st) (hls : lv_args 0 As = ls') (hJ : J b' d' 0 0 (jqI r) 0 ls' [] (ms σ)) (K : J b d 0 0 Q (pc + 3) ls (.int r.1 :: st) (ms r.2)) : J b d 0 0 Q pc ls st0 (ms σ) := by
  subst hst
  subst hls
  exact J_callS (S := ms σ) (kc := 0) (ks := 0) (kc' := 0) (ks' := 0) hc hdg hn hw hA hd hJ (fun v S' hq => by obtain ⟨rfl, rfl⟩ := hq; exact K)
theorem M_callNI {b : jMI} {d : Nat} {Q : Option Value → jPS → Prop} {pc : Nat} {ls : List (Nat × Value)} {st : List Value} {σ : jM} {b' : jMI} {d' idx n : Nat} {As st0 : List Value} {ls' : List (Nat × Value)} {r : Int32 × jM} (hc : jCN b.1 idx b' n) (hdg : decode b.2.2.1 pc = .ok (.invokestatic idx, 3)) (hn : As.length = n) (hw : (st.map (fun v => v.category)).sum ≤ 8) (hA : (lg_sl As).length ≤ b'.2.2.2.1) (hd : d' + 1 ≤ d) (hst : st0 = As.reverse ++ st) (hls : lv_args 0 As = ls') (hJ : J b' d' 0 0 (jqI r) 0 ls' [] (ms σ)) (K : J b d 0 0 Q (pc + 3) ls (.int r.1 :: st) (ms r.2)) : J b d 0 0 Q pc ls st0 (ms σ) := by
  subst hst
  subst hls
  exact J_callN (S := ms σ) (kc := 0) (ks := 0) (kc' := 0) (ks' := 0) hc hdg hn hw hA hd hJ (fun v S' hq => by obtain ⟨rfl, rfl⟩ := hq; exact K)

theorem M_callVL {b : jMI} {d : Nat} {Q : Option Value → jPS → Prop} {pc : Nat} {ls : List (Nat × Value)} {st : List Value} {σ : jM} {b' : jMI} {d' idx n ci k : Nat} {As st0 : List Value} {ls' : List (Nat × Value)} {T : u_T} {N : Nat} {r : Int64 × jM} (hc : jCV b.1 idx b' n) (hdg : decode b.2.2.1 pc = .ok (.invokevirtual idx, 3)) (hci : vwCl[ci]? = some (b'.1, T, N)) (hc13 : ci < 13) (hn : As.length = n) (hw : (st.map (fun v => v.category)).sum ≤ 8) (hA : (lg_sl (.ref k :: As)).length ≤ b'.2.2.2.1) (hd : d' + 1 ≤ d) (hr : k < 376) (hk : (shf k).1 = ci) (hst : st0 = As.reverse ++ .ref k :: st) (hls : lv_args 0 (.ref k :: As) = ls') (hJ : J b' d' 0 0 (jqL r) 0 ls' [] (ms σ)) (K : J b d 0 0 Q (pc + 3) ls (.long r.1 :: st) (ms r.2)) : J b d 0 0 Q pc ls st0 (ms σ) := by
  subst hst
  subst hls
  exact J_callV (S := ms σ) (kc := 0) (ks := 0) (kc' := 0) (ks' := 0) hc hdg hci hc13 hn hw hA hd hr hk hJ (fun v S' hq => by obtain ⟨rfl, rfl⟩ := hq; exact K)
theorem M_callSL {b : jMI} {d : Nat} {Q : Option Value → jPS → Prop} {pc : Nat} {ls : List (Nat × Value)} {st : List Value} {σ : jM} {b' : jMI} {d' idx n : Nat} {As st0 : List Value} {ls' : List (Nat × Value)} {r : Int64 × jM} (hc : jCS b.1 idx b' n) (hdg : decode b.2.2.1 pc = .ok (.invokestatic idx, 3)) (hn : As.length = n) (hw : (st.map (fun v => v.category)).sum ≤ 8) (hA : (lg_sl As).length ≤ b'.2.2.2.1) (hd : d' + 1 ≤ d) (hst : st0 = As.reverse ++ st) (hls : lv_args 0 As = ls') (hJ : J b' d' 0 0 (jqL r) 0 ls' [] (ms σ)) (K : J b d 0 0 Q (pc + 3) ls (.long r.1 :: st) (ms r.2)) : J b d 0 0 Q pc ls st0 (ms σ) := by
  subst hst
  subst hls
  exact J_callS (S := ms σ) (kc := 0) (ks := 0) (kc' := 0) (ks' := 0) hc hdg hn hw hA hd hJ (fun v S' hq => by obtain ⟨rfl, rfl⟩ := hq; exact K)
theorem M_callNL {b : jMI} {d : Nat} {Q : Option Value → jPS → Prop} {pc : Nat} {ls : List (Nat × Value)} {st : List Value} {σ : jM} {b' : jMI} {d' idx n : Nat} {As st0 : List Value} {ls' : List (Nat × Value)} {r : Int64 × jM} (hc : jCN b.1 idx b' n) (hdg : decode b.2.2.1 pc = .ok (.invokestatic idx, 3)) (hn : As.length = n) (hw : (st.map (fun v => v.category)).sum ≤ 8) (hA : (lg_sl As).length ≤ b'.2.2.2.1) (hd : d' + 1 ≤ d) (hst : st0 = As.reverse ++ st) (hls : lv_args 0 As = ls') (hJ : J b' d' 0 0 (jqL r) 0 ls' [] (ms σ)) (K : J b d 0 0 Q (pc + 3) ls (.long r.1 :: st) (ms r.2)) : J b d 0 0 Q pc ls st0 (ms σ) := by
  subst hst
  subst hls
  exact J_callN (S := ms σ) (kc := 0) (ks := 0) (kc' := 0) (ks' := 0) hc hdg hn hw hA hd hJ (fun v S' hq => by obtain ⟨rfl, rfl⟩ := hq; exact K)

theorem M_callVV {b : jMI} {d : Nat} {Q : Option Value → jPS → Prop} {pc : Nat} {ls : List (Nat × Value)} {st : List Value} {σ : jM} {b' : jMI} {d' idx n ci k : Nat} {As st0 : List Value} {ls' : List (Nat × Value)} {T : u_T} {N : Nat} {r : Unit × jM} (hc : jCV b.1 idx b' n) (hdg : decode b.2.2.1 pc = .ok (.invokevirtual idx, 3)) (hci : vwCl[ci]? = some (b'.1, T, N)) (hc13 : ci < 13) (hn : As.length = n) (hw : (st.map (fun v => v.category)).sum ≤ 8) (hA : (lg_sl (.ref k :: As)).length ≤ b'.2.2.2.1) (hd : d' + 1 ≤ d) (hr : k < 376) (hk : (shf k).1 = ci) (hst : st0 = As.reverse ++ .ref k :: st) (hls : lv_args 0 (.ref k :: As) = ls') (hJ : J b' d' 0 0 (jqV r) 0 ls' [] (ms σ)) (K : J b d 0 0 Q (pc + 3) ls (st) (ms r.2)) : J b d 0 0 Q pc ls st0 (ms σ) := by
  subst hst
  subst hls
  exact J_callV (S := ms σ) (kc := 0) (ks := 0) (kc' := 0) (ks' := 0) hc hdg hci hc13 hn hw hA hd hr hk hJ (fun v S' hq => by obtain ⟨rfl, rfl⟩ := hq; exact K)
theorem M_callSV {b : jMI} {d : Nat} {Q : Option Value → jPS → Prop} {pc : Nat} {ls : List (Nat × Value)} {st : List Value} {σ : jM} {b' : jMI} {d' idx n : Nat} {As st0 : List Value} {ls' : List (Nat × Value)} {r : Unit × jM} (hc : jCS b.1 idx b' n) (hdg : decode b.2.2.1 pc = .ok (.invokestatic idx, 3)) (hn : As.length = n) (hw : (st.map (fun v => v.category)).sum ≤ 8) (hA : (lg_sl As).length ≤ b'.2.2.2.1) (hd : d' + 1 ≤ d) (hst : st0 = As.reverse ++ st) (hls : lv_args 0 As = ls') (hJ : J b' d' 0 0 (jqV r) 0 ls' [] (ms σ)) (K : J b d 0 0 Q (pc + 3) ls (st) (ms r.2)) : J b d 0 0 Q pc ls st0 (ms σ) := by
  subst hst
  subst hls
  exact J_callS (S := ms σ) (kc := 0) (ks := 0) (kc' := 0) (ks' := 0) hc hdg hn hw hA hd hJ (fun v S' hq => by obtain ⟨rfl, rfl⟩ := hq; exact K)
theorem M_callNV {b : jMI} {d : Nat} {Q : Option Value → jPS → Prop} {pc : Nat} {ls : List (Nat × Value)} {st : List Value} {σ : jM} {b' : jMI} {d' idx n : Nat} {As st0 : List Value} {ls' : List (Nat × Value)} {r : Unit × jM} (hc : jCN b.1 idx b' n) (hdg : decode b.2.2.1 pc = .ok (.invokestatic idx, 3)) (hn : As.length = n) (hw : (st.map (fun v => v.category)).sum ≤ 8) (hA : (lg_sl As).length ≤ b'.2.2.2.1) (hd : d' + 1 ≤ d) (hst : st0 = As.reverse ++ st) (hls : lv_args 0 As = ls') (hJ : J b' d' 0 0 (jqV r) 0 ls' [] (ms σ)) (K : J b d 0 0 Q (pc + 3) ls (st) (ms r.2)) : J b d 0 0 Q pc ls st0 (ms σ) := by
  subst hst
  subst hls
  exact J_callN (S := ms σ) (kc := 0) (ks := 0) (kc' := 0) (ks' := 0) hc hdg hn hw hA hd hJ (fun v S' hq => by obtain ⟨rfl, rfl⟩ := hq; exact K)

theorem M_callVR {b : jMI} {d : Nat} {Q : Option Value → jPS → Prop} {pc : Nat} {ls : List (Nat × Value)} {st : List Value} {σ : jM} {b' : jMI} {d' idx n ci k : Nat} {As st0 : List Value} {ls' : List (Nat × Value)} {T : u_T} {N : Nat} {r : Option Nat × jM} (hc : jCV b.1 idx b' n) (hdg : decode b.2.2.1 pc = .ok (.invokevirtual idx, 3)) (hci : vwCl[ci]? = some (b'.1, T, N)) (hc13 : ci < 13) (hn : As.length = n) (hw : (st.map (fun v => v.category)).sum ≤ 8) (hA : (lg_sl (.ref k :: As)).length ≤ b'.2.2.2.1) (hd : d' + 1 ≤ d) (hr : k < 376) (hk : (shf k).1 = ci) (hst : st0 = As.reverse ++ .ref k :: st) (hls : lv_args 0 (.ref k :: As) = ls') (hJ : J b' d' 0 0 (jqR r) 0 ls' [] (ms σ)) (K : J b d 0 0 Q (pc + 3) ls (jrv r.1 :: st) (ms r.2)) : J b d 0 0 Q pc ls st0 (ms σ) := by
  subst hst
  subst hls
  exact J_callV (S := ms σ) (kc := 0) (ks := 0) (kc' := 0) (ks' := 0) hc hdg hci hc13 hn hw hA hd hr hk hJ (fun v S' hq => by obtain ⟨rfl, rfl⟩ := hq; exact K)
theorem M_callSR {b : jMI} {d : Nat} {Q : Option Value → jPS → Prop} {pc : Nat} {ls : List (Nat × Value)} {st : List Value} {σ : jM} {b' : jMI} {d' idx n : Nat} {As st0 : List Value} {ls' : List (Nat × Value)} {r : Option Nat × jM} (hc : jCS b.1 idx b' n) (hdg : decode b.2.2.1 pc = .ok (.invokestatic idx, 3)) (hn : As.length = n) (hw : (st.map (fun v => v.category)).sum ≤ 8) (hA : (lg_sl As).length ≤ b'.2.2.2.1) (hd : d' + 1 ≤ d) (hst : st0 = As.reverse ++ st) (hls : lv_args 0 As = ls') (hJ : J b' d' 0 0 (jqR r) 0 ls' [] (ms σ)) (K : J b d 0 0 Q (pc + 3) ls (jrv r.1 :: st) (ms r.2)) : J b d 0 0 Q pc ls st0 (ms σ) := by
  subst hst
  subst hls
  exact J_callS (S := ms σ) (kc := 0) (ks := 0) (kc' := 0) (ks' := 0) hc hdg hn hw hA hd hJ (fun v S' hq => by obtain ⟨rfl, rfl⟩ := hq; exact K)
theorem M_callNR {b : jMI} {d : Nat} {Q : Option Value → jPS → Prop} {pc : Nat} {ls : List (Nat × Value)} {st : List Value} {σ : jM} {b' : jMI} {d' idx n : Nat} {As st0 : List Value} {ls' : List (Nat × Value)} {r : Option Nat × jM} (hc : jCN b.1 idx b' n) (hdg : decode b.2.2.1 pc = .ok (.invokestatic idx, 3)) (hn : As.length = n) (hw : (st.map (fun v => v.category)).sum ≤ 8) (hA : (lg_sl As).length ≤ b'.2.2.2.1) (hd : d' + 1 ≤ d) (hst : st0 = As.reverse ++ st) (hls : lv_args 0 As = ls') (hJ : J b' d' 0 0 (jqR r) 0 ls' [] (ms σ)) (K : J b d 0 0 Q (pc + 3) ls (jrv r.1 :: st) (ms r.2)) : J b d 0 0 Q pc ls st0 (ms σ) := by
  subst hst
  subst hls
  exact J_callN (S := ms σ) (kc := 0) (ks := 0) (kc' := 0) (ks' := 0) hc hdg hn hw hA hd hJ (fun v S' hq => by obtain ⟨rfl, rfl⟩ := hq; exact K)

theorem shf_fst {a kd : Nat} (h : (shf a).1 = kd) : shf a = (kd, (shf a).2) := by rw [← h]
theorem k_0 : (shf 0).1 = 11 := rfl
theorem n_0 : 0 < 376 := by decide
theorem g_0_0 (c : Nat) : gr c 0 0 = some 3 := rfl
theorem g_0_1 (c : Nat) : gr c 0 1 = some 262 := rfl
theorem g_0_2 (c : Nat) : gr c 0 2 = some 264 := rfl
theorem g_0_3 (c : Nat) : gr c 0 3 = some 289 := rfl
theorem g_0_4 (c : Nat) : gr c 0 4 = some 296 := rfl
theorem g_0_5 (c : Nat) : gr c 0 5 = some 322 := rfl
theorem g_0_6 (c : Nat) : gr c 0 6 = some 1 := rfl
theorem g_0_8 (c : Nat) : gr c 0 8 = some 2 := rfl
theorem a_1 : shf 1 = (14, 12) := rfl
theorem n_1 : 1 < 376 := by decide
theorem a_2 : shf 2 = (14, 8) := rfl
theorem n_2 : 2 < 376 := by decide
theorem k_3 : (shf 3).1 = 0 := rfl
theorem n_3 : 3 < 376 := by decide
theorem g_3_1 (c : Nat) : gr c 3 1 = some 4 := rfl
theorem g_3_3 (c : Nat) : gr c 3 3 = some 5 := rfl
theorem g_3_5 (c : Nat) : gr c 3 5 = some 6 := rfl
theorem g_3_7 (c : Nat) : gr c 3 7 = some 7 := rfl
theorem g_3_9 (c : Nat) : gr c 3 9 = some 8 := rfl
theorem g_3_11 (c : Nat) : gr c 3 11 = some 18 := rfl
theorem g_3_13 (c : Nat) : gr c 3 13 = some 19 := rfl
theorem a_4 : shf 4 = (20, 24) := rfl
theorem n_4 : 4 < 376 := by decide
theorem a_5 : shf 5 = (18, 10) := rfl
theorem n_5 : 5 < 376 := by decide
theorem a_6 : shf 6 = (19, 60) := rfl
theorem n_6 : 6 < 376 := by decide
theorem a_7 : shf 7 = (17, 6) := rfl
theorem n_7 : 7 < 376 := by decide
theorem k_8 : (shf 8).1 = 4 := rfl
theorem n_8 : 8 < 376 := by decide
theorem g_8_0 (c : Nat) : gr c 8 0 = some 9 := rfl
theorem g_8_2 (c : Nat) : gr c 8 2 = some 10 := rfl
theorem g_8_3 (c : Nat) : gr c 8 3 = some 11 := rfl
theorem g_8_4 (c : Nat) : gr c 8 4 = some 12 := rfl
theorem g_8_5 (c : Nat) : gr c 8 5 = some 13 := rfl
theorem g_8_6 (c : Nat) : gr c 8 6 = some 14 := rfl
theorem g_8_7 (c : Nat) : gr c 8 7 = some 15 := rfl
theorem g_8_8 (c : Nat) : gr c 8 8 = some 16 := rfl
theorem g_8_9 (c : Nat) : gr c 8 9 = some 17 := rfl
theorem a_9 : shf 9 = (14, 4) := rfl
theorem n_9 : 9 < 376 := by decide
theorem a_10 : shf 10 = (14, 200) := rfl
theorem n_10 : 10 < 376 := by decide
theorem a_11 : shf 11 = (14, 200) := rfl
theorem n_11 : 11 < 376 := by decide
theorem a_12 : shf 12 = (14, 200) := rfl
theorem n_12 : 12 < 376 := by decide
theorem a_13 : shf 13 = (14, 200) := rfl
theorem n_13 : 13 < 376 := by decide
theorem a_14 : shf 14 = (14, 200) := rfl
theorem n_14 : 14 < 376 := by decide
theorem a_15 : shf 15 = (14, 780) := rfl
theorem n_15 : 15 < 376 := by decide
theorem a_16 : shf 16 = (14, 780) := rfl
theorem n_16 : 16 < 376 := by decide
theorem a_17 : shf 17 = (15, 40) := rfl
theorem n_17 : 17 < 376 := by decide
theorem a_18 : shf 18 = (14, 40) := rfl
theorem n_18 : 18 < 376 := by decide
theorem k_19 : (shf 19).1 = 6 := rfl
theorem n_19 : 19 < 376 := by decide
theorem g_19_2 (c : Nat) : gr c 19 2 = some 20 := rfl
theorem g_19_3 (c : Nat) : gr c 19 3 = some 21 := rfl
theorem g_19_4 (c : Nat) : gr c 19 4 = some 22 := rfl
theorem g_19_5 (c : Nat) : gr c 19 5 = some 23 := rfl
theorem g_19_6 (c : Nat) : gr c 19 6 = some 24 := rfl
theorem g_19_7 (c : Nat) : gr c 19 7 = some 25 := rfl
theorem g_19_8 (c : Nat) : gr c 19 8 = some 26 := rfl
theorem g_19_9 (c : Nat) : gr c 19 9 = some 27 := rfl
theorem a_20 : shf 20 = (14, 12) := rfl
theorem n_20 : 20 < 376 := by decide
theorem a_21 : shf 21 = (14, 12) := rfl
theorem n_21 : 21 < 376 := by decide
theorem a_22 : shf 22 = (14, 12) := rfl
theorem n_22 : 22 < 376 := by decide
theorem a_23 : shf 23 = (14, 12) := rfl
theorem n_23 : 23 < 376 := by decide
theorem a_24 : shf 24 = (14, 12) := rfl
theorem n_24 : 24 < 376 := by decide
theorem a_25 : shf 25 = (14, 12) := rfl
theorem n_25 : 25 < 376 := by decide
theorem a_26 : shf 26 = (14, 8) := rfl
theorem n_26 : 26 < 376 := by decide
theorem a_27 : shf 27 = (14, 8) := rfl
theorem n_27 : 27 < 376 := by decide
theorem k_262 : (shf 262).1 = 10 := rfl
theorem n_262 : 262 < 376 := by decide
theorem g_262_0 (c : Nat) : gr c 262 0 = some 263 := rfl
theorem a_263 : shf 263 = (14, 300) := rfl
theorem n_263 : 263 < 376 := by decide
theorem k_264 : (shf 264).1 = 3 := rfl
theorem n_264 : 264 < 376 := by decide
theorem g_264_1 (c : Nat) : gr c 264 1 = some 265 := rfl
theorem g_264_2 (c : Nat) : gr c 264 2 = some 278 := rfl
theorem g_264_3 (c : Nat) : gr c 264 3 = some 281 := rfl
theorem g_264_4 (c : Nat) : gr c 264 4 = some 284 := rfl
theorem g_264_5 (c : Nat) : gr c 264 5 = some 3 := rfl
theorem g_264_6 (c : Nat) : gr c 264 6 = some 287 := rfl
theorem g_264_7 (c : Nat) : gr c 264 7 = some 288 := rfl
theorem a_265 : shf 265 = (21, 12) := rfl
theorem n_265 : 265 < 376 := by decide
theorem a_266 : shf 266 = (14, 780) := rfl
theorem n_266 : 266 < 376 := by decide
theorem a_267 : shf 267 = (14, 780) := rfl
theorem n_267 : 267 < 376 := by decide
theorem a_268 : shf 268 = (14, 780) := rfl
theorem n_268 : 268 < 376 := by decide
theorem a_269 : shf 269 = (14, 780) := rfl
theorem n_269 : 269 < 376 := by decide
theorem a_270 : shf 270 = (14, 780) := rfl
theorem n_270 : 270 < 376 := by decide
theorem a_271 : shf 271 = (14, 780) := rfl
theorem n_271 : 271 < 376 := by decide
theorem a_272 : shf 272 = (14, 780) := rfl
theorem n_272 : 272 < 376 := by decide
theorem a_273 : shf 273 = (14, 780) := rfl
theorem n_273 : 273 < 376 := by decide
theorem a_274 : shf 274 = (14, 780) := rfl
theorem n_274 : 274 < 376 := by decide
theorem a_275 : shf 275 = (14, 780) := rfl
theorem n_275 : 275 < 376 := by decide
theorem a_276 : shf 276 = (14, 780) := rfl
theorem n_276 : 276 < 376 := by decide
theorem a_277 : shf 277 = (14, 780) := rfl
theorem n_277 : 277 < 376 := by decide
theorem a_278 : shf 278 = (22, 2) := rfl
theorem n_278 : 278 < 376 := by decide
theorem a_279 : shf 279 = (15, 40) := rfl
theorem n_279 : 279 < 376 := by decide
theorem a_280 : shf 280 = (15, 40) := rfl
theorem n_280 : 280 < 376 := by decide
theorem a_281 : shf 281 = (22, 2) := rfl
theorem n_281 : 281 < 376 := by decide
theorem a_282 : shf 282 = (15, 40) := rfl
theorem n_282 : 282 < 376 := by decide
theorem a_283 : shf 283 = (15, 40) := rfl
theorem n_283 : 283 < 376 := by decide
theorem a_284 : shf 284 = (22, 2) := rfl
theorem n_284 : 284 < 376 := by decide
theorem a_285 : shf 285 = (15, 40) := rfl
theorem n_285 : 285 < 376 := by decide
theorem a_286 : shf 286 = (15, 40) := rfl
theorem n_286 : 286 < 376 := by decide
theorem a_287 : shf 287 = (15, 192) := rfl
theorem n_287 : 287 < 376 := by decide
theorem a_288 : shf 288 = (14, 192) := rfl
theorem n_288 : 288 < 376 := by decide
theorem k_289 : (shf 289).1 = 2 := rfl
theorem n_289 : 289 < 376 := by decide
theorem g_289_6 (c : Nat) : gr c 289 6 = some 290 := rfl
theorem g_289_7 (c : Nat) : gr c 289 7 = some 291 := rfl
theorem g_289_8 (c : Nat) : gr c 289 8 = some 292 := rfl
theorem g_289_9 (c : Nat) : gr c 289 9 = some 264 := rfl
theorem g_289_12 (c : Nat) : gr c 289 12 = some 293 := rfl
theorem a_290 : shf 290 = (14, 80) := rfl
theorem n_290 : 290 < 376 := by decide
theorem a_291 : shf 291 = (14, 80) := rfl
theorem n_291 : 291 < 376 := by decide
theorem a_292 : shf 292 = (14, 80) := rfl
theorem n_292 : 292 < 376 := by decide
theorem a_293 : shf 293 = (21, 2) := rfl
theorem n_293 : 293 < 376 := by decide
theorem a_294 : shf 294 = (14, 40) := rfl
theorem n_294 : 294 < 376 := by decide
theorem a_295 : shf 295 = (14, 40) := rfl
theorem n_295 : 295 < 376 := by decide
theorem k_296 : (shf 296).1 = 7 := rfl
theorem n_296 : 296 < 376 := by decide
theorem g_296_0 (c : Nat) : gr c 296 0 = some 297 := rfl
theorem g_296_2 (c : Nat) : gr c 296 2 = some 298 := rfl
theorem g_296_3 (c : Nat) : gr c 296 3 = some 3 := rfl
theorem g_296_4 (c : Nat) : gr c 296 4 = some 264 := rfl
theorem g_296_6 (c : Nat) : gr c 296 6 = some 299 := rfl
theorem g_296_7 (c : Nat) : gr c 296 7 = some 300 := rfl
theorem g_296_8 (c : Nat) : gr c 296 8 = some 301 := rfl
theorem g_296_9 (c : Nat) : gr c 296 9 = some 302 := rfl
theorem g_296_10 (c : Nat) : gr c 296 10 = some 310 := rfl
theorem g_296_11 (c : Nat) : gr c 296 11 = some 311 := rfl
theorem g_296_12 (c : Nat) : gr c 296 12 = some 319 := rfl
theorem g_296_14 (c : Nat) : gr c 296 14 = some 320 := rfl
theorem g_296_15 (c : Nat) : gr c 296 15 = some 321 := rfl
theorem a_297 : shf 297 = (14, 5400) := rfl
theorem n_297 : 297 < 376 := by decide
theorem a_298 : shf 298 = (14, 40) := rfl
theorem n_298 : 298 < 376 := by decide
theorem a_299 : shf 299 = (14, 7) := rfl
theorem n_299 : 299 < 376 := by decide
theorem a_300 : shf 300 = (14, 7) := rfl
theorem n_300 : 300 < 376 := by decide
theorem a_301 : shf 301 = (14, 7) := rfl
theorem n_301 : 301 < 376 := by decide
theorem a_302 : shf 302 = (21, 7) := rfl
theorem n_302 : 302 < 376 := by decide
theorem a_303 : shf 303 = (14, 8) := rfl
theorem n_303 : 303 < 376 := by decide
theorem a_304 : shf 304 = (14, 8) := rfl
theorem n_304 : 304 < 376 := by decide
theorem a_305 : shf 305 = (14, 8) := rfl
theorem n_305 : 305 < 376 := by decide
theorem a_306 : shf 306 = (14, 8) := rfl
theorem n_306 : 306 < 376 := by decide
theorem a_307 : shf 307 = (14, 8) := rfl
theorem n_307 : 307 < 376 := by decide
theorem a_308 : shf 308 = (14, 8) := rfl
theorem n_308 : 308 < 376 := by decide
theorem a_309 : shf 309 = (14, 8) := rfl
theorem n_309 : 309 < 376 := by decide
theorem a_310 : shf 310 = (14, 7) := rfl
theorem n_310 : 310 < 376 := by decide
theorem a_311 : shf 311 = (21, 7) := rfl
theorem n_311 : 311 < 376 := by decide
theorem a_312 : shf 312 = (14, 6) := rfl
theorem n_312 : 312 < 376 := by decide
theorem a_313 : shf 313 = (14, 6) := rfl
theorem n_313 : 313 < 376 := by decide
theorem a_314 : shf 314 = (14, 6) := rfl
theorem n_314 : 314 < 376 := by decide
theorem a_315 : shf 315 = (14, 6) := rfl
theorem n_315 : 315 < 376 := by decide
theorem a_316 : shf 316 = (14, 6) := rfl
theorem n_316 : 316 < 376 := by decide
theorem a_317 : shf 317 = (14, 6) := rfl
theorem n_317 : 317 < 376 := by decide
theorem a_318 : shf 318 = (14, 6) := rfl
theorem n_318 : 318 < 376 := by decide
theorem a_319 : shf 319 = (14, 7) := rfl
theorem n_319 : 319 < 376 := by decide
theorem a_320 : shf 320 = (15, 27) := rfl
theorem n_320 : 320 < 376 := by decide
theorem a_321 : shf 321 = (15, 5) := rfl
theorem n_321 : 321 < 376 := by decide
theorem k_322 : (shf 322).1 = 1 := rfl
theorem n_322 : 322 < 376 := by decide
theorem g_322_2 (c : Nat) : gr c 322 2 = some 323 := rfl
theorem g_322_3 (c : Nat) : gr c 322 3 = some 3 := rfl
theorem g_322_4 (c : Nat) : gr c 322 4 = some 296 := rfl
theorem a_323 : shf 323 = (14, 200) := rfl
theorem n_323 : 323 < 376 := by decide
theorem k_324 : (shf 324).1 = 12 := rfl
theorem n_324 : 324 < 376 := by decide
theorem g_324_3 (c : Nat) : gr c 324 3 = some 325 := rfl
theorem g_324_4 (c : Nat) : gr c 324 4 = some 326 := rfl
theorem g_324_5 (c : Nat) : gr c 324 5 = some 327 := rfl
theorem g_324_6 (c : Nat) : gr c 324 6 = some 328 := rfl
theorem g_324_7 (c : Nat) : gr c 324 7 = some 329 := rfl
theorem g_324_9 (c : Nat) : gr c 324 9 = some 330 := rfl
theorem g_324_10 (c : Nat) : gr c 324 10 = some 331 := rfl
theorem g_324_11 (c : Nat) : gr c 324 11 = some 332 := rfl
theorem g_324_12 (c : Nat) : gr c 324 12 = some 333 := rfl
theorem g_324_13 (c : Nat) : gr c 324 13 = some 334 := rfl
theorem g_324_14 (c : Nat) : gr c 324 14 = some 335 := rfl
theorem g_324_15 (c : Nat) : gr c 324 15 = some 336 := rfl
theorem g_324_24 (c : Nat) : gr c 324 24 = some 337 := rfl
theorem g_324_26 (c : Nat) : gr c 324 26 = some 338 := rfl
theorem g_324_27 (c : Nat) : gr c 324 27 = some 339 := rfl
theorem g_324_28 (c : Nat) : gr c 324 28 = some 340 := rfl
theorem g_324_29 (c : Nat) : gr c 324 29 = some 341 := rfl
theorem g_324_30 (c : Nat) : gr c 324 30 = some 342 := rfl
theorem g_324_31 (c : Nat) : gr c 324 31 = some 343 := rfl
theorem g_324_33 (c : Nat) : gr c 324 33 = some 344 := rfl
theorem g_324_34 (c : Nat) : gr c 324 34 = some 345 := rfl
theorem g_324_35 (c : Nat) : gr c 324 35 = some 346 := rfl
theorem g_324_36 (c : Nat) : gr c 324 36 = some 347 := rfl
theorem g_324_37 (c : Nat) : gr c 324 37 = some 348 := rfl
theorem g_324_38 (c : Nat) : gr c 324 38 = some 349 := rfl
theorem g_324_40 (c : Nat) : gr c 324 40 = some 350 := rfl
theorem g_324_41 (c : Nat) : gr c 324 41 = some 351 := rfl
theorem g_324_42 (c : Nat) : gr c 324 42 = some 352 := rfl
theorem g_324_43 (c : Nat) : gr c 324 43 = some 353 := rfl
theorem g_324_44 (c : Nat) : gr c 324 44 = some 354 := rfl
theorem g_324_45 (c : Nat) : gr c 324 45 = some 355 := rfl
theorem g_324_46 (c : Nat) : gr c 324 46 = some 356 := rfl
theorem g_324_52 (c : Nat) : gr c 324 52 = some 357 := rfl
theorem g_324_54 (c : Nat) : gr c 324 54 = some 358 := rfl
theorem g_324_56 (c : Nat) : gr c 324 56 = some 359 := rfl
theorem g_324_57 (c : Nat) : gr c 324 57 = some 360 := rfl
theorem g_324_58 (c : Nat) : gr c 324 58 = some 361 := rfl
theorem g_324_59 (c : Nat) : gr c 324 59 = some 362 := rfl
theorem g_324_60 (c : Nat) : gr c 324 60 = some 363 := rfl
theorem g_324_61 (c : Nat) : gr c 324 61 = some 364 := rfl
theorem g_324_62 (c : Nat) : gr c 324 62 = some 365 := rfl
theorem g_324_63 (c : Nat) : gr c 324 63 = some 366 := rfl
theorem g_324_65 (c : Nat) : gr c 324 65 = some 367 := rfl
theorem g_324_66 (c : Nat) : gr c 324 66 = some 368 := rfl
theorem g_324_67 (c : Nat) : gr c 324 67 = some 369 := rfl
theorem g_324_70 (c : Nat) : gr c 324 70 = some 370 := rfl
theorem g_324_71 (c : Nat) : gr c 324 71 = some 371 := rfl
theorem g_324_72 (c : Nat) : gr c 324 72 = some 372 := rfl
theorem g_324_73 (c : Nat) : gr c 324 73 = some 373 := rfl
theorem g_324_74 (c : Nat) : gr c 324 74 = some 374 := rfl
theorem a_325 : shf 325 = (14, 24) := rfl
theorem n_325 : 325 < 376 := by decide
theorem a_326 : shf 326 = (14, 24) := rfl
theorem n_326 : 326 < 376 := by decide
theorem a_327 : shf 327 = (14, 25) := rfl
theorem n_327 : 327 < 376 := by decide
theorem a_328 : shf 328 = (14, 200) := rfl
theorem n_328 : 328 < 376 := by decide
theorem a_329 : shf 329 = (14, 1200) := rfl
theorem n_329 : 329 < 376 := by decide
theorem a_330 : shf 330 = (14, 10) := rfl
theorem n_330 : 330 < 376 := by decide
theorem a_331 : shf 331 = (14, 11) := rfl
theorem n_331 : 331 < 376 := by decide
theorem a_332 : shf 332 = (14, 132) := rfl
theorem n_332 : 332 < 376 := by decide
theorem a_333 : shf 333 = (14, 132) := rfl
theorem n_333 : 333 < 376 := by decide
theorem a_334 : shf 334 = (14, 132) := rfl
theorem n_334 : 334 < 376 := by decide
theorem a_335 : shf 335 = (14, 132) := rfl
theorem n_335 : 335 < 376 := by decide
theorem a_336 : shf 336 = (13, 300) := rfl
theorem n_336 : 336 < 376 := by decide
theorem a_337 : shf 337 = (14, 4) := rfl
theorem n_337 : 337 < 376 := by decide
theorem a_338 : shf 338 = (14, 200) := rfl
theorem n_338 : 338 < 376 := by decide
theorem a_339 : shf 339 = (14, 200) := rfl
theorem n_339 : 339 < 376 := by decide
theorem a_340 : shf 340 = (14, 200) := rfl
theorem n_340 : 340 < 376 := by decide
theorem a_341 : shf 341 = (14, 200) := rfl
theorem n_341 : 341 < 376 := by decide
theorem a_342 : shf 342 = (14, 200) := rfl
theorem n_342 : 342 < 376 := by decide
theorem a_343 : shf 343 = (14, 40) := rfl
theorem n_343 : 343 < 376 := by decide
theorem a_344 : shf 344 = (14, 60) := rfl
theorem n_344 : 344 < 376 := by decide
theorem a_345 : shf 345 = (14, 60) := rfl
theorem n_345 : 345 < 376 := by decide
theorem a_346 : shf 346 = (14, 60) := rfl
theorem n_346 : 346 < 376 := by decide
theorem a_347 : shf 347 = (16, 60) := rfl
theorem n_347 : 347 < 376 := by decide
theorem a_348 : shf 348 = (14, 60) := rfl
theorem n_348 : 348 < 376 := by decide
theorem a_349 : shf 349 = (14, 60) := rfl
theorem n_349 : 349 < 376 := by decide
theorem a_350 : shf 350 = (14, 192) := rfl
theorem n_350 : 350 < 376 := by decide
theorem a_351 : shf 351 = (14, 1152) := rfl
theorem n_351 : 351 < 376 := by decide
theorem a_352 : shf 352 = (16, 3200) := rfl
theorem n_352 : 352 < 376 := by decide
theorem a_353 : shf 353 = (16, 3200) := rfl
theorem n_353 : 353 < 376 := by decide
theorem a_354 : shf 354 = (14, 80) := rfl
theorem n_354 : 354 < 376 := by decide
theorem a_355 : shf 355 = (14, 1600) := rfl
theorem n_355 : 355 < 376 := by decide
theorem a_356 : shf 356 = (14, 40) := rfl
theorem n_356 : 356 < 376 := by decide
theorem a_357 : shf 357 = (14, 3200) := rfl
theorem n_357 : 357 < 376 := by decide
theorem a_358 : shf 358 = (14, 240) := rfl
theorem n_358 : 358 < 376 := by decide
theorem a_359 : shf 359 = (14, 7) := rfl
theorem n_359 : 359 < 376 := by decide
theorem a_360 : shf 360 = (14, 56) := rfl
theorem n_360 : 360 < 376 := by decide
theorem a_361 : shf 361 = (14, 7) := rfl
theorem n_361 : 361 < 376 := by decide
theorem a_362 : shf 362 = (14, 6) := rfl
theorem n_362 : 362 < 376 := by decide
theorem a_363 : shf 363 = (14, 6) := rfl
theorem n_363 : 363 < 376 := by decide
theorem a_364 : shf 364 = (14, 56) := rfl
theorem n_364 : 364 < 376 := by decide
theorem a_365 : shf 365 = (14, 7) := rfl
theorem n_365 : 365 < 376 := by decide
theorem a_366 : shf 366 = (14, 8) := rfl
theorem n_366 : 366 < 376 := by decide
theorem a_367 : shf 367 = (14, 7) := rfl
theorem n_367 : 367 < 376 := by decide
theorem a_368 : shf 368 = (14, 7) := rfl
theorem n_368 : 368 < 376 := by decide
theorem a_369 : shf 369 = (14, 320) := rfl
theorem n_369 : 369 < 376 := by decide
theorem a_370 : shf 370 = (14, 7) := rfl
theorem n_370 : 370 < 376 := by decide
theorem a_371 : shf 371 = (14, 40) := rfl
theorem n_371 : 371 < 376 := by decide
theorem a_372 : shf 372 = (14, 5440) := rfl
theorem n_372 : 372 < 376 := by decide
theorem a_373 : shf 373 = (16, 192) := rfl
theorem n_373 : 373 < 376 := by decide
theorem a_374 : shf 374 = (14, 12) := rfl
theorem n_374 : 374 < 376 := by decide
theorem a_375 : shf 375 = (15, 1) := rfl
theorem n_375 : 375 < 376 := by decide
theorem k_tab {t : Nat} (h : t < 24) : (shf (tabX t)).1 = 9 := by
  have : ∀ t, t < 24 → (shf (tabX t)).1 = 9 := by decide +kernel
  exact this t h
theorem n_tab {t : Nat} (h : t < 24) : tabX t < 376 := by
  have : ∀ t, t < 24 → tabX t < 376 := by decide +kernel
  exact this t h
theorem a_tab3 {t : Nat} (h : t < 24) : shf (tabX t + 1) = (14, 8) := by
  have : ∀ t, t < 24 → shf (tabX t + 1) = (14, 8) := by decide +kernel
  exact this t h
theorem na_tab3 {t : Nat} (h : t < 24) : tabX t + 1 < 376 := by
  have : ∀ t, t < 24 → tabX t + 1 < 376 := by decide +kernel
  exact this t h
theorem g_tab3 (c : Nat) {t : Nat} (h : t < 24) : gr c (tabX t) 3 = some (tabX t + 1) := by
  have h3 : ∀ t, t < 24 → tabX t ≠ 3 ∧ (grT.getD (tabX t) []).getD 3 none = some (tabX t + 1) := by decide +kernel
  unfold gr
  rw [if_neg (fun q => (h3 t h).1 q.1)]
  exact (h3 t h).2
theorem a_tab4 {t : Nat} (h : t < 24) : shf (tabX t + 2) = (14, 48) := by
  have : ∀ t, t < 24 → shf (tabX t + 2) = (14, 48) := by decide +kernel
  exact this t h
theorem na_tab4 {t : Nat} (h : t < 24) : tabX t + 2 < 376 := by
  have : ∀ t, t < 24 → tabX t + 2 < 376 := by decide +kernel
  exact this t h
theorem g_tab4 (c : Nat) {t : Nat} (h : t < 24) : gr c (tabX t) 4 = some (tabX t + 2) := by
  have h3 : ∀ t, t < 24 → tabX t ≠ 3 ∧ (grT.getD (tabX t) []).getD 4 none = some (tabX t + 2) := by decide +kernel
  unfold gr
  rw [if_neg (fun q => (h3 t h).1 q.1)]
  exact (h3 t h).2
theorem k_rul {t : Nat} (h : t < 11) : (shf (rulX t)).1 = 6 := by
  have : ∀ t, t < 11 → (shf (rulX t)).1 = 6 := by decide +kernel
  exact this t h
theorem n_rul {t : Nat} (h : t < 11) : rulX t < 376 := by
  have : ∀ t, t < 11 → rulX t < 376 := by decide +kernel
  exact this t h
theorem a_rul2 {t : Nat} (h : t < 11) : shf (rulX t + 1) = (14, 12) := by
  have : ∀ t, t < 11 → shf (rulX t + 1) = (14, 12) := by decide +kernel
  exact this t h
theorem na_rul2 {t : Nat} (h : t < 11) : rulX t + 1 < 376 := by
  have : ∀ t, t < 11 → rulX t + 1 < 376 := by decide +kernel
  exact this t h
theorem g_rul2 (c : Nat) {t : Nat} (h : t < 11) : gr c (rulX t) 2 = some (rulX t + 1) := by
  have h3 : ∀ t, t < 11 → rulX t ≠ 3 ∧ (grT.getD (rulX t) []).getD 2 none = some (rulX t + 1) := by decide +kernel
  unfold gr
  rw [if_neg (fun q => (h3 t h).1 q.1)]
  exact (h3 t h).2
theorem a_rul3 {t : Nat} (h : t < 11) : shf (rulX t + 2) = (14, 12) := by
  have : ∀ t, t < 11 → shf (rulX t + 2) = (14, 12) := by decide +kernel
  exact this t h
theorem na_rul3 {t : Nat} (h : t < 11) : rulX t + 2 < 376 := by
  have : ∀ t, t < 11 → rulX t + 2 < 376 := by decide +kernel
  exact this t h
theorem g_rul3 (c : Nat) {t : Nat} (h : t < 11) : gr c (rulX t) 3 = some (rulX t + 2) := by
  have h3 : ∀ t, t < 11 → rulX t ≠ 3 ∧ (grT.getD (rulX t) []).getD 3 none = some (rulX t + 2) := by decide +kernel
  unfold gr
  rw [if_neg (fun q => (h3 t h).1 q.1)]
  exact (h3 t h).2
theorem a_rul4 {t : Nat} (h : t < 11) : shf (rulX t + 3) = (14, 12) := by
  have : ∀ t, t < 11 → shf (rulX t + 3) = (14, 12) := by decide +kernel
  exact this t h
theorem na_rul4 {t : Nat} (h : t < 11) : rulX t + 3 < 376 := by
  have : ∀ t, t < 11 → rulX t + 3 < 376 := by decide +kernel
  exact this t h
theorem g_rul4 (c : Nat) {t : Nat} (h : t < 11) : gr c (rulX t) 4 = some (rulX t + 3) := by
  have h3 : ∀ t, t < 11 → rulX t ≠ 3 ∧ (grT.getD (rulX t) []).getD 4 none = some (rulX t + 3) := by decide +kernel
  unfold gr
  rw [if_neg (fun q => (h3 t h).1 q.1)]
  exact (h3 t h).2
theorem a_rul5 {t : Nat} (h : t < 11) : shf (rulX t + 4) = (14, 12) := by
  have : ∀ t, t < 11 → shf (rulX t + 4) = (14, 12) := by decide +kernel
  exact this t h
theorem na_rul5 {t : Nat} (h : t < 11) : rulX t + 4 < 376 := by
  have : ∀ t, t < 11 → rulX t + 4 < 376 := by decide +kernel
  exact this t h
theorem g_rul5 (c : Nat) {t : Nat} (h : t < 11) : gr c (rulX t) 5 = some (rulX t + 4) := by
  have h3 : ∀ t, t < 11 → rulX t ≠ 3 ∧ (grT.getD (rulX t) []).getD 5 none = some (rulX t + 4) := by decide +kernel
  unfold gr
  rw [if_neg (fun q => (h3 t h).1 q.1)]
  exact (h3 t h).2
theorem a_rul6 {t : Nat} (h : t < 11) : shf (rulX t + 5) = (14, 12) := by
  have : ∀ t, t < 11 → shf (rulX t + 5) = (14, 12) := by decide +kernel
  exact this t h
theorem na_rul6 {t : Nat} (h : t < 11) : rulX t + 5 < 376 := by
  have : ∀ t, t < 11 → rulX t + 5 < 376 := by decide +kernel
  exact this t h
theorem g_rul6 (c : Nat) {t : Nat} (h : t < 11) : gr c (rulX t) 6 = some (rulX t + 5) := by
  have h3 : ∀ t, t < 11 → rulX t ≠ 3 ∧ (grT.getD (rulX t) []).getD 6 none = some (rulX t + 5) := by decide +kernel
  unfold gr
  rw [if_neg (fun q => (h3 t h).1 q.1)]
  exact (h3 t h).2
theorem a_rul7 {t : Nat} (h : t < 11) : shf (rulX t + 6) = (14, 12) := by
  have : ∀ t, t < 11 → shf (rulX t + 6) = (14, 12) := by decide +kernel
  exact this t h
theorem na_rul7 {t : Nat} (h : t < 11) : rulX t + 6 < 376 := by
  have : ∀ t, t < 11 → rulX t + 6 < 376 := by decide +kernel
  exact this t h
theorem g_rul7 (c : Nat) {t : Nat} (h : t < 11) : gr c (rulX t) 7 = some (rulX t + 6) := by
  have h3 : ∀ t, t < 11 → rulX t ≠ 3 ∧ (grT.getD (rulX t) []).getD 7 none = some (rulX t + 6) := by decide +kernel
  unfold gr
  rw [if_neg (fun q => (h3 t h).1 q.1)]
  exact (h3 t h).2
theorem a_rul8 {t : Nat} (h : t < 11) : shf (rulX t + 7) = (14, 8) := by
  have : ∀ t, t < 11 → shf (rulX t + 7) = (14, 8) := by decide +kernel
  exact this t h
theorem na_rul8 {t : Nat} (h : t < 11) : rulX t + 7 < 376 := by
  have : ∀ t, t < 11 → rulX t + 7 < 376 := by decide +kernel
  exact this t h
theorem g_rul8 (c : Nat) {t : Nat} (h : t < 11) : gr c (rulX t) 8 = some (rulX t + 7) := by
  have h3 : ∀ t, t < 11 → rulX t ≠ 3 ∧ (grT.getD (rulX t) []).getD 8 none = some (rulX t + 7) := by decide +kernel
  unfold gr
  rw [if_neg (fun q => (h3 t h).1 q.1)]
  exact (h3 t h).2
theorem a_rul9 {t : Nat} (h : t < 11) : shf (rulX t + 8) = (14, 8) := by
  have : ∀ t, t < 11 → shf (rulX t + 8) = (14, 8) := by decide +kernel
  exact this t h
theorem na_rul9 {t : Nat} (h : t < 11) : rulX t + 8 < 376 := by
  have : ∀ t, t < 11 → rulX t + 8 < 376 := by decide +kernel
  exact this t h
theorem g_rul9 (c : Nat) {t : Nat} (h : t < 11) : gr c (rulX t) 9 = some (rulX t + 8) := by
  have h3 : ∀ t, t < 11 → rulX t ≠ 3 ∧ (grT.getD (rulX t) []).getD 9 none = some (rulX t + 8) := by decide +kernel
  unfold gr
  rw [if_neg (fun q => (h3 t h).1 q.1)]
  exact (h3 t h).2
theorem rulX_min (t : Nat) : ∃ u, u < 11 ∧ rulX t = rulX u := by
  by_cases h : t < 11
  · exact ⟨t, h, rfl⟩
  · exact ⟨10, by decide, by unfold rulX; rw [if_neg (by omega)]; rfl⟩
theorem kk_rul (t : Nat) : (shf (rulX t)).1 = 6 := by obtain ⟨u, h, e⟩ := rulX_min t; rw [e]; exact k_rul h
theorem nn_rul (t : Nat) : rulX t < 376 := by obtain ⟨u, h, e⟩ := rulX_min t; rw [e]; exact n_rul h
theorem aa_rul2 (t : Nat) : shf (rulX t + 1) = (14, 12) := by obtain ⟨u, h, e⟩ := rulX_min t; rw [e]; exact a_rul2 h
theorem nna_rul2 (t : Nat) : rulX t + 1 < 376 := by obtain ⟨u, h, e⟩ := rulX_min t; rw [e]; exact na_rul2 h
theorem gg_rul2 (c t : Nat) : gr c (rulX t) 2 = some (rulX t + 1) := by obtain ⟨u, h, e⟩ := rulX_min t; rw [e]; exact g_rul2 c h
theorem aa_rul3 (t : Nat) : shf (rulX t + 2) = (14, 12) := by obtain ⟨u, h, e⟩ := rulX_min t; rw [e]; exact a_rul3 h
theorem nna_rul3 (t : Nat) : rulX t + 2 < 376 := by obtain ⟨u, h, e⟩ := rulX_min t; rw [e]; exact na_rul3 h
theorem gg_rul3 (c t : Nat) : gr c (rulX t) 3 = some (rulX t + 2) := by obtain ⟨u, h, e⟩ := rulX_min t; rw [e]; exact g_rul3 c h
theorem aa_rul4 (t : Nat) : shf (rulX t + 3) = (14, 12) := by obtain ⟨u, h, e⟩ := rulX_min t; rw [e]; exact a_rul4 h
theorem nna_rul4 (t : Nat) : rulX t + 3 < 376 := by obtain ⟨u, h, e⟩ := rulX_min t; rw [e]; exact na_rul4 h
theorem gg_rul4 (c t : Nat) : gr c (rulX t) 4 = some (rulX t + 3) := by obtain ⟨u, h, e⟩ := rulX_min t; rw [e]; exact g_rul4 c h
theorem aa_rul5 (t : Nat) : shf (rulX t + 4) = (14, 12) := by obtain ⟨u, h, e⟩ := rulX_min t; rw [e]; exact a_rul5 h
theorem nna_rul5 (t : Nat) : rulX t + 4 < 376 := by obtain ⟨u, h, e⟩ := rulX_min t; rw [e]; exact na_rul5 h
theorem gg_rul5 (c t : Nat) : gr c (rulX t) 5 = some (rulX t + 4) := by obtain ⟨u, h, e⟩ := rulX_min t; rw [e]; exact g_rul5 c h
theorem aa_rul6 (t : Nat) : shf (rulX t + 5) = (14, 12) := by obtain ⟨u, h, e⟩ := rulX_min t; rw [e]; exact a_rul6 h
theorem nna_rul6 (t : Nat) : rulX t + 5 < 376 := by obtain ⟨u, h, e⟩ := rulX_min t; rw [e]; exact na_rul6 h
theorem gg_rul6 (c t : Nat) : gr c (rulX t) 6 = some (rulX t + 5) := by obtain ⟨u, h, e⟩ := rulX_min t; rw [e]; exact g_rul6 c h
theorem aa_rul7 (t : Nat) : shf (rulX t + 6) = (14, 12) := by obtain ⟨u, h, e⟩ := rulX_min t; rw [e]; exact a_rul7 h
theorem nna_rul7 (t : Nat) : rulX t + 6 < 376 := by obtain ⟨u, h, e⟩ := rulX_min t; rw [e]; exact na_rul7 h
theorem gg_rul7 (c t : Nat) : gr c (rulX t) 7 = some (rulX t + 6) := by obtain ⟨u, h, e⟩ := rulX_min t; rw [e]; exact g_rul7 c h
theorem aa_rul8 (t : Nat) : shf (rulX t + 7) = (14, 8) := by obtain ⟨u, h, e⟩ := rulX_min t; rw [e]; exact a_rul8 h
theorem nna_rul8 (t : Nat) : rulX t + 7 < 376 := by obtain ⟨u, h, e⟩ := rulX_min t; rw [e]; exact na_rul8 h
theorem gg_rul8 (c t : Nat) : gr c (rulX t) 8 = some (rulX t + 7) := by obtain ⟨u, h, e⟩ := rulX_min t; rw [e]; exact g_rul8 c h
theorem aa_rul9 (t : Nat) : shf (rulX t + 8) = (14, 8) := by obtain ⟨u, h, e⟩ := rulX_min t; rw [e]; exact a_rul9 h
theorem nna_rul9 (t : Nat) : rulX t + 8 < 376 := by obtain ⟨u, h, e⟩ := rulX_min t; rw [e]; exact na_rul9 h
theorem gg_rul9 (c t : Nat) : gr c (rulX t) 9 = some (rulX t + 8) := by obtain ⟨u, h, e⟩ := rulX_min t; rw [e]; exact g_rul9 c h
theorem k_sha {t : Nat} (h : t < 60) : (shf (shaX t)).1 = 8 := by
  have : ∀ t, t < 60 → (shf (shaX t)).1 = 8 := by decide +kernel
  exact this t h
theorem n_sha {t : Nat} (h : t < 60) : shaX t < 376 := by
  have : ∀ t, t < 60 → shaX t < 376 := by decide +kernel
  exact this t h
theorem k_nam {t : Nat} (h : t < 6) : (shf (namX t)).1 = 5 := by
  have : ∀ t, t < 6 → (shf (namX t)).1 = 5 := by decide +kernel
  exact this t h
theorem n_nam {t : Nat} (h : t < 6) : namX t < 376 := by
  have : ∀ t, t < 6 → namX t < 376 := by decide +kernel
  exact this t h
theorem a_nam2 {t : Nat} (h : t < 6) : shf (namX t + 1) = (14, 8) := by
  have : ∀ t, t < 6 → shf (namX t + 1) = (14, 8) := by decide +kernel
  exact this t h
theorem na_nam2 {t : Nat} (h : t < 6) : namX t + 1 < 376 := by
  have : ∀ t, t < 6 → namX t + 1 < 376 := by decide +kernel
  exact this t h
theorem g_nam2 (c : Nat) {t : Nat} (h : t < 6) : gr c (namX t) 2 = some (namX t + 1) := by
  have h3 : ∀ t, t < 6 → namX t ≠ 3 ∧ (grT.getD (namX t) []).getD 2 none = some (namX t + 1) := by decide +kernel
  unfold gr
  rw [if_neg (fun q => (h3 t h).1 q.1)]
  exact (h3 t h).2
theorem r_tab (c : Nat) {t : Nat} (h : t < 24) : gr c 4 t = some (tabX t) := by
  have h3 : ∀ t, t < 24 → (grT.getD 4 []).getD t none = some (tabX t) := by decide +kernel
  unfold gr
  rw [if_neg (fun q => absurd q.1 (by decide))]
  exact h3 t h
theorem r_rul (c : Nat) {t : Nat} (h : t < 10) : gr c 5 t = some (rulX t) := by
  have h3 : ∀ t, t < 10 → (grT.getD 5 []).getD t none = some (rulX t) := by decide +kernel
  unfold gr
  rw [if_neg (fun q => absurd q.1 (by decide))]
  exact h3 t h
theorem r_sha (c : Nat) {t : Nat} (h : t < 60) : gr c 6 t = some (shaX t) := by
  have h3 : ∀ t, t < 60 → (grT.getD 6 []).getD t none = some (shaX t) := by decide +kernel
  unfold gr
  rw [if_neg (fun q => absurd q.1 (by decide))]
  exact h3 t h
theorem r_nam (c : Nat) {t : Nat} (h : t < 6) : gr c 7 t = some (namX t) := by
  have h3 : ∀ t, t < 6 → (grT.getD 7 []).getD t none = some (namX t) := by decide +kernel
  unfold gr
  rw [if_neg (fun q => absurd q.1 (by decide))]
  exact h3 t h
theorem r_row265 (c : Nat) {t : Nat} (h : t < 12) : gr c 265 t = some (266 + t) := by
  have h3 : ∀ t, t < 12 → (grT.getD 265 []).getD t none = some (266 + t) := by decide +kernel
  unfold gr
  rw [if_neg (fun q => absurd q.1 (by decide))]
  exact h3 t h
theorem a_row265 {t : Nat} (h : t < 12) : shf (266 + t) = (14, 780) := by
  have : ∀ t, t < 12 → shf (266 + t) = (14, 780) := by decide +kernel
  exact this t h
theorem na_row265 {t : Nat} (h : t < 12) : 266 + t < 376 := by omega
theorem r_row278 (c : Nat) {t : Nat} (h : t < 2) : gr c 278 t = some (279 + t) := by
  have h3 : ∀ t, t < 2 → (grT.getD 278 []).getD t none = some (279 + t) := by decide +kernel
  unfold gr
  rw [if_neg (fun q => absurd q.1 (by decide))]
  exact h3 t h
theorem a_row278 {t : Nat} (h : t < 2) : shf (279 + t) = (15, 40) := by
  have : ∀ t, t < 2 → shf (279 + t) = (15, 40) := by decide +kernel
  exact this t h
theorem na_row278 {t : Nat} (h : t < 2) : 279 + t < 376 := by omega
theorem r_row281 (c : Nat) {t : Nat} (h : t < 2) : gr c 281 t = some (282 + t) := by
  have h3 : ∀ t, t < 2 → (grT.getD 281 []).getD t none = some (282 + t) := by decide +kernel
  unfold gr
  rw [if_neg (fun q => absurd q.1 (by decide))]
  exact h3 t h
theorem a_row281 {t : Nat} (h : t < 2) : shf (282 + t) = (15, 40) := by
  have : ∀ t, t < 2 → shf (282 + t) = (15, 40) := by decide +kernel
  exact this t h
theorem na_row281 {t : Nat} (h : t < 2) : 282 + t < 376 := by omega
theorem r_row284 (c : Nat) {t : Nat} (h : t < 2) : gr c 284 t = some (285 + t) := by
  have h3 : ∀ t, t < 2 → (grT.getD 284 []).getD t none = some (285 + t) := by decide +kernel
  unfold gr
  rw [if_neg (fun q => absurd q.1 (by decide))]
  exact h3 t h
theorem a_row284 {t : Nat} (h : t < 2) : shf (285 + t) = (15, 40) := by
  have : ∀ t, t < 2 → shf (285 + t) = (15, 40) := by decide +kernel
  exact this t h
theorem na_row284 {t : Nat} (h : t < 2) : 285 + t < 376 := by omega
theorem r_row293 (c : Nat) {t : Nat} (h : t < 2) : gr c 293 t = some (294 + t) := by
  have h3 : ∀ t, t < 2 → (grT.getD 293 []).getD t none = some (294 + t) := by decide +kernel
  unfold gr
  rw [if_neg (fun q => absurd q.1 (by decide))]
  exact h3 t h
theorem a_row293 {t : Nat} (h : t < 2) : shf (294 + t) = (14, 40) := by
  have : ∀ t, t < 2 → shf (294 + t) = (14, 40) := by decide +kernel
  exact this t h
theorem na_row293 {t : Nat} (h : t < 2) : 294 + t < 376 := by omega
theorem r_row302 (c : Nat) {t : Nat} (h : t < 7) : gr c 302 t = some (303 + t) := by
  have h3 : ∀ t, t < 7 → (grT.getD 302 []).getD t none = some (303 + t) := by decide +kernel
  unfold gr
  rw [if_neg (fun q => absurd q.1 (by decide))]
  exact h3 t h
theorem a_row302 {t : Nat} (h : t < 7) : shf (303 + t) = (14, 8) := by
  have : ∀ t, t < 7 → shf (303 + t) = (14, 8) := by decide +kernel
  exact this t h
theorem na_row302 {t : Nat} (h : t < 7) : 303 + t < 376 := by omega
theorem r_row311 (c : Nat) {t : Nat} (h : t < 7) : gr c 311 t = some (312 + t) := by
  have h3 : ∀ t, t < 7 → (grT.getD 311 []).getD t none = some (312 + t) := by decide +kernel
  unfold gr
  rw [if_neg (fun q => absurd q.1 (by decide))]
  exact h3 t h
theorem a_row311 {t : Nat} (h : t < 7) : shf (312 + t) = (14, 6) := by
  have : ∀ t, t < 7 → shf (312 + t) = (14, 6) := by decide +kernel
  exact this t h
theorem na_row311 {t : Nat} (h : t < 7) : 312 + t < 376 := by omega
