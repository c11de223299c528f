/-! THE WALK WITH WORDS OF ITS OWN AND OTHER EXITS: as J, but Y speaks of the launch and the start, and where E holds the walk ends too -/
def jEx (b : jMI) (g : jG) (E : Nat → List (Nat × Value) → List Value → jPS → Prop) (p : Program) (l : Launch) (e : Env) (R : Room) (s : State) (m : MethodId) (args : Array Value) (below : List Frame) (meth : Method) (c : Code) (cells slots : Nat) (Z : State → Prop) : Prop :=
  ∀ (pc : Nat) (ls : List (Nat × Value)) (st : List Value) (S : jPS) (H : Heap) (locs : List Loc) (lsA : Array Slot), E pc ls st S → lv_has lsA b.2.2.2.1 (jlv g ls) → jR g S H → va_S (fun q => g.1 ≤ q) s.heap H locs → W p l e R s m args below meth c H locs cells slots Z (F0 m pc lsA (st.map (jtr g)))
def JX (b : jMI) (d kc ks : Nat) (Y : jG → Launch → State → Prop) (E : Nat → List (Nat × Value) → List Value → jPS → Prop) (Q : Option Value → jPS → Prop) (pc : Nat) (ls : List (Nat × Value)) (st : List Value) (S : jPS) : Prop :=
  ∀ (g : jG) (p : Program) (l : Launch) (e : Env) (R : Room) (s : State) (m : MethodId) (args : Array Value) (below : List Frame) (meth : Method) (c : Code) (cells slots : Nat) (Z : State → Prop),
    Y g l s → jCx b d kc ks g p R s m args meth c cells slots → jRt b g Q p l e R s m args below meth c (cells + kc) (slots + ks) Z → jEx b g E p l e R s m args below meth c cells slots Z →
    ∀ (H : Heap) (locs : List Loc) (lsA : Array Slot), lv_has lsA b.2.2.2.1 (jlv g ls) → jR g S H → va_S (fun q => g.1 ≤ q) s.heap H locs →
      W p l e R s m args below meth c H locs cells slots Z (F0 m pc lsA (st.map (jtr g)))
theorem JX_of {b : jMI} {Y : jG → Launch → State → Prop} {E : Nat → List (Nat × Value) → List Value → jPS → Prop} {d kc ks : Nat} {Q : Option Value → jPS → Prop} {pc : Nat} {ls : List (Nat × Value)} {st : List Value} {S : jPS} (h : J b d kc ks Q pc ls st S) : JX b d kc ks Y E Q pc ls st S := by
  intro g p l e R s m args below meth c cells slots Z Yy C Rt Ex H locs lsA hv hP hS
  exact h g p l e R s m args below meth c cells slots Z C Rt H locs lsA hv hP hS
theorem JX_exit {b : jMI} {Y : jG → Launch → State → Prop} {E : Nat → List (Nat × Value) → List Value → jPS → Prop} {d kc ks : Nat} {Q : Option Value → jPS → Prop} {pc : Nat} {ls : List (Nat × Value)} {st : List Value} {S : jPS} (h : E pc ls st S) : JX b d kc ks Y E Q pc ls st S := by
  intro g p l e R s m args below meth c cells slots Z Yy C Rt Ex H locs lsA hv hP hS
  exact Ex pc ls st S H locs lsA h hv hP hS
theorem JX_widen {b : jMI} {Y : jG → Launch → State → Prop} {d kc ks kc' ks' : Nat} {Q : Option Value → jPS → Prop} {pc : Nat} {ls : List (Nat × Value)} {st : List Value} {S : jPS} (h1 : kc ≤ kc') (h2 : ks ≤ ks') (h : JX b d kc ks Y (fun _ _ _ _ => False) Q pc ls st S) : JX b d kc' ks' Y (fun _ _ _ _ => False) Q pc ls st S := by
  intro g p l e R s m args below meth c cells slots Z Yy C Rt Ex H locs lsA hv hP hS
  refine h g p l e R s m args below meth c cells slots Z Yy ⟨C.1, C.2.1, C.2.2.1, ⟨by have := C.2.2.2.1.1; omega, by have := C.2.2.2.1.2; omega⟩, C.2.2.2.2⟩ ?_ (fun _ _ _ _ _ _ _ z => z.elim) H locs lsA hv hP hS
  intro v S' H1 locs1 pc1 lsA1 hq hR hS1 hret
  exact W.widen (Nat.add_le_add_left h1 cells) (Nat.add_le_add_left h2 slots) (Rt v S' H1 locs1 pc1 lsA1 hq hR hS1 hret)
theorem JX_iconst {b : jMI} {Y : jG → Launch → State → Prop} {E : Nat → List (Nat × Value) → List Value → jPS → Prop} {d kc ks : Nat} {Q : Option Value → jPS → Prop} {pc : Nat} {ls : List (Nat × Value)} {st : List Value} {S : jPS} {n : Int} {v : Int32} (hdg : decode b.2.2.1 pc = .ok (.iconst n, 1)) (hv0 : Int32.ofInt n = v) (k : JX b d kc ks Y E Q (pc + 1) ls (.int v :: st) S) : JX b d kc ks Y E Q pc ls (st) S := by
  intro g p l e R s m args below meth c cells slots Z Yy C Rt Ex H locs lsA hv hP hS
  exact lv_iconst C.1.1 C.1.2.1 hdg hv0 (k g p l e R s m args below meth c cells slots Z Yy C Rt Ex H locs lsA hv hP hS)
theorem JX_bipush {b : jMI} {Y : jG → Launch → State → Prop} {E : Nat → List (Nat × Value) → List Value → jPS → Prop} {d kc ks : Nat} {Q : Option Value → jPS → Prop} {pc : Nat} {ls : List (Nat × Value)} {st : List Value} {S : jPS} {n : Int} {v : Int32} (hdg : decode b.2.2.1 pc = .ok (.bipush n, 2)) (hv0 : (Int8.ofInt n).toInt32 = v) (k : JX b d kc ks Y E Q (pc + 2) ls (.int v :: st) S) : JX b d kc ks Y E Q pc ls (st) S := by
  intro g p l e R s m args below meth c cells slots Z Yy C Rt Ex H locs lsA hv hP hS
  exact lv_bipush C.1.1 C.1.2.1 hdg hv0 (k g p l e R s m args below meth c cells slots Z Yy C Rt Ex H locs lsA hv hP hS)
theorem JX_iload_n {b : jMI} {Y : jG → Launch → State → Prop} {E : Nat → List (Nat × Value) → List Value → jPS → Prop} {d kc ks : Nat} {Q : Option Value → jPS → Prop} {pc : Nat} {ls : List (Nat × Value)} {st : List Value} {S : jPS} {i : Fin 4} {x : Int32} (q : Nat) (hdg : decode b.2.2.1 pc = .ok (.iload_n i, 1)) (hl : ls[q]? = some ((i : Nat), Value.int x)) (k : JX b d kc ks Y E Q (pc + 1) ls (.int x :: st) S) : JX b d kc ks Y E Q pc ls (st) S := by
  intro g p l e R s m args below meth c cells slots Z Yy C Rt Ex H locs lsA hv hP hS
  exact lv_iload_n C.1.1 C.1.2.1 hdg rfl (jlv_at hv hl) (k g p l e R s m args below meth c cells slots Z Yy C Rt Ex H locs lsA hv hP hS)
theorem JX_iload {b : jMI} {Y : jG → Launch → State → Prop} {E : Nat → List (Nat × Value) → List Value → jPS → Prop} {d kc ks : Nat} {Q : Option Value → jPS → Prop} {pc : Nat} {ls : List (Nat × Value)} {st : List Value} {S : jPS} {i : Nat} {x : Int32} (q : Nat) (hdg : decode b.2.2.1 pc = .ok (.iload i, 2)) (hl : ls[q]? = some (i, Value.int x)) (k : JX b d kc ks Y E Q (pc + 2) ls (.int x :: st) S) : JX b d kc ks Y E Q pc ls (st) S := by
  intro g p l e R s m args below meth c cells slots Z Yy C Rt Ex H locs lsA hv hP hS
  exact lv_iload C.1.1 C.1.2.1 hdg (jlv_at hv hl) (k g p l e R s m args below meth c cells slots Z Yy C Rt Ex H locs lsA hv hP hS)
theorem JX_aload_n {b : jMI} {Y : jG → Launch → State → Prop} {E : Nat → List (Nat × Value) → List Value → jPS → Prop} {d kc ks : Nat} {Q : Option Value → jPS → Prop} {pc : Nat} {ls : List (Nat × Value)} {st : List Value} {S : jPS} {i : Fin 4} {x : Nat} (q : Nat) (hdg : decode b.2.2.1 pc = .ok (.aload_n i, 1)) (hl : ls[q]? = some ((i : Nat), Value.ref x)) (k : JX b d kc ks Y E Q (pc + 1) ls (.ref x :: st) S) : JX b d kc ks Y E Q pc ls (st) S := by
  intro g p l e R s m args below meth c cells slots Z Yy C Rt Ex H locs lsA hv hP hS
  exact lv_aload_n C.1.1 C.1.2.1 hdg rfl (jlv_at hv hl) (k g p l e R s m args below meth c cells slots Z Yy C Rt Ex H locs lsA hv hP hS)
theorem JX_aload {b : jMI} {Y : jG → Launch → State → Prop} {E : Nat → List (Nat × Value) → List Value → jPS → Prop} {d kc ks : Nat} {Q : Option Value → jPS → Prop} {pc : Nat} {ls : List (Nat × Value)} {st : List Value} {S : jPS} {i : Nat} {x : Nat} (q : Nat) (hdg : decode b.2.2.1 pc = .ok (.aload i, 2)) (hl : ls[q]? = some (i, Value.ref x)) (k : JX b d kc ks Y E Q (pc + 2) ls (.ref x :: st) S) : JX b d kc ks Y E Q pc ls (st) S := by
  intro g p l e R s m args below meth c cells slots Z Yy C Rt Ex H locs lsA hv hP hS
  exact lv_aload C.1.1 C.1.2.1 hdg (jlv_at hv hl) (k g p l e R s m args below meth c cells slots Z Yy C Rt Ex H locs lsA hv hP hS)
theorem JX_istore {b : jMI} {Y : jG → Launch → State → Prop} {E : Nat → List (Nat × Value) → List Value → jPS → Prop} {d kc ks : Nat} {Q : Option Value → jPS → Prop} {pc : Nat} {ls : List (Nat × Value)} {st : List Value} {S : jPS}  {i : Nat} {x : Int32} {ls' : List (Nat × Value)} (hdg : decode b.2.2.1 pc = .ok (.istore i, 2))  (hn : i < b.2.2.2.1) (hl : (i, Value.int x) :: ls.filter (fun q => !(q.1 == i) && !(q.1 + 1 == i && q.2.category == 2)) = ls') (k : JX b d kc ks Y E Q (pc + 2) ls' st S) : JX b d kc ks Y E Q pc ls (.int x :: st) S := by
  intro g p l e R s m args below meth c cells slots Z Yy C Rt Ex H locs lsA hv hP hS
  refine lv_istore (lv' := jlv g ls') C.1.1 C.1.2.1 hdg hv hn ?_ (fun lsB hB => k g p l e R s m args below meth c cells slots Z Yy C Rt Ex H locs lsB hB hP hS)
  rw [← hl]
  show _ :: _ = _ :: _
  congr 1
  exact jlv_filter g ls (fun a t => !(a == i) && !(a + 1 == i && t == 2))
theorem JX_istore_n {b : jMI} {Y : jG → Launch → State → Prop} {E : Nat → List (Nat × Value) → List Value → jPS → Prop} {d kc ks : Nat} {Q : Option Value → jPS → Prop} {pc : Nat} {ls : List (Nat × Value)} {st : List Value} {S : jPS} {j : Fin 4} {i : Nat} {x : Int32} {ls' : List (Nat × Value)} (hdg : decode b.2.2.1 pc = .ok (.istore_n j, 1)) (hi : (j : Nat) = i) (hn : i < b.2.2.2.1) (hl : (i, Value.int x) :: ls.filter (fun q => !(q.1 == i) && !(q.1 + 1 == i && q.2.category == 2)) = ls') (k : JX b d kc ks Y E Q (pc + 1) ls' st S) : JX b d kc ks Y E Q pc ls (.int x :: st) S := by
  intro g p l e R s m args below meth c cells slots Z Yy C Rt Ex H locs lsA hv hP hS
  refine lv_istore_n (lv' := jlv g ls') C.1.1 C.1.2.1 hdg hi hv hn ?_ (fun lsB hB => k g p l e R s m args below meth c cells slots Z Yy C Rt Ex H locs lsB hB hP hS)
  rw [← hl]
  show _ :: _ = _ :: _
  congr 1
  exact jlv_filter g ls (fun a t => !(a == i) && !(a + 1 == i && t == 2))
theorem JX_astore_n {b : jMI} {Y : jG → Launch → State → Prop} {E : Nat → List (Nat × Value) → List Value → jPS → Prop} {d kc ks : Nat} {Q : Option Value → jPS → Prop} {pc : Nat} {ls : List (Nat × Value)} {st : List Value} {S : jPS} {j : Fin 4} {i : Nat} {x : Nat} {ls' : List (Nat × Value)} (hdg : decode b.2.2.1 pc = .ok (.astore_n j, 1)) (hi : (j : Nat) = i) (hn : i < b.2.2.2.1) (hl : (i, Value.ref x) :: ls.filter (fun q => !(q.1 == i) && !(q.1 + 1 == i && q.2.category == 2)) = ls') (k : JX b d kc ks Y E Q (pc + 1) ls' st S) : JX b d kc ks Y E Q pc ls (.ref x :: st) S := by
  intro g p l e R s m args below meth c cells slots Z Yy C Rt Ex H locs lsA hv hP hS
  refine lv_astore_n (lv' := jlv g ls') C.1.1 C.1.2.1 hdg hi hv hn ?_ (fun lsB hB => k g p l e R s m args below meth c cells slots Z Yy C Rt Ex H locs lsB hB hP hS)
  rw [← hl]
  show _ :: _ = _ :: _
  congr 1
  exact jlv_filter g ls (fun a t => !(a == i) && !(a + 1 == i && t == 2))
theorem JX_iinc {b : jMI} {Y : jG → Launch → State → Prop} {E : Nat → List (Nat × Value) → List Value → jPS → Prop} {d kc ks : Nat} {Q : Option Value → jPS → Prop} {pc : Nat} {ls : List (Nat × Value)} {st : List Value} {S : jPS} {i : Nat} {n : Int} {x v : Int32} {ls' : List (Nat × Value)} (q : Nat) (hdg : decode b.2.2.1 pc = .ok (.iinc i n, 3)) (hk : ls[q]? = some (i, Value.int x)) (hv0 : x + Int32.ofInt n = v) (hn : i < b.2.2.2.1) (hl : (i, Value.int v) :: ls.filter (fun q => !(q.1 == i) && !(q.1 + 1 == i && q.2.category == 2)) = ls') (k : JX b d kc ks Y E Q (pc + 3) ls' st S) : JX b d kc ks Y E Q pc ls st S := by
  intro g p l e R s m args below meth c cells slots Z Yy C Rt Ex H locs lsA hv hP hS
  refine lv_iinc (lv' := jlv g ls') (k := q) (x := x) C.1.1 C.1.2.1 hdg hv (by unfold jlv; rw [List.getElem?_map, hk]; rfl) hv0 hn ?_ (fun lsB hB => k g p l e R s m args below meth c cells slots Z Yy C Rt Ex H locs lsB hB hP hS)
  rw [← hl]
  show _ :: _ = _ :: _
  congr 1
  exact jlv_filter g ls (fun a t => !(a == i) && !(a + 1 == i && t == 2))
theorem JX_iadd {b : jMI} {Y : jG → Launch → State → Prop} {E : Nat → List (Nat × Value) → List Value → jPS → Prop} {d kc ks : Nat} {Q : Option Value → jPS → Prop} {pc : Nat} {ls : List (Nat × Value)} {st : List Value} {S : jPS} {x y : Int32} (hdg : decode b.2.2.1 pc = .ok (.iadd, 1)) (k : JX b d kc ks Y E Q (pc + 1) ls (.int (x + y) :: st) S) : JX b d kc ks Y E Q pc ls (.int y :: .int x :: st) S := by
  intro g p l e R s m args below meth c cells slots Z Yy C Rt Ex H locs lsA hv hP hS
  exact lv_iadd C.1.1 C.1.2.1 hdg (k g p l e R s m args below meth c cells slots Z Yy C Rt Ex H locs lsA hv hP hS)
theorem JX_isub {b : jMI} {Y : jG → Launch → State → Prop} {E : Nat → List (Nat × Value) → List Value → jPS → Prop} {d kc ks : Nat} {Q : Option Value → jPS → Prop} {pc : Nat} {ls : List (Nat × Value)} {st : List Value} {S : jPS} {x y : Int32} (hdg : decode b.2.2.1 pc = .ok (.isub, 1)) (k : JX b d kc ks Y E Q (pc + 1) ls (.int (x - y) :: st) S) : JX b d kc ks Y E Q pc ls (.int y :: .int x :: st) S := by
  intro g p l e R s m args below meth c cells slots Z Yy C Rt Ex H locs lsA hv hP hS
  exact lv_isub C.1.1 C.1.2.1 hdg (k g p l e R s m args below meth c cells slots Z Yy C Rt Ex H locs lsA hv hP hS)
theorem JX_iand {b : jMI} {Y : jG → Launch → State → Prop} {E : Nat → List (Nat × Value) → List Value → jPS → Prop} {d kc ks : Nat} {Q : Option Value → jPS → Prop} {pc : Nat} {ls : List (Nat × Value)} {st : List Value} {S : jPS} {x y : Int32} (hdg : decode b.2.2.1 pc = .ok (.iand, 1)) (k : JX b d kc ks Y E Q (pc + 1) ls (.int (x &&& y) :: st) S) : JX b d kc ks Y E Q pc ls (.int y :: .int x :: st) S := by
  intro g p l e R s m args below meth c cells slots Z Yy C Rt Ex H locs lsA hv hP hS
  exact lv_iand C.1.1 C.1.2.1 hdg (k g p l e R s m args below meth c cells slots Z Yy C Rt Ex H locs lsA hv hP hS)
theorem JX_i2l {b : jMI} {Y : jG → Launch → State → Prop} {E : Nat → List (Nat × Value) → List Value → jPS → Prop} {d kc ks : Nat} {Q : Option Value → jPS → Prop} {pc : Nat} {ls : List (Nat × Value)} {st : List Value} {S : jPS} {x : Int32} (hdg : decode b.2.2.1 pc = .ok (.i2l, 1)) (k : JX b d kc ks Y E Q (pc + 1) ls (.long x.toInt64 :: st) S) : JX b d kc ks Y E Q pc ls (.int x :: st) S := by
  intro g p l e R s m args below meth c cells slots Z Yy C Rt Ex H locs lsA hv hP hS
  exact lv_i2l C.1.1 C.1.2.1 hdg rfl (k g p l e R s m args below meth c cells slots Z Yy C Rt Ex H locs lsA hv hP hS)
theorem JX_lcmp {b : jMI} {Y : jG → Launch → State → Prop} {E : Nat → List (Nat × Value) → List Value → jPS → Prop} {d kc ks : Nat} {Q : Option Value → jPS → Prop} {pc : Nat} {ls : List (Nat × Value)} {st : List Value} {S : jPS} {x y : Int64} (hdg : decode b.2.2.1 pc = .ok (.lcmp, 1)) (k : JX b d kc ks Y E Q (pc + 1) ls (.int (lg_cmp x y) :: st) S) : JX b d kc ks Y E Q pc ls (.long y :: .long x :: st) S := by
  intro g p l e R s m args below meth c cells slots Z Yy C Rt Ex H locs lsA hv hP hS
  exact W.lcmp C.1.1 C.1.2.1 hdg (k g p l e R s m args below meth c cells slots Z Yy C Rt Ex H locs lsA hv hP hS)
theorem JX_if_eq {b : jMI} {Y : jG → Launch → State → Prop} {E : Nat → List (Nat × Value) → List Value → jPS → Prop} {d kc ks : Nat} {Q : Option Value → jPS → Prop} {pc : Nat} {ls : List (Nat × Value)} {st : List Value} {S : jPS} {x : Int32} {off : Int} {tgt : Nat} (hdg : decode b.2.2.1 pc = .ok (.ifCond .eq off, 3)) (ht : (pc : Int) + off = (tgt : Int)) (k : x = 0 → JX b d kc ks Y E Q tgt ls st S) (k2 : ¬ x = 0 → JX b d kc ks Y E Q (pc + 3) ls st S) : JX b d kc ks Y E Q pc ls (.int x :: st) S := by
  intro g p l e R s m args below meth c cells slots Z Yy C Rt Ex H locs lsA hv hP hS
  exact lv_if_eq C.1.1 C.1.2.1 hdg ht (fun h => k h g p l e R s m args below meth c cells slots Z Yy C Rt Ex H locs lsA hv hP hS) (fun h => k2 h g p l e R s m args below meth c cells slots Z Yy C Rt Ex H locs lsA hv hP hS)
theorem JX_if_ne {b : jMI} {Y : jG → Launch → State → Prop} {E : Nat → List (Nat × Value) → List Value → jPS → Prop} {d kc ks : Nat} {Q : Option Value → jPS → Prop} {pc : Nat} {ls : List (Nat × Value)} {st : List Value} {S : jPS} {x : Int32} {off : Int} {tgt : Nat} (hdg : decode b.2.2.1 pc = .ok (.ifCond .ne off, 3)) (ht : (pc : Int) + off = (tgt : Int)) (k : ¬ x = 0 → JX b d kc ks Y E Q tgt ls st S) (k2 : x = 0 → JX b d kc ks Y E Q (pc + 3) ls st S) : JX b d kc ks Y E Q pc ls (.int x :: st) S := by
  intro g p l e R s m args below meth c cells slots Z Yy C Rt Ex H locs lsA hv hP hS
  exact lv_if_ne C.1.1 C.1.2.1 hdg ht (fun h => k h g p l e R s m args below meth c cells slots Z Yy C Rt Ex H locs lsA hv hP hS) (fun h => k2 h g p l e R s m args below meth c cells slots Z Yy C Rt Ex H locs lsA hv hP hS)
theorem JX_if_lt {b : jMI} {Y : jG → Launch → State → Prop} {E : Nat → List (Nat × Value) → List Value → jPS → Prop} {d kc ks : Nat} {Q : Option Value → jPS → Prop} {pc : Nat} {ls : List (Nat × Value)} {st : List Value} {S : jPS} {x : Int32} {off : Int} {tgt : Nat} (hdg : decode b.2.2.1 pc = .ok (.ifCond .lt off, 3)) (ht : (pc : Int) + off = (tgt : Int)) (k : x < 0 → JX b d kc ks Y E Q tgt ls st S) (k2 : ¬ x < 0 → JX b d kc ks Y E Q (pc + 3) ls st S) : JX b d kc ks Y E Q pc ls (.int x :: st) S := by
  intro g p l e R s m args below meth c cells slots Z Yy C Rt Ex H locs lsA hv hP hS
  exact lv_if_lt C.1.1 C.1.2.1 hdg ht (fun h => k h g p l e R s m args below meth c cells slots Z Yy C Rt Ex H locs lsA hv hP hS) (fun h => k2 h g p l e R s m args below meth c cells slots Z Yy C Rt Ex H locs lsA hv hP hS)
theorem JX_icmp_eq {b : jMI} {Y : jG → Launch → State → Prop} {E : Nat → List (Nat × Value) → List Value → jPS → Prop} {d kc ks : Nat} {Q : Option Value → jPS → Prop} {pc : Nat} {ls : List (Nat × Value)} {st : List Value} {S : jPS} {x y : Int32} {off : Int} {tgt : Nat} (hdg : decode b.2.2.1 pc = .ok (.if_icmp .eq off, 3)) (ht : (pc : Int) + off = (tgt : Int)) (k : x = y → JX b d kc ks Y E Q tgt ls st S) (k2 : ¬ x = y → JX b d kc ks Y E Q (pc + 3) ls st S) : JX b d kc ks Y E Q pc ls (.int y :: .int x :: st) S := by
  intro g p l e R s m args below meth c cells slots Z Yy C Rt Ex H locs lsA hv hP hS
  exact lv_icmp_eq C.1.1 C.1.2.1 hdg ht (fun h => k h g p l e R s m args below meth c cells slots Z Yy C Rt Ex H locs lsA hv hP hS) (fun h => k2 h g p l e R s m args below meth c cells slots Z Yy C Rt Ex H locs lsA hv hP hS)
theorem JX_icmp_lt {b : jMI} {Y : jG → Launch → State → Prop} {E : Nat → List (Nat × Value) → List Value → jPS → Prop} {d kc ks : Nat} {Q : Option Value → jPS → Prop} {pc : Nat} {ls : List (Nat × Value)} {st : List Value} {S : jPS} {x y : Int32} {off : Int} {tgt : Nat} (hdg : decode b.2.2.1 pc = .ok (.if_icmp .lt off, 3)) (ht : (pc : Int) + off = (tgt : Int)) (k : x < y → JX b d kc ks Y E Q tgt ls st S) (k2 : ¬ x < y → JX b d kc ks Y E Q (pc + 3) ls st S) : JX b d kc ks Y E Q pc ls (.int y :: .int x :: st) S := by
  intro g p l e R s m args below meth c cells slots Z Yy C Rt Ex H locs lsA hv hP hS
  exact lv_icmp_lt C.1.1 C.1.2.1 hdg ht (fun h => k h g p l e R s m args below meth c cells slots Z Yy C Rt Ex H locs lsA hv hP hS) (fun h => k2 h g p l e R s m args below meth c cells slots Z Yy C Rt Ex H locs lsA hv hP hS)
theorem JX_icmp_gt {b : jMI} {Y : jG → Launch → State → Prop} {E : Nat → List (Nat × Value) → List Value → jPS → Prop} {d kc ks : Nat} {Q : Option Value → jPS → Prop} {pc : Nat} {ls : List (Nat × Value)} {st : List Value} {S : jPS} {x y : Int32} {off : Int} {tgt : Nat} (hdg : decode b.2.2.1 pc = .ok (.if_icmp .gt off, 3)) (ht : (pc : Int) + off = (tgt : Int)) (k : y < x → JX b d kc ks Y E Q tgt ls st S) (k2 : ¬ y < x → JX b d kc ks Y E Q (pc + 3) ls st S) : JX b d kc ks Y E Q pc ls (.int y :: .int x :: st) S := by
  intro g p l e R s m args below meth c cells slots Z Yy C Rt Ex H locs lsA hv hP hS
  exact lv_icmp_gt C.1.1 C.1.2.1 hdg ht (fun h => k h g p l e R s m args below meth c cells slots Z Yy C Rt Ex H locs lsA hv hP hS) (fun h => k2 h g p l e R s m args below meth c cells slots Z Yy C Rt Ex H locs lsA hv hP hS)
theorem JX_goto {b : jMI} {Y : jG → Launch → State → Prop} {E : Nat → List (Nat × Value) → List Value → jPS → Prop} {d kc ks : Nat} {Q : Option Value → jPS → Prop} {pc : Nat} {ls : List (Nat × Value)} {st : List Value} {S : jPS} {off : Int} {tgt : Nat} (hdg : decode b.2.2.1 pc = .ok (.goto off, 3)) (ht : (pc : Int) + off = (tgt : Int)) (k : JX b d kc ks Y E Q tgt ls (st) S) : JX b d kc ks Y E Q pc ls (st) S := by
  intro g p l e R s m args below meth c cells slots Z Yy C Rt Ex H locs lsA hv hP hS
  exact lv_goto C.1.1 C.1.2.1 hdg ht (k g p l e R s m args below meth c cells slots Z Yy C Rt Ex H locs lsA hv hP hS)
theorem JX_tableIn {b : jMI} {Y : jG → Launch → State → Prop} {E : Nat → List (Nat × Value) → List Value → jPS → Prop} {d kc ks : Nat} {Q : Option Value → jPS → Prop} {pc : Nat} {ls : List (Nat × Value)} {st : List Value} {S : jPS} {x : Int32} {dflt lo hi : Int} {offs : Array Int} {len : Nat} {off : Int} {tgt : Nat} (hdg : decode b.2.2.1 pc = .ok (.tableswitch dflt lo hi offs, len)) (h1 : ¬ x.toInt < lo) (h2 : ¬ hi < x.toInt) (ho : offs[(x.toInt - lo).toNat]? = some off) (ht : (pc : Int) + off = (tgt : Int)) (k : JX b d kc ks Y E Q tgt ls (st) S) : JX b d kc ks Y E Q pc ls (.int x :: st) S := by
  intro g p l e R s m args below meth c cells slots Z Yy C Rt Ex H locs lsA hv hP hS
  exact lv_tableIn C.1.1 C.1.2.1 hdg h1 h2 ho ht (k g p l e R s m args below meth c cells slots Z Yy C Rt Ex H locs lsA hv hP hS)
theorem JX_tableOut {b : jMI} {Y : jG → Launch → State → Prop} {E : Nat → List (Nat × Value) → List Value → jPS → Prop} {d kc ks : Nat} {Q : Option Value → jPS → Prop} {pc : Nat} {ls : List (Nat × Value)} {st : List Value} {S : jPS} {x : Int32} {dflt lo hi : Int} {offs : Array Int} {len : Nat} {tgt : Nat} (hdg : decode b.2.2.1 pc = .ok (.tableswitch dflt lo hi offs, len)) (h1 : x.toInt < lo ∨ hi < x.toInt) (ht : (pc : Int) + dflt = (tgt : Int)) (k : JX b d kc ks Y E Q tgt ls (st) S) : JX b d kc ks Y E Q pc ls (.int x :: st) S := by
  intro g p l e R s m args below meth c cells slots Z Yy C Rt Ex H locs lsA hv hP hS
  exact lv_tableOut C.1.1 C.1.2.1 hdg h1 ht (k g p l e R s m args below meth c cells slots Z Yy C Rt Ex H locs lsA hv hP hS)
theorem JX_getI {b : jMI} {Y : jG → Launch → State → Prop} {E : Nat → List (Nat × Value) → List Value → jPS → Prop} {d kc ks : Nat} {Q : Option Value → jPS → Prop} {pc : Nat} {ls : List (Nat × Value)} {st : List Value} {S : jPS} {idx ci j k : Nat}  (hF : jGF b.1 idx ci j 0) (hdg : decode b.2.2.1 pc = .ok (.getfield idx, 3)) (hk : (S.1.1 k).1 = ci) (hn : k < S.1.2) (K : JX b d kc ks Y E Q (pc + 3) ls (.int (S.2.1 k j) :: st) S) : JX b d kc ks Y E Q pc ls (.ref k :: st) S := by
  intro g p l e R s m args below meth c cells slots Z Yy C Rt Ex H locs lsA hv hP hS
  obtain ⟨ref, Cn, T, N, ⟨c1, c2, c3, c4, c5, c6⟩, hj, ht, hl, hs⟩ := hF
  have he : (jws g S)[k]? = some (jad g k, .inr (ci, (List.range (jnf ci)).map (fun j => jfv g S.2 (jcode (jty ci j)) k j))) := by rw [jmem_ws hP hn, jent_obj hk c2]
  have hfv : jfv g S.2 (jcode (jty ci j)) k j = .int (S.2.1 k j) := by
    rw [ht]
    exact rfl
  refine va_get C.1.1 C.1.2.1 C.1.2.2.2.2 c4 C.1.2.2.2.1 C.2.1.1 hP.1 k he c1 j hj (C.1.2.2.2.2 _ hl) (jsame C.1.2.2.2.2 hs) ((jflds (by rw [c3]; exact hj)).trans (congrArg some hfv)) hdg (K g p l e R s m args below meth c cells slots Z Yy C Rt Ex H locs lsA hv hP hS)
theorem JX_getR {b : jMI} {Y : jG → Launch → State → Prop} {E : Nat → List (Nat × Value) → List Value → jPS → Prop} {d kc ks : Nat} {Q : Option Value → jPS → Prop} {pc : Nat} {ls : List (Nat × Value)} {st : List Value} {S : jPS} {idx ci j k : Nat} {q : Nat} (hq : S.2.2.2 k j = some q) (hF : jGF b.1 idx ci j 2) (hdg : decode b.2.2.1 pc = .ok (.getfield idx, 3)) (hk : (S.1.1 k).1 = ci) (hn : k < S.1.2) (K : JX b d kc ks Y E Q (pc + 3) ls (.ref q :: st) S) : JX b d kc ks Y E Q pc ls (.ref k :: st) S := by
  intro g p l e R s m args below meth c cells slots Z Yy C Rt Ex H locs lsA hv hP hS
  obtain ⟨ref, Cn, T, N, ⟨c1, c2, c3, c4, c5, c6⟩, hj, ht, hl, hs⟩ := hF
  have he : (jws g S)[k]? = some (jad g k, .inr (ci, (List.range (jnf ci)).map (fun j => jfv g S.2 (jcode (jty ci j)) k j))) := by rw [jmem_ws hP hn, jent_obj hk c2]
  have hfv : jfv g S.2 (jcode (jty ci j)) k j = .ref (jad g q) := by
    rw [ht]
    exact by unfold jfv; rw [if_neg (by decide), if_neg (by decide), hq]; rfl
  refine va_get C.1.1 C.1.2.1 C.1.2.2.2.2 c4 C.1.2.2.2.1 C.2.1.1 hP.1 k he c1 j hj (C.1.2.2.2.2 _ hl) (jsame C.1.2.2.2.2 hs) ((jflds (by rw [c3]; exact hj)).trans (congrArg some hfv)) hdg (K g p l e R s m args below meth c cells slots Z Yy C Rt Ex H locs lsA hv hP hS)
theorem JX_iald {b : jMI} {Y : jG → Launch → State → Prop} {E : Nat → List (Nat × Value) → List Value → jPS → Prop} {d kc ks : Nat} {Q : Option Value → jPS → Prop} {pc : Nat} {ls : List (Nat × Value)} {st : List Value} {S : jPS} {k n : Nat} {i : Int32} (hdg : decode b.2.2.1 pc = .ok (.iaload, 1)) (hk : S.1.1 k = (14, n)) (hn : k < S.1.2) (hin : vp_in i n) (K : JX b d kc ks Y E Q (pc + 1) ls (.int (S.2.1 k i.toNatClampNeg) :: st) S) : JX b d kc ks Y E Q pc ls (.int i :: .ref k :: st) S := by
  intro g p l e R s m args below meth c cells slots Z Yy C Rt Ex H locs lsA hv hP hS
  exact va_iald C.1.1 C.1.2.1 C.2.1.1 hP.1 k 1 (by rw [jmem_ws hP hn, jent_arr hk (by decide)]; rfl) rfl hin hdg (K g p l e R s m args below meth c cells slots Z Yy C Rt Ex H locs lsA hv hP hS)
theorem JX_lald {b : jMI} {Y : jG → Launch → State → Prop} {E : Nat → List (Nat × Value) → List Value → jPS → Prop} {d kc ks : Nat} {Q : Option Value → jPS → Prop} {pc : Nat} {ls : List (Nat × Value)} {st : List Value} {S : jPS} {k n : Nat} {i : Int32} (hdg : decode b.2.2.1 pc = .ok (.laload, 1)) (hk : S.1.1 k = (15, n)) (hn : k < S.1.2) (hin : vp_in i n) (K : JX b d kc ks Y E Q (pc + 1) ls (.long (S.2.2.1 k i.toNatClampNeg) :: st) S) : JX b d kc ks Y E Q pc ls (.int i :: .ref k :: st) S := by
  intro g p l e R s m args below meth c cells slots Z Yy C Rt Ex H locs lsA hv hP hS
  exact va_lald C.1.1 C.1.2.1 C.2.1.1 hP.1 k 2 (by rw [jmem_ws hP hn, jent_arr hk (by decide)]; rfl) rfl hin hdg (K g p l e R s m args below meth c cells slots Z Yy C Rt Ex H locs lsA hv hP hS)
theorem JX_aald {b : jMI} {Y : jG → Launch → State → Prop} {E : Nat → List (Nat × Value) → List Value → jPS → Prop} {d kc ks : Nat} {Q : Option Value → jPS → Prop} {pc : Nat} {ls : List (Nat × Value)} {st : List Value} {S : jPS} {k n kd q : Nat} {i : Int32} (hdg : decode b.2.2.1 pc = .ok (.aaload, 1)) (hk : S.1.1 k = (kd, n)) (hkd : 17 ≤ kd ∧ kd ≤ 22) (hn : k < S.1.2) (hin : vp_in i n) (hq : S.2.2.2 k i.toNatClampNeg = some q) (K : JX b d kc ks Y E Q (pc + 1) ls (.ref q :: st) S) : JX b d kc ks Y E Q pc ls (.int i :: .ref k :: st) S := by
  intro g p l e R s m args below meth c cells slots Z Yy C Rt Ex H locs lsA hv hP hS
  have hlt : i.toNatClampNeg < n := Nat.not_le.mp fun q => hin (Or.inr q)
  have he : (jws g S)[k]? = some (jad g k, .inl (g.2.2.1 kd, n, .inr (.inr (.inr (.inr (fun j => (S.2.2.2 k j).map (jad g))))))) := by
    rw [jmem_ws hP hn, jent_arr hk (by omega)]
    unfold jar
    rw [if_neg (by omega), if_neg (by omega)]
  obtain ⟨t0, ty, ht, hty⟩ : ∃ (t0 : Nat) (ty : FieldType), (jtys g)[t0]? = some (g.2.2.1 kd, ty) ∧ ty.isReference = true := by
    rcases (by omega : kd = 17 ∨ kd = 18 ∨ kd = 19 ∨ kd = 20 ∨ kd = 21 ∨ kd = 22) with rfl | rfl | rfl | rfl | rfl | rfl
    · exact ⟨4, _, rfl, rfl⟩
    · exact ⟨5, _, rfl, rfl⟩
    · exact ⟨6, _, rfl, rfl⟩
    · exact ⟨7, _, rfl, rfl⟩
    · exact ⟨8, _, rfl, rfl⟩
    · exact ⟨9, _, rfl, rfl⟩
  exact W.aald (v := .ref (jad g q)) (ty := ty) C.1.1 C.1.2.1 (hP.1 k _ he) ((C.2.1.1.2 t0 _ ht).1 n (fun j => va_rf ((S.2.2.2 k j).map (jad g)))) hty (fun q => by cases q) (by show ¬ (i < 0 ∨ (arrV _ _ _).slots.size ≤ _); rw [arrV_size]; exact hin) (by show (arrV _ _ _).slots[_]? = _; rw [arrV_read _ _ hlt]; show some (va_rf (Option.map (jad g) (S.2.2.2 k i.toNatClampNeg))) = _; rw [hq]; rfl) rfl rfl hdg (K g p l e R s m args below meth c cells slots Z Yy C Rt Ex H locs lsA hv hP hS)
theorem JX_ls {b : jMI} {Y : jG → Launch → State → Prop} {E : Nat → List (Nat × Value) → List Value → jPS → Prop} {d kc ks : Nat} {Q : Option Value → jPS → Prop} {pc : Nat} {ls ls' : List (Nat × Value)} {st : List Value} {S : jPS} (h : ∀ q ∈ ls', q ∈ ls) (k : JX b d kc ks Y E Q pc ls' st S) : JX b d kc ks Y E Q pc ls st S := by
  intro g p l e R s m args below meth c cells slots Z Yy C Rt Ex H locs lsA hv hP hS
  exact k g p l e R s m args below meth c cells slots Z Yy C Rt Ex H locs lsA (jlv_sub hv h) hP hS
theorem JX_pick {b : jMI} {Y : jG → Launch → State → Prop} {E : Nat → List (Nat × Value) → List Value → jPS → Prop} {d kc ks : Nat} {Q : Option Value → jPS → Prop} {pc : Nat} {ls ls' : List (Nat × Value)} {st : List Value} {S : jPS} (is : List Nat) (h : lv_pick ls is = ls') (k : JX b d kc ks Y E Q pc ls' st S) : JX b d kc ks Y E Q pc ls st S := by
  refine JX_ls (fun q hq => ?_) k
  rw [← h] at hq
  obtain ⟨i, -, hi⟩ := List.mem_filterMap.mp hq
  exact List.mem_of_getElem? hi
set_option maxHeartbeats 4000000 in
theorem JX_callV {b b' : jMI} {Y : jG → Launch → State → Prop} {E : Nat → List (Nat × Value) → List Value → jPS → Prop} {d d' kc ks : Nat} {Q Q' : Option Value → jPS → Prop} {pc idx n ci r : Nat} {ls : List (Nat × Value)} {As st : List Value} {S : jPS} {T : u_T} {N : Nat}
    (hc : jCV b.1 idx b' n) (hdg : decode b.2.2.1 pc = .ok (.invokevirtual idx, 3)) (hci : vwCl[ci]? = some (b'.1, T, N)) (hc13 : ci < 13) (hn : As.length = n) (hw : (st.map (fun v => v.category)).sum ≤ 8) (hA : (lg_sl (.ref r :: As)).length ≤ b'.2.2.2.1) (hd : d' + 1 ≤ d) (hr : r < S.1.2) (hk : (S.1.1 r).1 = ci)
    (hJ : J b' d' 0 0 Q' 0 (lv_args 0 (.ref r :: As)) [] S) (hK : ∀ v S', Q' v S' → JX b d kc ks Y E Q (pc + 3) ls (v.toList ++ st) S') : JX b d kc ks Y E Q pc ls (As.reverse ++ .ref r :: st) S := by
  intro g p l e R s m args below meth c cells slots Z Yy C Rt Ex H locs lsA hv hP hS
  obtain ⟨⟨m1, m2, m3, m4, m5⟩, hd1, hpl, hmx⟩ := hc
  have hr6 : jad g r = g.1 + r := if_pos (Nat.lt_of_lt_of_le hr hP.2.1)
  have hrecv := va_recv C.2.1.1 hP.1 hci (he := by rw [jws_get hr]; unfold jent; rw [hk, if_pos hc13])
  have hG : GoodIn jgt (wsV b.1 idx b'.1 b'.2.1 (jyw b')) := jgt_good _ (fun w hw => by
    simp only [wsV, jyw, List.cons_append, List.nil_append, List.mem_cons] at hw
    rcases hw with rfl | rfl | rfl | rfl | rfl | hw
    · exact m1
    · exact m2
    · exact m3
    · exact m4
    · exact m5
    · exact hw)
  have run := va_runV (As := As.map (jtr g)) (rest := st.map (jtr g)) (g := F0 m pc lsA ((As.map (jtr g)).reverse ++ .ref (g.1 + r) :: st.map (jtr g))) (cells := cells) (slots := slots) (locs := locs) (below := below) (e := e) (meth := meth) C.1 (J_met (b := b') hpl hd1.1.symm hA hJ g l) (cwV n C.1.2.2.2.2 hG rfl rfl rfl hd1 (jrm_fits hd C.2.2.1.1 C.2.2.1.2 hmx)) ⟨jPc_blind _ _ _, hrecv, by
    have := jPc_of (.ref r :: As) C hP hS
    simpa [jtr, hr6] using this⟩ rfl (by rw [List.length_map]; exact hn) hv.1 rfl (by
      show 2 * 0 + _ ≤ 8
      have : (List.map (fun v => v.category) (st.map (jtr g))) = st.map (fun v => v.category) := by
        rw [List.map_map]
        exact List.map_congr_left (fun v _ => jtr_cat g v)
      rw [this]
      omega) hdg ⟨by have := C.2.2.2.1.1; omega, by have := C.2.2.2.1.2; omega⟩
  have hst : (As.reverse ++ .ref r :: st).map (jtr g) = (As.map (jtr g)).reverse ++ .ref (g.1 + r) :: st.map (jtr g) := by
    rw [List.map_append, List.map_reverse, List.map_cons]
    show _ ++ Value.ref (jad g r) :: _ = _
    rw [hr6]
  rw [hst]
  refine jcall run hS ?_
  intro v S' H1 locs1 hq hP1 hS1
  have h3 := hK v S' hq g p l e R s m args below meth c cells slots Z Yy C Rt Ex H1 locs1 lsA hv hP1 hS1
  have e3 : (v.toList ++ st).map (jtr g) = (v.map (jtr g)).toList ++ st.map (jtr g) := by
    rw [List.map_append]
    cases v <;> rfl
  rw [e3] at h3
  exact h3
