theorem J_iconst {b : jMI} {d kc ks : Nat} {Q : Option Value → jPS → Prop} {pc : Nat} {ls : List (Nat × Value)} {st : List Value} {S : jPS} {n : Int} {v : Int32} (hdg : decode b.2.2.1 pc = .ok (.iconst n, 1)) (hv0 : Int32.ofInt n = v) (k : J b d kc ks Q (pc + 1) ls (.int v :: st) S) : J b d kc ks Q pc ls (st) S := by
  intro g p l e R s m args below meth c cells slots Z C Rt H locs lsA hv hP hS
  exact lv_iconst C.1.1 C.1.2.1 hdg hv0 (k g p l e R s m args below meth c cells slots Z C Rt H locs lsA hv hP hS)

theorem J_bipush {b : jMI} {d kc ks : Nat} {Q : Option Value → jPS → Prop} {pc : Nat} {ls : List (Nat × Value)} {st : List Value} {S : jPS} {n : Int} {v : Int32} (hdg : decode b.2.2.1 pc = .ok (.bipush n, 2)) (hv0 : (Int8.ofInt n).toInt32 = v) (k : J b d kc ks Q (pc + 2) ls (.int v :: st) S) : J b d kc ks Q pc ls (st) S := by
  intro g p l e R s m args below meth c cells slots Z C Rt H locs lsA hv hP hS
  exact lv_bipush C.1.1 C.1.2.1 hdg hv0 (k g p l e R s m args below meth c cells slots Z C Rt H locs lsA hv hP hS)

theorem J_sipush {b : jMI} {d kc ks : Nat} {Q : Option Value → jPS → Prop} {pc : Nat} {ls : List (Nat × Value)} {st : List Value} {S : jPS} {n : Int} {v : Int32} (hdg : decode b.2.2.1 pc = .ok (.sipush n, 3)) (hv0 : (Int16.ofInt n).toInt32 = v) (k : J b d kc ks Q (pc + 3) ls (.int v :: st) S) : J b d kc ks Q pc ls (st) S := by
  intro g p l e R s m args below meth c cells slots Z C Rt H locs lsA hv hP hS
  exact lv_sipush C.1.1 C.1.2.1 hdg hv0 (k g p l e R s m args below meth c cells slots Z C Rt H locs lsA hv hP hS)

theorem J_lconst {b : jMI} {d kc ks : Nat} {Q : Option Value → jPS → Prop} {pc : Nat} {ls : List (Nat × Value)} {st : List Value} {S : jPS} {n : Fin 2} {v : Int64} (hdg : decode b.2.2.1 pc = .ok (.lconst n, 1)) (hv0 : Int64.ofNat (n : Nat) = v) (k : J b d kc ks Q (pc + 1) ls (.long v :: st) S) : J b d kc ks Q pc ls (st) S := by
  intro g p l e R s m args below meth c cells slots Z C Rt H locs lsA hv hP hS
  exact lv_lconst C.1.1 C.1.2.1 hdg hv0 (k g p l e R s m args below meth c cells slots Z C Rt H locs lsA hv hP hS)

theorem J_ldc {b : jMI} {d kc ks : Nat} {Q : Option Value → jPS → Prop} {pc : Nat} {ls : List (Nat × Value)} {st : List Value} {S : jPS} {i : Nat} {v : Int32} (hdg : decode b.2.2.1 pc = .ok (.ldc i, 2)) (hc : Cond.constant b.1 i v ∈ jgt) (k : J b d kc ks Q (pc + 2) ls (.int v :: st) S) : J b d kc ks Q pc ls (st) S := by
  intro g p l e R s m args below meth c cells slots Z C Rt H locs lsA hv hP hS
  exact lv_ldc C.1.1 C.1.2.1 C.1.2.2.2.1 (C.1.2.2.2.2 _ hc) hdg (k g p l e R s m args below meth c cells slots Z C Rt H locs lsA hv hP hS)

theorem J_ldcw {b : jMI} {d kc ks : Nat} {Q : Option Value → jPS → Prop} {pc : Nat} {ls : List (Nat × Value)} {st : List Value} {S : jPS} {i : Nat} {v : Int32} (hdg : decode b.2.2.1 pc = .ok (.ldc_w i, 3)) (hc : Cond.constant b.1 i v ∈ jgt) (k : J b d kc ks Q (pc + 3) ls (.int v :: st) S) : J b d kc ks Q pc ls (st) S := by
  intro g p l e R s m args below meth c cells slots Z C Rt H locs lsA hv hP hS
  exact lv_ldcw C.1.1 C.1.2.1 C.1.2.2.2.1 (C.1.2.2.2.2 _ hc) hdg (k g p l e R s m args below meth c cells slots Z C Rt H locs lsA hv hP hS)

theorem J_ldc2 {b : jMI} {d kc ks : Nat} {Q : Option Value → jPS → Prop} {pc : Nat} {ls : List (Nat × Value)} {st : List Value} {S : jPS} {i : Nat} {v : Int64} (hdg : decode b.2.2.1 pc = .ok (.ldc2_w i, 3)) (hc : Cond.constantLong b.1 i v ∈ jgt) (k : J b d kc ks Q (pc + 3) ls (.long v :: st) S) : J b d kc ks Q pc ls (st) S := by
  intro g p l e R s m args below meth c cells slots Z C Rt H locs lsA hv hP hS
  exact lv_ldc2 C.1.1 C.1.2.1 C.1.2.2.2.1 (C.1.2.2.2.2 _ hc) hdg (k g p l e R s m args below meth c cells slots Z C Rt H locs lsA hv hP hS)

theorem J_null {b : jMI} {d kc ks : Nat} {Q : Option Value → jPS → Prop} {pc : Nat} {ls : List (Nat × Value)} {st : List Value} {S : jPS}  (hdg : decode b.2.2.1 pc = .ok (.aconst_null, 1)) (k : J b d kc ks Q (pc + 1) ls (.null :: st) S) : J b d kc ks Q pc ls (st) S := by
  intro g p l e R s m args below meth c cells slots Z C Rt H locs lsA hv hP hS
  exact lv_null C.1.1 C.1.2.1 hdg (k g p l e R s m args below meth c cells slots Z C Rt H locs lsA hv hP hS)

theorem J_iload_n {b : jMI} {d kc ks : Nat} {Q : Option Value → jPS → Prop} {pc : Nat} {ls : List (Nat × Value)} {st : List Value} {S : jPS} {i : Fin 4} {x : Int32} (q : Nat) (hdg : decode b.2.2.1 pc = .ok (.iload_n i, 1)) (hl : ls[q]? = some ((i : Nat), Value.int x)) (k : J b d kc ks Q (pc + 1) ls (.int x :: st) S) : J b d kc ks Q pc ls (st) S := by
  intro g p l e R s m args below meth c cells slots Z C Rt H locs lsA hv hP hS
  exact lv_iload_n C.1.1 C.1.2.1 hdg rfl (jlv_at hv hl) (k g p l e R s m args below meth c cells slots Z C Rt H locs lsA hv hP hS)

theorem J_iload {b : jMI} {d kc ks : Nat} {Q : Option Value → jPS → Prop} {pc : Nat} {ls : List (Nat × Value)} {st : List Value} {S : jPS} {i : Nat} {x : Int32} (q : Nat) (hdg : decode b.2.2.1 pc = .ok (.iload i, 2)) (hl : ls[q]? = some (i, Value.int x)) (k : J b d kc ks Q (pc + 2) ls (.int x :: st) S) : J b d kc ks Q pc ls (st) S := by
  intro g p l e R s m args below meth c cells slots Z C Rt H locs lsA hv hP hS
  exact lv_iload C.1.1 C.1.2.1 hdg (jlv_at hv hl) (k g p l e R s m args below meth c cells slots Z C Rt H locs lsA hv hP hS)

theorem J_lload_n {b : jMI} {d kc ks : Nat} {Q : Option Value → jPS → Prop} {pc : Nat} {ls : List (Nat × Value)} {st : List Value} {S : jPS} {i : Fin 4} {x : Int64} (q : Nat) (hdg : decode b.2.2.1 pc = .ok (.lload_n i, 1)) (hl : ls[q]? = some ((i : Nat), Value.long x)) (k : J b d kc ks Q (pc + 1) ls (.long x :: st) S) : J b d kc ks Q pc ls (st) S := by
  intro g p l e R s m args below meth c cells slots Z C Rt H locs lsA hv hP hS
  exact lv_lload_n C.1.1 C.1.2.1 hdg rfl (jlv_at hv hl) (k g p l e R s m args below meth c cells slots Z C Rt H locs lsA hv hP hS)

theorem J_lload {b : jMI} {d kc ks : Nat} {Q : Option Value → jPS → Prop} {pc : Nat} {ls : List (Nat × Value)} {st : List Value} {S : jPS} {i : Nat} {x : Int64} (q : Nat) (hdg : decode b.2.2.1 pc = .ok (.lload i, 2)) (hl : ls[q]? = some (i, Value.long x)) (k : J b d kc ks Q (pc + 2) ls (.long x :: st) S) : J b d kc ks Q pc ls (st) S := by
  intro g p l e R s m args below meth c cells slots Z C Rt H locs lsA hv hP hS
  exact lv_lload C.1.1 C.1.2.1 hdg (jlv_at hv hl) (k g p l e R s m args below meth c cells slots Z C Rt H locs lsA hv hP hS)

theorem J_aload_n {b : jMI} {d kc ks : Nat} {Q : Option Value → jPS → Prop} {pc : Nat} {ls : List (Nat × Value)} {st : List Value} {S : jPS} {i : Fin 4} {x : Nat} (q : Nat) (hdg : decode b.2.2.1 pc = .ok (.aload_n i, 1)) (hl : ls[q]? = some ((i : Nat), Value.ref x)) (k : J b d kc ks Q (pc + 1) ls (.ref x :: st) S) : J b d kc ks Q pc ls (st) S := by
  intro g p l e R s m args below meth c cells slots Z C Rt H locs lsA hv hP hS
  exact lv_aload_n C.1.1 C.1.2.1 hdg rfl (jlv_at hv hl) (k g p l e R s m args below meth c cells slots Z C Rt H locs lsA hv hP hS)

theorem J_aload {b : jMI} {d kc ks : Nat} {Q : Option Value → jPS → Prop} {pc : Nat} {ls : List (Nat × Value)} {st : List Value} {S : jPS} {i : Nat} {x : Nat} (q : Nat) (hdg : decode b.2.2.1 pc = .ok (.aload i, 2)) (hl : ls[q]? = some (i, Value.ref x)) (k : J b d kc ks Q (pc + 2) ls (.ref x :: st) S) : J b d kc ks Q pc ls (st) S := by
  intro g p l e R s m args below meth c cells slots Z C Rt H locs lsA hv hP hS
  exact lv_aload C.1.1 C.1.2.1 hdg (jlv_at hv hl) (k g p l e R s m args below meth c cells slots Z C Rt H locs lsA hv hP hS)

theorem jlv_filter (g : jG) (ls : List (Nat × Value)) (f : Nat → Nat → Bool) : (jlv g ls).filter (fun q => f q.1 q.2.category) = jlv g (ls.filter (fun q => f q.1 q.2.category)) := by
  unfold jlv
  rw [List.filter_map]
  congr 1
  apply List.filter_congr
  intro q _
  show f q.1 (jtr g q.2).category = _
  rw [jtr_cat]

theorem J_istore_n {b : jMI} {d kc ks : Nat} {Q : Option Value → jPS → Prop} {pc : Nat} {ls : List (Nat × Value)} {st : List Value} {S : jPS} {j : Fin 4} {i : Nat} {x : Int32} {ls' : List (Nat × Value)} (hdg : decode b.2.2.1 pc = .ok (.istore_n j, 1)) (hi : (j : Nat) = i) (hn : i < b.2.2.2.1) (hl : (i, Value.int x) :: ls.filter (fun q => !(q.1 == i) && !(q.1 + 1 == i && q.2.category == 2)) = ls') (k : J b d kc ks Q (pc + 1) ls' st S) : J b d kc ks Q pc ls (.int x :: st) S := by
  intro g p l e R s m args below meth c cells slots Z C Rt H locs lsA hv hP hS
  refine lv_istore_n (lv' := jlv g ls') C.1.1 C.1.2.1 hdg hi hv hn ?_ (fun lsB hB => k g p l e R s m args below meth c cells slots Z C Rt H locs lsB hB hP hS)
  rw [← hl]
  show _ :: _ = _ :: _
  congr 1
  exact jlv_filter g ls (fun a t => !(a == i) && !(a + 1 == i && t == 2))

theorem J_istore {b : jMI} {d kc ks : Nat} {Q : Option Value → jPS → Prop} {pc : Nat} {ls : List (Nat × Value)} {st : List Value} {S : jPS}  {i : Nat} {x : Int32} {ls' : List (Nat × Value)} (hdg : decode b.2.2.1 pc = .ok (.istore i, 2))  (hn : i < b.2.2.2.1) (hl : (i, Value.int x) :: ls.filter (fun q => !(q.1 == i) && !(q.1 + 1 == i && q.2.category == 2)) = ls') (k : J b d kc ks Q (pc + 2) ls' st S) : J b d kc ks Q pc ls (.int x :: st) S := by
  intro g p l e R s m args below meth c cells slots Z C Rt H locs lsA hv hP hS
  refine lv_istore (lv' := jlv g ls') C.1.1 C.1.2.1 hdg hv hn ?_ (fun lsB hB => k g p l e R s m args below meth c cells slots Z C Rt H locs lsB hB hP hS)
  rw [← hl]
  show _ :: _ = _ :: _
  congr 1
  exact jlv_filter g ls (fun a t => !(a == i) && !(a + 1 == i && t == 2))

theorem J_astore_n {b : jMI} {d kc ks : Nat} {Q : Option Value → jPS → Prop} {pc : Nat} {ls : List (Nat × Value)} {st : List Value} {S : jPS} {j : Fin 4} {i : Nat} {x : Nat} {ls' : List (Nat × Value)} (hdg : decode b.2.2.1 pc = .ok (.astore_n j, 1)) (hi : (j : Nat) = i) (hn : i < b.2.2.2.1) (hl : (i, Value.ref x) :: ls.filter (fun q => !(q.1 == i) && !(q.1 + 1 == i && q.2.category == 2)) = ls') (k : J b d kc ks Q (pc + 1) ls' st S) : J b d kc ks Q pc ls (.ref x :: st) S := by
  intro g p l e R s m args below meth c cells slots Z C Rt H locs lsA hv hP hS
  refine lv_astore_n (lv' := jlv g ls') C.1.1 C.1.2.1 hdg hi hv hn ?_ (fun lsB hB => k g p l e R s m args below meth c cells slots Z C Rt H locs lsB hB hP hS)
  rw [← hl]
  show _ :: _ = _ :: _
  congr 1
  exact jlv_filter g ls (fun a t => !(a == i) && !(a + 1 == i && t == 2))

theorem J_astore {b : jMI} {d kc ks : Nat} {Q : Option Value → jPS → Prop} {pc : Nat} {ls : List (Nat × Value)} {st : List Value} {S : jPS}  {i : Nat} {x : Nat} {ls' : List (Nat × Value)} (hdg : decode b.2.2.1 pc = .ok (.astore i, 2))  (hn : i < b.2.2.2.1) (hl : (i, Value.ref x) :: ls.filter (fun q => !(q.1 == i) && !(q.1 + 1 == i && q.2.category == 2)) = ls') (k : J b d kc ks Q (pc + 2) ls' st S) : J b d kc ks Q pc ls (.ref x :: st) S := by
  intro g p l e R s m args below meth c cells slots Z C Rt H locs lsA hv hP hS
  refine lv_astore (lv' := jlv g ls') C.1.1 C.1.2.1 hdg hv hn ?_ (fun lsB hB => k g p l e R s m args below meth c cells slots Z C Rt H locs lsB hB hP hS)
  rw [← hl]
  show _ :: _ = _ :: _
  congr 1
  exact jlv_filter g ls (fun a t => !(a == i) && !(a + 1 == i && t == 2))

theorem J_lstore_n {b : jMI} {d kc ks : Nat} {Q : Option Value → jPS → Prop} {pc : Nat} {ls : List (Nat × Value)} {st : List Value} {S : jPS} {j : Fin 4} {i : Nat} {x : Int64} {ls' : List (Nat × Value)} (hdg : decode b.2.2.1 pc = .ok (.lstore_n j, 1)) (hi : (j : Nat) = i) (hn : i + 1 < b.2.2.2.1) (hl : (i, Value.long x) :: ls.filter (fun q => !(q.1 == i) && (!(q.1 == i + 1) && !(q.1 + 1 == i && q.2.category == 2))) = ls') (k : J b d kc ks Q (pc + 1) ls' st S) : J b d kc ks Q pc ls (.long x :: st) S := by
  intro g p l e R s m args below meth c cells slots Z C Rt H locs lsA hv hP hS
  refine lv_lstore_n (lv' := jlv g ls') C.1.1 C.1.2.1 hdg hi hv hn ?_ (fun lsB hB => k g p l e R s m args below meth c cells slots Z C Rt H locs lsB hB hP hS)
  rw [← hl]
  show _ :: _ = _ :: _
  congr 1
  exact jlv_filter g ls (fun a t => !(a == i) && (!(a == i + 1) && !(a + 1 == i && t == 2)))

theorem J_lstore {b : jMI} {d kc ks : Nat} {Q : Option Value → jPS → Prop} {pc : Nat} {ls : List (Nat × Value)} {st : List Value} {S : jPS}  {i : Nat} {x : Int64} {ls' : List (Nat × Value)} (hdg : decode b.2.2.1 pc = .ok (.lstore i, 2))  (hn : i + 1 < b.2.2.2.1) (hl : (i, Value.long x) :: ls.filter (fun q => !(q.1 == i) && (!(q.1 == i + 1) && !(q.1 + 1 == i && q.2.category == 2))) = ls') (k : J b d kc ks Q (pc + 2) ls' st S) : J b d kc ks Q pc ls (.long x :: st) S := by
  intro g p l e R s m args below meth c cells slots Z C Rt H locs lsA hv hP hS
  refine lv_lstore (lv' := jlv g ls') C.1.1 C.1.2.1 hdg hv hn ?_ (fun lsB hB => k g p l e R s m args below meth c cells slots Z C Rt H locs lsB hB hP hS)
  rw [← hl]
  show _ :: _ = _ :: _
  congr 1
  exact jlv_filter g ls (fun a t => !(a == i) && (!(a == i + 1) && !(a + 1 == i && t == 2)))

theorem J_iinc {b : jMI} {d kc ks : Nat} {Q : Option Value → jPS → Prop} {pc : Nat} {ls : List (Nat × Value)} {st : List Value} {S : jPS} {i : Nat} {n : Int} {x v : Int32} {ls' : List (Nat × Value)} (q : Nat) (hdg : decode b.2.2.1 pc = .ok (.iinc i n, 3)) (hk : ls[q]? = some (i, Value.int x)) (hv0 : x + Int32.ofInt n = v) (hn : i < b.2.2.2.1) (hl : (i, Value.int v) :: ls.filter (fun q => !(q.1 == i) && !(q.1 + 1 == i && q.2.category == 2)) = ls') (k : J b d kc ks Q (pc + 3) ls' st S) : J b d kc ks Q pc ls st S := by
  intro g p l e R s m args below meth c cells slots Z C Rt H locs lsA hv hP hS
  refine lv_iinc (lv' := jlv g ls') (k := q) (x := x) C.1.1 C.1.2.1 hdg hv (by unfold jlv; rw [List.getElem?_map, hk]; rfl) hv0 hn ?_ (fun lsB hB => k g p l e R s m args below meth c cells slots Z C Rt H locs lsB hB hP hS)
  rw [← hl]
  show _ :: _ = _ :: _
  congr 1
  exact jlv_filter g ls (fun a t => !(a == i) && !(a + 1 == i && t == 2))

theorem J_iadd {b : jMI} {d kc ks : Nat} {Q : Option Value → jPS → Prop} {pc : Nat} {ls : List (Nat × Value)} {st : List Value} {S : jPS} {x y : Int32} (hdg : decode b.2.2.1 pc = .ok (.iadd, 1)) (k : J b d kc ks Q (pc + 1) ls (.int (x + y) :: st) S) : J b d kc ks Q pc ls (.int y :: .int x :: st) S := by
  intro g p l e R s m args below meth c cells slots Z C Rt H locs lsA hv hP hS
  exact lv_iadd C.1.1 C.1.2.1 hdg (k g p l e R s m args below meth c cells slots Z C Rt H locs lsA hv hP hS)

theorem J_isub {b : jMI} {d kc ks : Nat} {Q : Option Value → jPS → Prop} {pc : Nat} {ls : List (Nat × Value)} {st : List Value} {S : jPS} {x y : Int32} (hdg : decode b.2.2.1 pc = .ok (.isub, 1)) (k : J b d kc ks Q (pc + 1) ls (.int (x - y) :: st) S) : J b d kc ks Q pc ls (.int y :: .int x :: st) S := by
  intro g p l e R s m args below meth c cells slots Z C Rt H locs lsA hv hP hS
  exact lv_isub C.1.1 C.1.2.1 hdg (k g p l e R s m args below meth c cells slots Z C Rt H locs lsA hv hP hS)

theorem J_imul {b : jMI} {d kc ks : Nat} {Q : Option Value → jPS → Prop} {pc : Nat} {ls : List (Nat × Value)} {st : List Value} {S : jPS} {x y : Int32} (hdg : decode b.2.2.1 pc = .ok (.imul, 1)) (k : J b d kc ks Q (pc + 1) ls (.int (x * y) :: st) S) : J b d kc ks Q pc ls (.int y :: .int x :: st) S := by
  intro g p l e R s m args below meth c cells slots Z C Rt H locs lsA hv hP hS
  exact lv_imul C.1.1 C.1.2.1 hdg (k g p l e R s m args below meth c cells slots Z C Rt H locs lsA hv hP hS)

theorem J_iand {b : jMI} {d kc ks : Nat} {Q : Option Value → jPS → Prop} {pc : Nat} {ls : List (Nat × Value)} {st : List Value} {S : jPS} {x y : Int32} (hdg : decode b.2.2.1 pc = .ok (.iand, 1)) (k : J b d kc ks Q (pc + 1) ls (.int (x &&& y) :: st) S) : J b d kc ks Q pc ls (.int y :: .int x :: st) S := by
  intro g p l e R s m args below meth c cells slots Z C Rt H locs lsA hv hP hS
  exact lv_iand C.1.1 C.1.2.1 hdg (k g p l e R s m args below meth c cells slots Z C Rt H locs lsA hv hP hS)

theorem J_ior {b : jMI} {d kc ks : Nat} {Q : Option Value → jPS → Prop} {pc : Nat} {ls : List (Nat × Value)} {st : List Value} {S : jPS} {x y : Int32} (hdg : decode b.2.2.1 pc = .ok (.ior, 1)) (k : J b d kc ks Q (pc + 1) ls (.int (x ||| y) :: st) S) : J b d kc ks Q pc ls (.int y :: .int x :: st) S := by
  intro g p l e R s m args below meth c cells slots Z C Rt H locs lsA hv hP hS
  exact lv_ior C.1.1 C.1.2.1 hdg (k g p l e R s m args below meth c cells slots Z C Rt H locs lsA hv hP hS)

theorem J_ixor {b : jMI} {d kc ks : Nat} {Q : Option Value → jPS → Prop} {pc : Nat} {ls : List (Nat × Value)} {st : List Value} {S : jPS} {x y : Int32} (hdg : decode b.2.2.1 pc = .ok (.ixor, 1)) (k : J b d kc ks Q (pc + 1) ls (.int (x ^^^ y) :: st) S) : J b d kc ks Q pc ls (.int y :: .int x :: st) S := by
  intro g p l e R s m args below meth c cells slots Z C Rt H locs lsA hv hP hS
  exact lv_ixor C.1.1 C.1.2.1 hdg (k g p l e R s m args below meth c cells slots Z C Rt H locs lsA hv hP hS)

theorem J_ishl {b : jMI} {d kc ks : Nat} {Q : Option Value → jPS → Prop} {pc : Nat} {ls : List (Nat × Value)} {st : List Value} {S : jPS} {x y : Int32} (hdg : decode b.2.2.1 pc = .ok (.ishl, 1)) (k : J b d kc ks Q (pc + 1) ls (.int (x <<< (y &&& 31)) :: st) S) : J b d kc ks Q pc ls (.int y :: .int x :: st) S := by
  intro g p l e R s m args below meth c cells slots Z C Rt H locs lsA hv hP hS
  exact lv_ishl C.1.1 C.1.2.1 hdg (k g p l e R s m args below meth c cells slots Z C Rt H locs lsA hv hP hS)

theorem J_ishr {b : jMI} {d kc ks : Nat} {Q : Option Value → jPS → Prop} {pc : Nat} {ls : List (Nat × Value)} {st : List Value} {S : jPS} {x y : Int32} (hdg : decode b.2.2.1 pc = .ok (.ishr, 1)) (k : J b d kc ks Q (pc + 1) ls (.int (x >>> (y &&& 31)) :: st) S) : J b d kc ks Q pc ls (.int y :: .int x :: st) S := by
  intro g p l e R s m args below meth c cells slots Z C Rt H locs lsA hv hP hS
  exact lv_ishr C.1.1 C.1.2.1 hdg (k g p l e R s m args below meth c cells slots Z C Rt H locs lsA hv hP hS)

theorem J_ladd {b : jMI} {d kc ks : Nat} {Q : Option Value → jPS → Prop} {pc : Nat} {ls : List (Nat × Value)} {st : List Value} {S : jPS} {x y : Int64} (hdg : decode b.2.2.1 pc = .ok (.ladd, 1)) (k : J b d kc ks Q (pc + 1) ls (.long (x + y) :: st) S) : J b d kc ks Q pc ls (.long y :: .long x :: st) S := by
  intro g p l e R s m args below meth c cells slots Z C Rt H locs lsA hv hP hS
  exact lv_ladd C.1.1 C.1.2.1 hdg (k g p l e R s m args below meth c cells slots Z C Rt H locs lsA hv hP hS)

theorem J_lsub {b : jMI} {d kc ks : Nat} {Q : Option Value → jPS → Prop} {pc : Nat} {ls : List (Nat × Value)} {st : List Value} {S : jPS} {x y : Int64} (hdg : decode b.2.2.1 pc = .ok (.lsub, 1)) (k : J b d kc ks Q (pc + 1) ls (.long (x - y) :: st) S) : J b d kc ks Q pc ls (.long y :: .long x :: st) S := by
  intro g p l e R s m args below meth c cells slots Z C Rt H locs lsA hv hP hS
  exact lv_lsub C.1.1 C.1.2.1 hdg (k g p l e R s m args below meth c cells slots Z C Rt H locs lsA hv hP hS)

theorem J_land {b : jMI} {d kc ks : Nat} {Q : Option Value → jPS → Prop} {pc : Nat} {ls : List (Nat × Value)} {st : List Value} {S : jPS} {x y : Int64} (hdg : decode b.2.2.1 pc = .ok (.land, 1)) (k : J b d kc ks Q (pc + 1) ls (.long (x &&& y) :: st) S) : J b d kc ks Q pc ls (.long y :: .long x :: st) S := by
  intro g p l e R s m args below meth c cells slots Z C Rt H locs lsA hv hP hS
  exact lv_land C.1.1 C.1.2.1 hdg (k g p l e R s m args below meth c cells slots Z C Rt H locs lsA hv hP hS)

theorem J_lor {b : jMI} {d kc ks : Nat} {Q : Option Value → jPS → Prop} {pc : Nat} {ls : List (Nat × Value)} {st : List Value} {S : jPS} {x y : Int64} (hdg : decode b.2.2.1 pc = .ok (.lor, 1)) (k : J b d kc ks Q (pc + 1) ls (.long (x ||| y) :: st) S) : J b d kc ks Q pc ls (.long y :: .long x :: st) S := by
  intro g p l e R s m args below meth c cells slots Z C Rt H locs lsA hv hP hS
  exact lv_lor C.1.1 C.1.2.1 hdg (k g p l e R s m args below meth c cells slots Z C Rt H locs lsA hv hP hS)

theorem J_lxor {b : jMI} {d kc ks : Nat} {Q : Option Value → jPS → Prop} {pc : Nat} {ls : List (Nat × Value)} {st : List Value} {S : jPS} {x y : Int64} (hdg : decode b.2.2.1 pc = .ok (.lxor, 1)) (k : J b d kc ks Q (pc + 1) ls (.long (x ^^^ y) :: st) S) : J b d kc ks Q pc ls (.long y :: .long x :: st) S := by
  intro g p l e R s m args below meth c cells slots Z C Rt H locs lsA hv hP hS
  exact lv_lxor C.1.1 C.1.2.1 hdg (k g p l e R s m args below meth c cells slots Z C Rt H locs lsA hv hP hS)

theorem J_idiv {b : jMI} {d kc ks : Nat} {Q : Option Value → jPS → Prop} {pc : Nat} {ls : List (Nat × Value)} {st : List Value} {S : jPS} {x y : Int32} (hdg : decode b.2.2.1 pc = .ok (.idiv, 1)) (h0 : ¬ y = 0) (k : J b d kc ks Q (pc + 1) ls (.int (x / y) :: st) S) : J b d kc ks Q pc ls (.int y :: .int x :: st) S := by
  intro g p l e R s m args below meth c cells slots Z C Rt H locs lsA hv hP hS
  exact lv_idiv C.1.1 C.1.2.1 hdg h0 (k g p l e R s m args below meth c cells slots Z C Rt H locs lsA hv hP hS)

theorem J_irem {b : jMI} {d kc ks : Nat} {Q : Option Value → jPS → Prop} {pc : Nat} {ls : List (Nat × Value)} {st : List Value} {S : jPS} {x y : Int32} (hdg : decode b.2.2.1 pc = .ok (.irem, 1)) (h0 : ¬ y = 0) (k : J b d kc ks Q (pc + 1) ls (.int (x - x / y * y) :: st) S) : J b d kc ks Q pc ls (.int y :: .int x :: st) S := by
  intro g p l e R s m args below meth c cells slots Z C Rt H locs lsA hv hP hS
  exact lv_irem C.1.1 C.1.2.1 hdg h0 (k g p l e R s m args below meth c cells slots Z C Rt H locs lsA hv hP hS)

def jushr (x y : Int32) : Int32 := (x.toUInt32 >>> (y.toUInt32 &&& Int32.toUInt32 31)).toInt32
def jlushr (x : Int64) (y : Int32) : Int64 := (x.toUInt64 >>> (y.toInt64.toUInt64 &&& Int64.toUInt64 63)).toInt64
def jlshl (x : Int64) (y : Int32) : Int64 := x <<< (y.toInt64 &&& 63)

theorem J_iushr {b : jMI} {d kc ks : Nat} {Q : Option Value → jPS → Prop} {pc : Nat} {ls : List (Nat × Value)} {st : List Value} {S : jPS} {x y : Int32} (hdg : decode b.2.2.1 pc = .ok (.iushr, 1)) (k : J b d kc ks Q (pc + 1) ls (.int (jushr x y) :: st) S) : J b d kc ks Q pc ls (.int y :: .int x :: st) S := by
  intro g p l e R s m args below meth c cells slots Z C Rt H locs lsA hv hP hS
  exact lv_iushr C.1.1 C.1.2.1 hdg rfl (k g p l e R s m args below meth c cells slots Z C Rt H locs lsA hv hP hS)

theorem J_lushr {b : jMI} {d kc ks : Nat} {Q : Option Value → jPS → Prop} {pc : Nat} {ls : List (Nat × Value)} {st : List Value} {S : jPS} {x : Int64} {y : Int32} (hdg : decode b.2.2.1 pc = .ok (.lushr, 1)) (k : J b d kc ks Q (pc + 1) ls (.long (jlushr x y) :: st) S) : J b d kc ks Q pc ls (.int y :: .long x :: st) S := by
  intro g p l e R s m args below meth c cells slots Z C Rt H locs lsA hv hP hS
  exact lv_lushr C.1.1 C.1.2.1 hdg rfl (k g p l e R s m args below meth c cells slots Z C Rt H locs lsA hv hP hS)

theorem J_lshl {b : jMI} {d kc ks : Nat} {Q : Option Value → jPS → Prop} {pc : Nat} {ls : List (Nat × Value)} {st : List Value} {S : jPS} {x : Int64} {y : Int32} (hdg : decode b.2.2.1 pc = .ok (.lshl, 1)) (k : J b d kc ks Q (pc + 1) ls (.long (jlshl x y) :: st) S) : J b d kc ks Q pc ls (.int y :: .long x :: st) S := by
  intro g p l e R s m args below meth c cells slots Z C Rt H locs lsA hv hP hS
  exact lv_lshl C.1.1 C.1.2.1 hdg rfl (k g p l e R s m args below meth c cells slots Z C Rt H locs lsA hv hP hS)

theorem J_ineg {b : jMI} {d kc ks : Nat} {Q : Option Value → jPS → Prop} {pc : Nat} {ls : List (Nat × Value)} {st : List Value} {S : jPS} {x : Int32} (hdg : decode b.2.2.1 pc = .ok (.ineg, 1)) (k : J b d kc ks Q (pc + 1) ls (.int (-x) :: st) S) : J b d kc ks Q pc ls (.int x :: st) S := by
  intro g p l e R s m args below meth c cells slots Z C Rt H locs lsA hv hP hS
  exact lv_ineg C.1.1 C.1.2.1 hdg (k g p l e R s m args below meth c cells slots Z C Rt H locs lsA hv hP hS)

theorem J_lneg {b : jMI} {d kc ks : Nat} {Q : Option Value → jPS → Prop} {pc : Nat} {ls : List (Nat × Value)} {st : List Value} {S : jPS} {x : Int64} (hdg : decode b.2.2.1 pc = .ok (.lneg, 1)) (k : J b d kc ks Q (pc + 1) ls (.long (-x) :: st) S) : J b d kc ks Q pc ls (.long x :: st) S := by
  intro g p l e R s m args below meth c cells slots Z C Rt H locs lsA hv hP hS
  exact lv_lneg C.1.1 C.1.2.1 hdg (k g p l e R s m args below meth c cells slots Z C Rt H locs lsA hv hP hS)

theorem J_i2l {b : jMI} {d kc ks : Nat} {Q : Option Value → jPS → Prop} {pc : Nat} {ls : List (Nat × Value)} {st : List Value} {S : jPS} {x : Int32} (hdg : decode b.2.2.1 pc = .ok (.i2l, 1)) (k : J b d kc ks Q (pc + 1) ls (.long x.toInt64 :: st) S) : J b d kc ks Q pc ls (.int x :: st) S := by
  intro g p l e R s m args below meth c cells slots Z C Rt H locs lsA hv hP hS
  exact lv_i2l C.1.1 C.1.2.1 hdg rfl (k g p l e R s m args below meth c cells slots Z C Rt H locs lsA hv hP hS)

theorem J_l2i {b : jMI} {d kc ks : Nat} {Q : Option Value → jPS → Prop} {pc : Nat} {ls : List (Nat × Value)} {st : List Value} {S : jPS} {x : Int64} (hdg : decode b.2.2.1 pc = .ok (.l2i, 1)) (k : J b d kc ks Q (pc + 1) ls (.int x.toInt32 :: st) S) : J b d kc ks Q pc ls (.long x :: st) S := by
  intro g p l e R s m args below meth c cells slots Z C Rt H locs lsA hv hP hS
  exact lv_l2i C.1.1 C.1.2.1 hdg rfl (k g p l e R s m args below meth c cells slots Z C Rt H locs lsA hv hP hS)

theorem J_i2b {b : jMI} {d kc ks : Nat} {Q : Option Value → jPS → Prop} {pc : Nat} {ls : List (Nat × Value)} {st : List Value} {S : jPS} {x : Int32} (hdg : decode b.2.2.1 pc = .ok (.i2b, 1)) (k : J b d kc ks Q (pc + 1) ls (.int x.toInt8.toInt32 :: st) S) : J b d kc ks Q pc ls (.int x :: st) S := by
  intro g p l e R s m args below meth c cells slots Z C Rt H locs lsA hv hP hS
  exact lv_i2b C.1.1 C.1.2.1 hdg rfl (k g p l e R s m args below meth c cells slots Z C Rt H locs lsA hv hP hS)

theorem J_i2c {b : jMI} {d kc ks : Nat} {Q : Option Value → jPS → Prop} {pc : Nat} {ls : List (Nat × Value)} {st : List Value} {S : jPS} {x : Int32} {v : Int32} (hdg : decode b.2.2.1 pc = .ok (.i2c, 1)) (hv0 : (x.toUInt32 % 65536).toInt32 = v) (k : J b d kc ks Q (pc + 1) ls (.int v :: st) S) : J b d kc ks Q pc ls (.int x :: st) S := by
  intro g p l e R s m args below meth c cells slots Z C Rt H locs lsA hv hP hS
  exact lv_i2c C.1.1 C.1.2.1 hdg hv0 (k g p l e R s m args below meth c cells slots Z C Rt H locs lsA hv hP hS)

theorem J_lcmp {b : jMI} {d kc ks : Nat} {Q : Option Value → jPS → Prop} {pc : Nat} {ls : List (Nat × Value)} {st : List Value} {S : jPS} {x y : Int64} (hdg : decode b.2.2.1 pc = .ok (.lcmp, 1)) (k : J b d kc ks Q (pc + 1) ls (.int (lg_cmp x y) :: st) S) : J b d kc ks Q pc ls (.long y :: .long x :: st) S := by
  intro g p l e R s m args below meth c cells slots Z C Rt H locs lsA hv hP hS
  exact W.lcmp C.1.1 C.1.2.1 hdg (k g p l e R s m args below meth c cells slots Z C Rt H locs lsA hv hP hS)

theorem J_dup {b : jMI} {d kc ks : Nat} {Q : Option Value → jPS → Prop} {pc : Nat} {ls : List (Nat × Value)} {st : List Value} {S : jPS} {v : Value} (hdg : decode b.2.2.1 pc = .ok (.dup, 1)) (hc : v.category = 1) (k : J b d kc ks Q (pc + 1) ls (v :: v :: st) S) : J b d kc ks Q pc ls (v :: st) S := by
  intro g p l e R s m args below meth c cells slots Z C Rt H locs lsA hv hP hS
  exact lv_dup C.1.1 C.1.2.1 hdg ((jtr_cat g v).trans hc) (k g p l e R s m args below meth c cells slots Z C Rt H locs lsA hv hP hS)

theorem J_pop {b : jMI} {d kc ks : Nat} {Q : Option Value → jPS → Prop} {pc : Nat} {ls : List (Nat × Value)} {st : List Value} {S : jPS} {v : Value} (hdg : decode b.2.2.1 pc = .ok (.pop, 1)) (hc : v.category = 1) (k : J b d kc ks Q (pc + 1) ls (st) S) : J b d kc ks Q pc ls (v :: st) S := by
  intro g p l e R s m args below meth c cells slots Z C Rt H locs lsA hv hP hS
  exact lv_pop C.1.1 C.1.2.1 hdg ((jtr_cat g v).trans hc) (k g p l e R s m args below meth c cells slots Z C Rt H locs lsA hv hP hS)

theorem J_dup2 {b : jMI} {d kc ks : Nat} {Q : Option Value → jPS → Prop} {pc : Nat} {ls : List (Nat × Value)} {st : List Value} {S : jPS} {v w : Value} (hdg : decode b.2.2.1 pc = .ok (.dup2, 1)) (hc : v.category = 1) (hc2 : w.category = 1) (k : J b d kc ks Q (pc + 1) ls (v :: w :: v :: w :: st) S) : J b d kc ks Q pc ls (v :: w :: st) S := by
  intro g p l e R s m args below meth c cells slots Z C Rt H locs lsA hv hP hS
  exact lv_dup2_11 C.1.1 C.1.2.1 hdg ((jtr_cat g v).trans hc) ((jtr_cat g w).trans hc2) (k g p l e R s m args below meth c cells slots Z C Rt H locs lsA hv hP hS)

theorem J_if_eq {b : jMI} {d kc ks : Nat} {Q : Option Value → jPS → Prop} {pc : Nat} {ls : List (Nat × Value)} {st : List Value} {S : jPS} {x : Int32} {off : Int} {tgt : Nat} (hdg : decode b.2.2.1 pc = .ok (.ifCond .eq off, 3)) (ht : (pc : Int) + off = (tgt : Int)) (k : x = 0 → J b d kc ks Q tgt ls st S) (k2 : ¬ x = 0 → J b d kc ks Q (pc + 3) ls st S) : J b d kc ks Q pc ls (.int x :: st) S := by
  intro g p l e R s m args below meth c cells slots Z C Rt H locs lsA hv hP hS
  exact lv_if_eq C.1.1 C.1.2.1 hdg ht (fun h => k h g p l e R s m args below meth c cells slots Z C Rt H locs lsA hv hP hS) (fun h => k2 h g p l e R s m args below meth c cells slots Z C Rt H locs lsA hv hP hS)

theorem J_icmp_eq {b : jMI} {d kc ks : Nat} {Q : Option Value → jPS → Prop} {pc : Nat} {ls : List (Nat × Value)} {st : List Value} {S : jPS} {x y : Int32} {off : Int} {tgt : Nat} (hdg : decode b.2.2.1 pc = .ok (.if_icmp .eq off, 3)) (ht : (pc : Int) + off = (tgt : Int)) (k : x = y → J b d kc ks Q tgt ls st S) (k2 : ¬ x = y → J b d kc ks Q (pc + 3) ls st S) : J b d kc ks Q pc ls (.int y :: .int x :: st) S := by
  intro g p l e R s m args below meth c cells slots Z C Rt H locs lsA hv hP hS
  exact lv_icmp_eq C.1.1 C.1.2.1 hdg ht (fun h => k h g p l e R s m args below meth c cells slots Z C Rt H locs lsA hv hP hS) (fun h => k2 h g p l e R s m args below meth c cells slots Z C Rt H locs lsA hv hP hS)

theorem J_if_ne {b : jMI} {d kc ks : Nat} {Q : Option Value → jPS → Prop} {pc : Nat} {ls : List (Nat × Value)} {st : List Value} {S : jPS} {x : Int32} {off : Int} {tgt : Nat} (hdg : decode b.2.2.1 pc = .ok (.ifCond .ne off, 3)) (ht : (pc : Int) + off = (tgt : Int)) (k : ¬ x = 0 → J b d kc ks Q tgt ls st S) (k2 : x = 0 → J b d kc ks Q (pc + 3) ls st S) : J b d kc ks Q pc ls (.int x :: st) S := by
  intro g p l e R s m args below meth c cells slots Z C Rt H locs lsA hv hP hS
  exact lv_if_ne C.1.1 C.1.2.1 hdg ht (fun h => k h g p l e R s m args below meth c cells slots Z C Rt H locs lsA hv hP hS) (fun h => k2 h g p l e R s m args below meth c cells slots Z C Rt H locs lsA hv hP hS)

theorem J_icmp_ne {b : jMI} {d kc ks : Nat} {Q : Option Value → jPS → Prop} {pc : Nat} {ls : List (Nat × Value)} {st : List Value} {S : jPS} {x y : Int32} {off : Int} {tgt : Nat} (hdg : decode b.2.2.1 pc = .ok (.if_icmp .ne off, 3)) (ht : (pc : Int) + off = (tgt : Int)) (k : ¬ x = y → J b d kc ks Q tgt ls st S) (k2 : x = y → J b d kc ks Q (pc + 3) ls st S) : J b d kc ks Q pc ls (.int y :: .int x :: st) S := by
  intro g p l e R s m args below meth c cells slots Z C Rt H locs lsA hv hP hS
  exact lv_icmp_ne C.1.1 C.1.2.1 hdg ht (fun h => k h g p l e R s m args below meth c cells slots Z C Rt H locs lsA hv hP hS) (fun h => k2 h g p l e R s m args below meth c cells slots Z C Rt H locs lsA hv hP hS)

theorem J_if_lt {b : jMI} {d kc ks : Nat} {Q : Option Value → jPS → Prop} {pc : Nat} {ls : List (Nat × Value)} {st : List Value} {S : jPS} {x : Int32} {off : Int} {tgt : Nat} (hdg : decode b.2.2.1 pc = .ok (.ifCond .lt off, 3)) (ht : (pc : Int) + off = (tgt : Int)) (k : x < 0 → J b d kc ks Q tgt ls st S) (k2 : ¬ x < 0 → J b d kc ks Q (pc + 3) ls st S) : J b d kc ks Q pc ls (.int x :: st) S := by
  intro g p l e R s m args below meth c cells slots Z C Rt H locs lsA hv hP hS
  exact lv_if_lt C.1.1 C.1.2.1 hdg ht (fun h => k h g p l e R s m args below meth c cells slots Z C Rt H locs lsA hv hP hS) (fun h => k2 h g p l e R s m args below meth c cells slots Z C Rt H locs lsA hv hP hS)

theorem J_icmp_lt {b : jMI} {d kc ks : Nat} {Q : Option Value → jPS → Prop} {pc : Nat} {ls : List (Nat × Value)} {st : List Value} {S : jPS} {x y : Int32} {off : Int} {tgt : Nat} (hdg : decode b.2.2.1 pc = .ok (.if_icmp .lt off, 3)) (ht : (pc : Int) + off = (tgt : Int)) (k : x < y → J b d kc ks Q tgt ls st S) (k2 : ¬ x < y → J b d kc ks Q (pc + 3) ls st S) : J b d kc ks Q pc ls (.int y :: .int x :: st) S := by
  intro g p l e R s m args below meth c cells slots Z C Rt H locs lsA hv hP hS
  exact lv_icmp_lt C.1.1 C.1.2.1 hdg ht (fun h => k h g p l e R s m args below meth c cells slots Z C Rt H locs lsA hv hP hS) (fun h => k2 h g p l e R s m args below meth c cells slots Z C Rt H locs lsA hv hP hS)

theorem J_if_ge {b : jMI} {d kc ks : Nat} {Q : Option Value → jPS → Prop} {pc : Nat} {ls : List (Nat × Value)} {st : List Value} {S : jPS} {x : Int32} {off : Int} {tgt : Nat} (hdg : decode b.2.2.1 pc = .ok (.ifCond .ge off, 3)) (ht : (pc : Int) + off = (tgt : Int)) (k : 0 ≤ x → J b d kc ks Q tgt ls st S) (k2 : ¬ 0 ≤ x → J b d kc ks Q (pc + 3) ls st S) : J b d kc ks Q pc ls (.int x :: st) S := by
  intro g p l e R s m args below meth c cells slots Z C Rt H locs lsA hv hP hS
  exact lv_if_ge C.1.1 C.1.2.1 hdg ht (fun h => k h g p l e R s m args below meth c cells slots Z C Rt H locs lsA hv hP hS) (fun h => k2 h g p l e R s m args below meth c cells slots Z C Rt H locs lsA hv hP hS)

theorem J_icmp_ge {b : jMI} {d kc ks : Nat} {Q : Option Value → jPS → Prop} {pc : Nat} {ls : List (Nat × Value)} {st : List Value} {S : jPS} {x y : Int32} {off : Int} {tgt : Nat} (hdg : decode b.2.2.1 pc = .ok (.if_icmp .ge off, 3)) (ht : (pc : Int) + off = (tgt : Int)) (k : y ≤ x → J b d kc ks Q tgt ls st S) (k2 : ¬ y ≤ x → J b d kc ks Q (pc + 3) ls st S) : J b d kc ks Q pc ls (.int y :: .int x :: st) S := by
  intro g p l e R s m args below meth c cells slots Z C Rt H locs lsA hv hP hS
  exact lv_icmp_ge C.1.1 C.1.2.1 hdg ht (fun h => k h g p l e R s m args below meth c cells slots Z C Rt H locs lsA hv hP hS) (fun h => k2 h g p l e R s m args below meth c cells slots Z C Rt H locs lsA hv hP hS)

theorem J_if_gt {b : jMI} {d kc ks : Nat} {Q : Option Value → jPS → Prop} {pc : Nat} {ls : List (Nat × Value)} {st : List Value} {S : jPS} {x : Int32} {off : Int} {tgt : Nat} (hdg : decode b.2.2.1 pc = .ok (.ifCond .gt off, 3)) (ht : (pc : Int) + off = (tgt : Int)) (k : 0 < x → J b d kc ks Q tgt ls st S) (k2 : ¬ 0 < x → J b d kc ks Q (pc + 3) ls st S) : J b d kc ks Q pc ls (.int x :: st) S := by
  intro g p l e R s m args below meth c cells slots Z C Rt H locs lsA hv hP hS
  exact lv_if_gt C.1.1 C.1.2.1 hdg ht (fun h => k h g p l e R s m args below meth c cells slots Z C Rt H locs lsA hv hP hS) (fun h => k2 h g p l e R s m args below meth c cells slots Z C Rt H locs lsA hv hP hS)

theorem J_icmp_gt {b : jMI} {d kc ks : Nat} {Q : Option Value → jPS → Prop} {pc : Nat} {ls : List (Nat × Value)} {st : List Value} {S : jPS} {x y : Int32} {off : Int} {tgt : Nat} (hdg : decode b.2.2.1 pc = .ok (.if_icmp .gt off, 3)) (ht : (pc : Int) + off = (tgt : Int)) (k : y < x → J b d kc ks Q tgt ls st S) (k2 : ¬ y < x → J b d kc ks Q (pc + 3) ls st S) : J b d kc ks Q pc ls (.int y :: .int x :: st) S := by
  intro g p l e R s m args below meth c cells slots Z C Rt H locs lsA hv hP hS
  exact lv_icmp_gt C.1.1 C.1.2.1 hdg ht (fun h => k h g p l e R s m args below meth c cells slots Z C Rt H locs lsA hv hP hS) (fun h => k2 h g p l e R s m args below meth c cells slots Z C Rt H locs lsA hv hP hS)

theorem J_if_le {b : jMI} {d kc ks : Nat} {Q : Option Value → jPS → Prop} {pc : Nat} {ls : List (Nat × Value)} {st : List Value} {S : jPS} {x : Int32} {off : Int} {tgt : Nat} (hdg : decode b.2.2.1 pc = .ok (.ifCond .le off, 3)) (ht : (pc : Int) + off = (tgt : Int)) (k : x ≤ 0 → J b d kc ks Q tgt ls st S) (k2 : ¬ x ≤ 0 → J b d kc ks Q (pc + 3) ls st S) : J b d kc ks Q pc ls (.int x :: st) S := by
  intro g p l e R s m args below meth c cells slots Z C Rt H locs lsA hv hP hS
  exact lv_if_le C.1.1 C.1.2.1 hdg ht (fun h => k h g p l e R s m args below meth c cells slots Z C Rt H locs lsA hv hP hS) (fun h => k2 h g p l e R s m args below meth c cells slots Z C Rt H locs lsA hv hP hS)

theorem J_icmp_le {b : jMI} {d kc ks : Nat} {Q : Option Value → jPS → Prop} {pc : Nat} {ls : List (Nat × Value)} {st : List Value} {S : jPS} {x y : Int32} {off : Int} {tgt : Nat} (hdg : decode b.2.2.1 pc = .ok (.if_icmp .le off, 3)) (ht : (pc : Int) + off = (tgt : Int)) (k : x ≤ y → J b d kc ks Q tgt ls st S) (k2 : ¬ x ≤ y → J b d kc ks Q (pc + 3) ls st S) : J b d kc ks Q pc ls (.int y :: .int x :: st) S := by
  intro g p l e R s m args below meth c cells slots Z C Rt H locs lsA hv hP hS
  exact lv_icmp_le C.1.1 C.1.2.1 hdg ht (fun h => k h g p l e R s m args below meth c cells slots Z C Rt H locs lsA hv hP hS) (fun h => k2 h g p l e R s m args below meth c cells slots Z C Rt H locs lsA hv hP hS)

theorem J_goto {b : jMI} {d kc ks : Nat} {Q : Option Value → jPS → Prop} {pc : Nat} {ls : List (Nat × Value)} {st : List Value} {S : jPS} {off : Int} {tgt : Nat} (hdg : decode b.2.2.1 pc = .ok (.goto off, 3)) (ht : (pc : Int) + off = (tgt : Int)) (k : J b d kc ks Q tgt ls (st) S) : J b d kc ks Q pc ls (st) S := by
  intro g p l e R s m args below meth c cells slots Z C Rt H locs lsA hv hP hS
  exact lv_goto C.1.1 C.1.2.1 hdg ht (k g p l e R s m args below meth c cells slots Z C Rt H locs lsA hv hP hS)

theorem J_tableIn {b : jMI} {d kc ks : Nat} {Q : Option Value → jPS → Prop} {pc : Nat} {ls : List (Nat × Value)} {st : List Value} {S : jPS} {x : Int32} {dflt lo hi : Int} {offs : Array Int} {len : Nat} {off : Int} {tgt : Nat} (hdg : decode b.2.2.1 pc = .ok (.tableswitch dflt lo hi offs, len)) (h1 : ¬ x.toInt < lo) (h2 : ¬ hi < x.toInt) (ho : offs[(x.toInt - lo).toNat]? = some off) (ht : (pc : Int) + off = (tgt : Int)) (k : J b d kc ks Q tgt ls (st) S) : J b d kc ks Q pc ls (.int x :: st) S := by
  intro g p l e R s m args below meth c cells slots Z C Rt H locs lsA hv hP hS
  exact lv_tableIn C.1.1 C.1.2.1 hdg h1 h2 ho ht (k g p l e R s m args below meth c cells slots Z C Rt H locs lsA hv hP hS)

theorem J_tableOut {b : jMI} {d kc ks : Nat} {Q : Option Value → jPS → Prop} {pc : Nat} {ls : List (Nat × Value)} {st : List Value} {S : jPS} {x : Int32} {dflt lo hi : Int} {offs : Array Int} {len : Nat} {tgt : Nat} (hdg : decode b.2.2.1 pc = .ok (.tableswitch dflt lo hi offs, len)) (h1 : x.toInt < lo ∨ hi < x.toInt) (ht : (pc : Int) + dflt = (tgt : Int)) (k : J b d kc ks Q tgt ls (st) S) : J b d kc ks Q pc ls (.int x :: st) S := by
  intro g p l e R s m args below meth c cells slots Z C Rt H locs lsA hv hP hS
  exact lv_tableOut C.1.1 C.1.2.1 hdg h1 ht (k g p l e R s m args below meth c cells slots Z C Rt H locs lsA hv hP hS)

theorem J_lookup {b : jMI} {d kc ks : Nat} {Q : Option Value → jPS → Prop} {pc : Nat} {ls : List (Nat × Value)} {st : List Value} {S : jPS} {x : Int32} {dflt : Int} {ps : Array (Int × Int)} {len : Nat} {off : Int} {tgt : Nat} (hdg : decode b.2.2.1 pc = .ok (.lookupswitch dflt ps, len)) (hp : (ps.toList.zip (ps.toList.drop 1)).all (fun (a, next) => a.1 < next.1) = true) (ho : Op.lookupswitch.offset ps.toList dflt x.toInt = off) (ht : (pc : Int) + off = (tgt : Int)) (k : J b d kc ks Q tgt ls (st) S) : J b d kc ks Q pc ls (.int x :: st) S := by
  intro g p l e R s m args below meth c cells slots Z C Rt H locs lsA hv hP hS
  exact lv_lookup C.1.1 C.1.2.1 hdg hp ho ht (k g p l e R s m args below meth c cells slots Z C Rt H locs lsA hv hP hS)

theorem J_ifnullR {b : jMI} {d kc ks : Nat} {Q : Option Value → jPS → Prop} {pc : Nat} {ls : List (Nat × Value)} {st : List Value} {S : jPS} {q : Nat} {off : Int} (hdg : decode b.2.2.1 pc = .ok (.ifnull off, 3)) (k : J b d kc ks Q (pc + 3) ls (st) S) : J b d kc ks Q pc ls (.ref q :: st) S := by
  intro g p l e R s m args below meth c cells slots Z C Rt H locs lsA hv hP hS
  exact lv_ifnull C.1.1 C.1.2.1 hdg (k g p l e R s m args below meth c cells slots Z C Rt H locs lsA hv hP hS)

theorem J_ifnullN {b : jMI} {d kc ks : Nat} {Q : Option Value → jPS → Prop} {pc : Nat} {ls : List (Nat × Value)} {st : List Value} {S : jPS} {off : Int} {tgt : Nat} (hdg : decode b.2.2.1 pc = .ok (.ifnull off, 3)) (ht : (pc : Int) + off = (tgt : Int)) (k : J b d kc ks Q tgt ls (st) S) : J b d kc ks Q pc ls (.null :: st) S := by
  intro g p l e R s m args below meth c cells slots Z C Rt H locs lsA hv hP hS
  exact lv_ifnullN C.1.1 C.1.2.1 hdg ht (k g p l e R s m args below meth c cells slots Z C Rt H locs lsA hv hP hS)
