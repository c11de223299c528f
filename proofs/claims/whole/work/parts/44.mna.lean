/-! new T[n][k] in closed form: behind the old cells stand one outer array and its rows. One counted loop, one equation of heaps. -/
def mfI (comp : ClassId) (K : Nat) (dv : Value) : Cell := { cls := comp, slots := Array.replicate K dv, vm := .none }
def mfO (c : ClassId) (N h0 i : Nat) : Cell := arrV c N (fun j => va_rf (if j < i then some (h0 + 1 + j) else none))
def mfH (H : Heap) (c comp : ClassId) (N K : Nat) (dv : Value) (i : Nat) : Heap := H ++ (#[mfO c N H.size i] ++ Array.replicate i (mfI comp K dv))
def mfill (T : State) (c comp : ClassId) (N K : Nat) (dv : Value) (i : Nat) : State := { T with heap := mfH T.heap c comp N K dv i, slotsUsed := T.slotsUsed + (N + i * K) }
section
variable {H : Heap} {c comp : ClassId} {N K : Nat} {dv : Value} {i : Nat}
theorem mfH_size : (mfH H c comp N K dv i).size = H.size + (1 + i) := by
  simp [mfH]
  omega
theorem mfH_old {a : Nat} (ha : a < H.size) : (mfH H c comp N K dv i)[a]? = H[a]? := Array.getElem?_append_left ha
theorem mfH_new (j : Nat) : (mfH H c comp N K dv i)[H.size + j]? = (#[mfO c N H.size i] ++ Array.replicate i (mfI comp K dv))[j]? := by
  unfold mfH
  rw [Array.getElem?_append_right (Nat.le_add_right _ _), Nat.add_sub_cancel_left]
theorem mfH_top : (mfH H c comp N K dv i)[H.size]? = some (mfO c N H.size i) := by
  have h := mfH_new (H := H) (c := c) (comp := comp) (N := N) (K := K) (dv := dv) (i := i) 0
  rw [Nat.add_zero, Array.getElem?_append_left (show 0 < 1 from Nat.one_pos)] at h
  exact h
theorem mfH_row {j : Nat} (h : j < i) : (mfH H c comp N K dv i)[H.size + 1 + j]? = some (mfI comp K dv) := by
  rw [Nat.add_assoc, mfH_new (1 + j), Array.getElem?_append_right (by simp)]
  simp [h]
/-- a row more: it is pushed, then the outer array's next place gets it -/
theorem mfH_next : ((mfH H c comp N K dv i).push (mfI comp K dv)).setIfInBounds H.size (mfO c N H.size (i + 1)) = mfH H c comp N K dv (i + 1) := by
  apply Array.ext_getElem?
  intro a
  rw [Array.getElem?_setIfInBounds, Array.getElem?_push, Array.size_push, mfH_size]
  rcases Nat.lt_or_ge a H.size with h | h
  · rw [if_neg (by omega), if_neg (by omega), mfH_old h, mfH_old h]
  · obtain ⟨j, rfl⟩ := Nat.exists_eq_add_of_le h
    cases j with
    | zero =>
      rw [Nat.add_zero, if_pos rfl, if_pos (by omega)]
      exact mfH_top.symm
    | succ j =>
      rw [if_neg (by omega), show H.size + (j + 1) = H.size + 1 + j by omega]
      by_cases hj : j < i
      · rw [if_neg (by omega), mfH_row hj, mfH_row (by omega)]
      · by_cases he : j = i
        · rw [if_pos (by omega), mfH_row (by omega)]
        · rw [if_neg (by omega), Array.getElem?_eq_none (by rw [mfH_size]; omega), Array.getElem?_eq_none (by rw [mfH_size]; omega)]
theorem mfO_put : (mfO c N H.size i).setSlot i (.ref (H.size + 1 + i)) = mfO c N H.size (i + 1) := by
  unfold mfO
  rw [arrV_store]
  congr 1
  funext j
  rcases Nat.lt_trichotomy j i with h | h | h
  · simp [updV, Nat.ne_of_lt h, h, Nat.lt_succ_of_lt h]
  · simp [updV, va_rf, h]
  · simp [updV, Nat.ne_of_gt h, Nat.lt_asymm h, show ¬ j < i + 1 by omega]
end
section
variable (T : State) (c comp : ClassId) (N K : Nat) (dv : Value)
theorem mfill_facts (i : Nat) : (mfill T c comp N K dv i).heap.size = T.heap.size + 1 + i ∧ (mfill T c comp N K dv i).heap[T.heap.size]? = some (mfO c N T.heap.size i) := ⟨mfH_size.trans (by omega), mfH_top⟩
theorem mfill_old {a : Addr} (ha : a < T.heap.size) (i : Nat) : (mfill T c comp N K dv i).heap[a]? = T.heap[a]? := mfH_old ha
theorem mfill_row (i j : Nat) (h : j < i) : (mfill T c comp N K dv i).heap[T.heap.size + 1 + j]? = some (mfI comp K dv) := mfH_row h
theorem mfill_zero : T.pushCell { cls := c, slots := Array.replicate N .null } = mfill T c comp N K dv 0 := by
  have h1 : T.heap.push { cls := c, slots := Array.replicate N .null } = mfH T.heap c comp N K dv 0 := by
    unfold mfH
    rw [show mfO c N T.heap.size 0 = { cls := c, slots := Array.replicate N .null } from (arrV_new c N .null).symm]
    simp
  unfold State.pushCell mfill
  rw [h1]
  simp
theorem mfill_next (i : Nat) : ((mfill T c comp N K dv i).pushCell (mfI comp K dv)).setCell T.heap.size (mfO c N T.heap.size (i + 1)) = mfill T c comp N K dv (i + 1) := by
  have h1 := mfH_next (H := T.heap) (c := c) (comp := comp) (N := N) (K := K) (dv := dv) (i := i)
  have h2 : T.slotsUsed + (N + i * K) + (mfI comp K dv).slots.size = T.slotsUsed + (N + (i + 1) * K) := by
    rw [show (mfI comp K dv).slots.size = K from Array.size_replicate, Nat.succ_mul]
    omega
  show ({ T with heap := ((mfH T.heap c comp N K dv i).push (mfI comp K dv)).setIfInBounds T.heap.size (mfO c N T.heap.size (i + 1)), slotsUsed := T.slotsUsed + (N + i * K) + (mfI comp K dv).slots.size } : State) = mfill T c comp N K dv (i + 1)
  rw [h1, h2]
  rfl
/-- the cells that were there are as they were; so many more, with so many places -/
theorem mfill_same {x : Thread} (hx : T.threads[T.cur]? = some x) (i : Nat) : T.sameButNew (mfill T c comp N K dv i) [] (1 + i) (N + i * K) := by
  have hd : (((mfill T c comp N K dv i).heap.toList.drop T.heap.size).map (·.slots.size)).sum = N + i * K := by
    show (((mfH T.heap c comp N K dv i).toList.drop T.heap.size).map (·.slots.size)).sum = _
    unfold mfH
    rw [Array.toList_append, List.drop_left' (by simp)]
    simp [mfI, mfO, arrV_size]
  refine ⟨?_, by rw [(mfill_facts T c comp N K dv i).1]; omega, by rw [(mfill_facts T c comp N K dv i).1]; omega, by rw [hd]; rfl, Nat.le_of_eq hd, fun a q hq => ⟨q, ?_, rfl, rfl, fun _ _ => rfl⟩⟩
  · have h1 : T.setFrames (mfill T c comp N K dv i).frames = T := State.setFrames_self hx
    rw [h1]
    rfl
  · rw [mfill_old T c comp N K dv (Array.getElem?_eq_some_iff.mp hq).1]
    exact hq
end
section
variable {E : CtlPost} {e : Env}
/-- a loop that counts: one state for each count -/
theorem mf_count (I : Nat → State) {N : Nat} {f : Nat → PUnit → Sem (ForInStep PUnit)} {Q : PUnit → Pre}
    (hf : ∀ i, i < N → ∀ d acts (P : ForInStep PUnit → Pre), (∀ d' acts', P (.yield ⟨⟩) d' acts' (I (i + 1))) → wp (f i ⟨⟩) P E e d acts (I i))
    (hq : ∀ d acts, Q ⟨⟩ d acts (I N)) : ∀ j i, i + j = N → ∀ d acts, wp (forIn (List.range' i j) PUnit.unit f) Q E e d acts (I i)
  | 0, i, h, d, acts => by
    rw [List.range'_zero, List.forIn_nil, wp_pure', show i = N from h]
    exact hq d acts
  | j + 1, i, h, d, acts => by
    rw [List.range'_succ, List.forIn_cons, wp_bind']
    exact hf i (by omega) d acts _ (fun d' acts' => mf_count I hf hq j (i + 1) (by omega) d' acts')
variable {s : State} {d : Bool} {acts : List Action} {comp cc : ClassId} {kc : Class} {ty : FieldType} {m : Int32}
theorem mf_one (hkc : s.vm.classes[comp]? = some kc) (hkd : kc.kind = .array cc ty) (hm : ¬ m < 0) (hl : m.toNatClampNeg ≤ e.platform.arrayLengthLimit) (hh : m.toNatClampNeg * componentBytes ty ≤ e.platform.maxHeapBytes)
    (hf : fits ty (defaultValue ty) = true) (h3 : s.heap.size < e.platform.maxCells) (h4 : s.slotsUsed + m.toNatClampNeg ≤ e.platform.maxSlots) {Q : Addr → Pre}
    (hq : ∀ a', Q s.heap.size d a' (s.pushCell (mfI comp m.toNatClampNeg (defaultValue ty)))) : wp (Op.multianewarray.make comp [m]) Q E e d acts s := by
  unfold Op.multianewarray.make
  simp only [wp_bind', W.ite, if_neg hm, wp_pure', W.theClass, hkc, Option.some.injEq, exists_eq_left', hkd]
  exact W.newArray_of hkc hkd (Nat.not_lt.mpr hl) (Nat.not_lt.mpr hh) h3 h4 hf hq
set_option maxHeartbeats 1000000 in
theorem mf_two {c : ClassId} {k : Class} {t0 : FieldType} {n : Int32} {N K : Nat} (hk : s.vm.classes[c]? = some k) (hkd : k.kind = .array comp (.array t0)) (hkc : s.vm.classes[comp]? = some kc) (hkdc : kc.kind = .array cc ty)
    (hn : ¬ n < 0) (hm : ¬ m < 0) (eN : n.toNatClampNeg = N) (eK : m.toNatClampNeg = K) (hN : N ≤ e.platform.arrayLengthLimit ∧ N * 4 ≤ e.platform.maxHeapBytes) (hK : K ≤ e.platform.arrayLengthLimit ∧ K * componentBytes ty ≤ e.platform.maxHeapBytes)
    (hf : fits ty (defaultValue ty) = true) (hc : s.heap.size + (1 + N) ≤ e.platform.maxCells) (hs : s.slotsUsed + (N + N * K) ≤ e.platform.maxSlots)
    {Q : Addr → Pre} (hq : ∀ d' a', Q s.heap.size d' a' (mfill s c comp N K (defaultValue ty) N)) : wp (Op.multianewarray.make c [n, m]) Q E e d acts s := by
  subst eK
  subst eN
  unfold Op.multianewarray.make
  simp only [wp_bind', W.ite, if_neg hn, wp_pure', W.theClass, hk, Option.some.injEq, exists_eq_left', hkd, List.find?, decide_eq_false hm, ite_self]
  refine W.newArray_of hk hkd (Nat.not_lt.mpr hN.1) (Nat.not_lt.mpr hN.2) (by omega) (Nat.le_trans (by omega) hs) rfl (fun a' => ?_)
  rw [mfill_zero s c comp _ m.toNatClampNeg (defaultValue ty), Std.Legacy.Range.forIn_eq_forIn_range']
  simp only [Std.Legacy.Range.size, Nat.sub_zero, Nat.add_sub_cancel, Nat.div_one]
  rw [wp_bind']
  refine mf_count (N := n.toNatClampNeg) (fun i => mfill s c comp n.toNatClampNeg m.toNatClampNeg (defaultValue ty) i) (fun i hi d' a1 P hP => ?_) (fun d' a1 => ?_) n.toNatClampNeg 0 (Nat.zero_add _) _ _
  case refine_2 => exact hq d' a1
  obtain ⟨f1, f2⟩ := mfill_facts s c comp n.toNatClampNeg m.toNatClampNeg (defaultValue ty) i
  have hmul : (i + 1) * m.toNatClampNeg ≤ n.toNatClampNeg * m.toNatClampNeg := Nat.mul_le_mul_right _ hi
  rw [Nat.succ_mul] at hmul
  rw [wp_bind']
  refine mf_one (s := mfill s c comp n.toNatClampNeg m.toNatClampNeg (defaultValue ty) i) hkc hkdc hm hK.1 hK.2 hf (by rw [f1]; omega) (by show s.slotsUsed + (_ + i * _) + _ ≤ _; omega) (fun a2 => ?_)
  rw [f1, wp_bind', W.writeLoc]
  refine ⟨mfO c n.toNatClampNeg s.heap.size i, ?_, (fun h => by cases h), ?_, ?_, ?_⟩
  · exact (State.heap_pushCell_of_lt _ _ (Nat.lt_of_lt_of_eq (by omega) f1.symm)).trans f2
  · show i < (arrV _ _ _).slots.size
    rw [arrV_size]
    exact hi
  · show State.fitsSlot _ c .none i _ = true
    simp [State.fitsSlot, State.slotType?, mfill, hk, hkd, fits]
  · rw [mfO_put, mfill_next]
    exact hP _ _
end
section
variable {p : Program} {l : Launch} {e : Env} {R : Room} {s : State} {m : MethodId} {args : Array Value} {below : List Frame} {meth : Method} {c : Code} {T : State} {locs : List Loc} {cells slots : Nat}
theorem mf_stand (X : Stand p l e R s m args below meth c T locs cells slots) (cA comp : ClassId) (N K : Nat) (dv : Value) (i : Nat) : Stand p l e R s m args below meth c (mfill T cA comp N K dv i) locs (cells + (1 + i)) (slots + (N + i * K)) := by
  have h0 := X.here
  obtain ⟨f, hf⟩ := Option.isSome_iff_exists.mp h0.top
  obtain ⟨r, hr⟩ := State.topJava?_eq_some.mp hf
  obtain ⟨x, hx, -⟩ := State.frames_cons hr
  have h := X.moved (T₂ := mfill T cA comp N K dv i) ⟨h0.top, h0.above, h0.running, h0.runnable, h0.alone, h0.code, h0.plain⟩ X.tail rfl rfl (State.WarmedH.refl T) (mfill_same T cA comp N K dv hx i)
  rw [List.append_nil] at h
  exact h
set_option maxHeartbeats 1000000 in
/-- the instruction: T is where it stands; the pool's entry may have been unread till now (vm1) -/
theorem mf_step (X : Stand p l e R s m args below meth c T locs cells slots) (hexec : p.tables.exec = Jvm.exec) {own : String} {idx pc N K : Nat} {ty : FieldType} {n k : Int32} {ls : Array Slot} {rest : List Value} (hown : s.vm.findClass own = some m.cls)
    (w1 : (Cond.classLink own idx ("[" ++ (FieldType.array ty).toString)).before args s = true) (w2 : jAA ty s) (w3 : (Cond.arrayClass ty).before args s = true) (hdg : decode c.code pc = .ok (.multianewarray idx 2, 4))
    (hn : ¬ n < 0 ∧ n.toNatClampNeg = N) (hk : ¬ k < 0 ∧ k.toNatClampNeg = K) (hb : N * 4 ≤ 536870912 ∧ K * componentBytes ty ≤ 536870912 ∧ K ≤ 536870912) (hdf : fits ty (defaultValue ty) = true)
    (hcells : cells + (1 + N) ≤ R.cells) (hslots : slots + (N + N * K) ≤ R.slots) :
    ∃ (vm1 : Vm) (cA comp : ClassId), (s.vm.findClass ("[" ++ (FieldType.array ty).toString) = some cA ∧ s.vm.findClass (FieldType.array ty).toString = some comp) ∧
      Stand p l e R s m args below meth c (mfill (T.setVm vm1) cA comp N K (defaultValue ty) N) locs (cells + (1 + N)) (slots + (N + N * K)) ∧
      ∀ t, Steps p.tables e below ((mfill (T.setVm vm1) cA comp N K (defaultValue ty) N).setTop (F0 m (pc + 4) ls (.ref T.heap.size :: rest))) t → Steps p.tables e below (T.setTop (F0 m pc ls (.int k :: .int n :: rest))) t := by
  obtain ⟨comp, cA, kA, ⟨fC, fA⟩, hkA, hdA⟩ := w2
  obtain ⟨comp2, kC, cc, fC2, hkC, hdC⟩ := Cond.arrayClass_spec w3
  cases fC2.symm.trans fC
  obtain ⟨cA2, fA2, hlink⟩ := Cond.classLink_spec hown w1 e.platform (by rw [X.admits.platform])
  cases fA2.symm.trans fA
  obtain ⟨hgo, hwarm, -⟩ := State.classEntry (e := e) X.warmed hlink
  generalize T.vm.noted m.cls idx (.cls cA) = vm1 at hgo hwarm
  obtain ⟨kA1, qA, eA⟩ := hwarm.alike.2.2 _ _ hkA
  obtain ⟨kC1, qC, eC⟩ := hwarm.alike.2.2 _ _ hkC
  have X1 := mf_stand (X.noted hwarm) cA comp N K (defaultValue ty) N
  obtain ⟨r1, r2⟩ := X.roomAbove hcells hslots
  have pl := Launch.admits_arrayLengthLimit X.admits
  have ph := Launch.admits_maxHeapBytes X.admits
  refine ⟨vm1, cA, comp, ⟨fA, fC⟩, X1, fun t ht => ?_⟩
  have hd' : decode c.code (F0 m pc ls (.int k :: .int n :: rest)).pc = .ok (.multianewarray idx 2, 4) := hdg
  jvm_step X.here [hexec, hd']
  simp only [Op.multianewarray.sem, wp_bind', W.resolveClassAt_links (State.method?_setTop (F0 m pc ls (.int k :: .int n :: rest)) X.here.top) hgo]
  rw [W.popN, if_neg (by decide)]
  refine ⟨F0 m pc ls (.int k :: .int n :: rest), State.topJava?_setTop' (s := T.setVm vm1) _ X.here.top, [.int n, .int k], rest, rfl, rfl, ?_⟩
  simp only [List.mapM_cons, List.mapM_nil, wp_bind', wp_pure']
  refine mf_two (t0 := ty) (ty := ty) qA (by rw [eA]; exact hdA) qC (by rw [eC]; exact hdC) hn.1 hk.1 hn.2 hk.2 ⟨by rw [pl]; omega, by rw [ph]; omega⟩ ⟨by rw [pl]; omega, by rw [ph]; omega⟩ hdf
    (by show T.heap.size + (1 + N) ≤ _; omega) (by show T.slotsUsed + (N + N * K) ≤ _; omega) (fun d' a' => ?_)
  have hst : ∀ G : JFrame, mfill (((T.setTop (F0 m pc ls (.int k :: .int n :: rest))).setVm vm1).setTop G) cA comp N K (defaultValue ty) N = (mfill (T.setVm vm1) cA comp N K (defaultValue ty) N).setTop G := fun G => by
    have h1 : ((T.setTop (F0 m pc ls (.int k :: .int n :: rest))).setVm vm1).setTop G = (T.setVm vm1).setTop G := State.setTop_setTop (s := T.setVm vm1) ..
    rw [h1]
    rfl
  rw [hst]
  simp only [wp_bind', W.mark, W.pushRef, State.topJava?_setTop' _ X1.here.top, Option.some.injEq, exists_eq_left', State.setTop_setTop, State.heap_setTop]
  intro a1
  simp [jvm, X1.here.top]
  exact ht
end
