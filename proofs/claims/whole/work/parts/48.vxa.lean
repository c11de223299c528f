/-! 'throw new NoSuchElementException("text")': its constructor passes on by entry 13. The library's walk of a chain of constructors (ctorMessageOffV) and of athrow (athrowLeaves) are named; here stands what they ask, fact by fact. -/
def nsN : String := "java/util/NoSuchElementException"
def nsB : ByteArray := ⟨#[0x2a, 0x2b, 0xb7, 0x00, 0x0d, 0xb1]⟩
theorem nsB_0 : decode nsB 0 = .ok (.aload_n 0, 1) := by decide +kernel
theorem nsB_1 : decode nsB 1 = .ok (.aload_n 1, 1) := by decide +kernel
theorem nsB_2 : decode nsB 2 = .ok (.invokespecial 13, 3) := by decide +kernel
theorem nsB_5 : decode nsB 5 = .ok (.return_, 1) := by decide +kernel
def nsAt (own : String) (ic : Nat) : List Cond :=
  Bundle.throwableAtoms ++ Bundle.throwableSAtoms ++ Bundle.passSAtoms nsN "java/lang/RuntimeException" 13 nsB ++ Bundle.chainSAtoms "java/lang/RuntimeException" ["java/lang/Exception"] ++
  [.methodLink own ic (Bundle.initS nsN), .instantiable nsN 6, .castable nsN nsN, .selects nsN Bundle.tFill0 Bundle.tFill0, .selects nsN Bundle.tFill Bundle.tFill,
   .lays nsN Bundle.tN "cause" "Ljava/lang/Throwable;", .lays nsN Bundle.tN "stackTrace" Bundle.steD, .lays nsN Bundle.tN "suppressedExceptions" Bundle.listD, .lays nsN Bundle.tN "detailMessage" "Ljava/lang/String;",
   .isRef (.static Bundle.tN "UNASSIGNED_STACK" Bundle.steD), .isRef (.static Bundle.tN "SUPPRESSED_SENTINEL" Bundle.listD),
   .fieldLink Bundle.tN 198 Bundle.tN "backtrace" "Ljava/lang/Object;", .lays Bundle.tN Bundle.tN "backtrace" "Ljava/lang/Object;", .lays nsN Bundle.tN "backtrace" "Ljava/lang/Object;"]
/-! the facts -/
section NSF
variable {p : Program} {l : Launch} {e : Env} {R : Room} {s : State} {m : MethodId} {args : Array Value} {below : List Frame} {meth : Method} {c : Code} {W0 : State} {locs : List Loc} {cells slots : Nat}
/-- what the class itself chooses for a method of Throwable's is that method -/
theorem ns_sel (ha : l.admits e) {t : MethodName} {k : ClassId} {M : MethodId} (fk : s.vm.findClass nsN = some k) (fM : s.methodNamed? t = some M) (gM : s.methodFound? t.cls t.name t.desc = some M) (w : (Cond.selects nsN t t).before args s = true) :
    selectMethod e.platform s.vm k M = .method M := by
  obtain ⟨k1, r1, M1, e1, e2, e3, e4, -⟩ := Cond.selects_spec w
  obtain rfl : k = k1 := Option.some.inj (fk.symm.trans e1)
  obtain rfl : M = r1 := Option.some.inj (gM.symm.trans e2)
  obtain rfl : M = M1 := Option.some.inj (fM.symm.trans e3)
  exact (Launch.admits_selectMethod ha _ _ _).trans e4
/-- a field that the class lays: its type stands at its place, and the place is its own -/
def nsLd (s : State) (k : ClassId) (K : Class) (f : Field) : Prop := K.instanceTypes[f.slot]? = some f.type ∧ ∃ d, Jmm.declares? s.vm f.slot (k + 1) k = some d ∧ d.2.name = f.name
theorem nsLd_ne {k : ClassId} {K : Class} {f g : Field} (hf : nsLd s k K f) (hg : nsLd s k K g) {u v : String} (eu : f.name = u) (ev : g.name = v) (h : u ≠ v) : f.slot ≠ g.slot := by
  obtain ⟨-, d1, a1, b1⟩ := hf
  obtain ⟨-, d2, a2, b2⟩ := hg
  exact Cond.laysApart a1 a2 b1 b2 (fun q => h (eu.symm.trans (q.trans ev)))
/-- the cell of a class's statics, where nothing of the method's own has been written: its places are as they were -/
theorem ns_stat (X : Stand p l e R s m args below meth c W0 locs cells slots) (hfree : ∀ x ∈ locs, ∀ q, s.heap[x.base]? = some q → q.vm.isStatics = false) {b : Addr} {q0 : Cell} (h0 : s.heap[b]? = some q0) (hi : q0.vm.isStatics = true) :
    ∃ q : Cell, W0.heap[b]? = some q ∧ q.vm ≠ .unknown ∧ ∀ i : Nat, q.slots[i]? = q0.slots[i]? := by
  obtain ⟨q, e1, e2, -, e4⟩ := X.same.2.2.2.2.2 b q0 h0
  refine ⟨q, e1, fun hu => ?_, fun i => e4 i fun hm => ?_⟩
  · have e5 : q0.vm = .unknown := (congrArg Cell.vm e2).symm.trans hu
    rw [e5] at hi
    exact Bool.noConfusion hi
  · exact Bool.noConfusion (hi.symm.trans (hfree _ hm q0 h0))
end NSF
section NSA
variable {p : Program} {l : Launch} {e : Env} {R : Room} {s : State} {m : MethodId} {args : Array Value} {below : List Frame} {meth : Method} {c : Code} {W0 : State} {locs : List Loc} {cells slots : Nat}
set_option maxHeartbeats 1000000 in
theorem ns_ctor (X : Stand p l e R s m args below meth c W0 locs cells slots) (hexec : p.tables.exec = Jvm.exec) (htr : e.platform.stackTraces = false) {own : String} {ic pc : Nat} {ls : Array Slot} {rest : List Value} {msg : Value} {a : Addr} (hown : s.vm.findClass own = some m.cls)
    (h : ∀ w ∈ nsAt own ic, w.before args s = true) (hfree : ∀ x ∈ locs, ∀ q, s.heap[x.base]? = some q → q.vm.isStatics = false) {k : ClassId} {K : Class} (fk : s.vm.findClass nsN = some k) (hK : s.vm.classes[k]? = some K)
    (ha : W0.heap[a]? = some (freshCell k K) ∧ s.heap.size ≤ a) (hmsg : msg.isRef = true) (hsz : ls.size = c.maxLocals) (d0 : decode c.code pc = .ok (.invokespecial ic, 3)) (d1 : decode c.code (pc + 3) = .ok (.athrow, 1)) (hout : ∀ x ∈ c.exceptionTable.toList, covers x (pc + 3) = false)
    (hroom : 5 < R.frames ∧ ((Value.ref a :: rest).map fun v => v.category).sum + 81 ≤ R.locals) (hlocks : meth.locks = false) :
    ∃ (U : State) (ce : Cell), Steps p.tables e below (W0.setTop (F0 m pc ls (msg :: .ref a :: .ref a :: rest))) U ∧ (U.status = .running ∧ Ended U below (.threw a)) ∧ s.WarmedH U.vm ∧ s.sameButNew ({ U with vm := s.vm } : State) locs cells slots ∧
      U.heap[a]? = some ce ∧ ce.vm = .none ∧ s.vm.findClass nsN = some ce.cls := by
  have hpf : e.platform.frameOwnsMonitors = true ∧ e.platform.finalization = false ∧ e.platform.magicAccessors = ({} : Platform).magicAccessors := by
    rw [X.admits.platform]
    exact ⟨rfl, rfl, rfl⟩
  -- Throwable, its (String) constructor, and the three that pass on to it
  obtain ⟨T, Z0, LT, -, YT⟩ := ThrowableC.of_atoms (args := args) hpf.1 hpf.2.1 hpf.2.2 (fun w hw => h w (by simp [nsAt, hw]))
  obtain ⟨Z, M, LZ, LM, nZ⟩ := Init0T.ofS_atoms (args := args) hpf.2.2 LT YT (fun w hw => h w (by simp [nsAt, hw]))
  obtain ⟨PR, PE, nE, LR, LE, mR, kR, kE⟩ := Bundle.chainS (args := args) hpf.2.2 nZ ["java/lang/Exception"] "java/lang/RuntimeException" (by decide) (by decide) (fun w hw => h w (by simp [nsAt, hw]))
  obtain ⟨PN, LN, mN, sN⟩ := PassC.ofS_atoms (args := args) (s := s) hpf.2.2 (X := nsN) (Y := "java/lang/RuntimeException") (by decide) (by decide) nsB_0 nsB_1 nsB_2 nsB_5 (fun w hw => h w (by simp [nsAt, hw]))
  have hk : k = PN.m.cls := Option.some.inj (fk.symm.trans (findClass_of_methodNamed mN))
  have hpass : PassesOn (Z.m T.toThrowableT) ((PN :: PR :: PE).map (·.toPassT)) := ⟨Option.some.inj (sN.symm.trans mR), kR, kE⟩
  have hlinks : ∀ P, P ∈ PN :: PR :: PE → P.LinksS e.platform s := List.forall_mem_cons.mpr ⟨LN, List.forall_mem_cons.mpr ⟨LR, LE⟩⟩
  -- its fields
  have hord : K.kind = .ordinary := by
    obtain ⟨k1, K1, e1, e2, e3, -⟩ := Cond.instantiable_spec (h (.instantiable nsN 6) (by simp [nsAt]))
    obtain rfl : k = k1 := Option.some.inj (fk.symm.trans e1)
    obtain rfl : K = K1 := Option.some.inj (hK.symm.trans e2)
    exact e3
  obtain ⟨iM, gM⟩ := YT.msg
  obtain ⟨b1, b2, fB, q1, q2, q3, q4, -, nB, tB, gB⟩ := Cond.ownField (t := .object "java/lang/Object") YT.found LT.cls (by decide +kernel) (h (.fieldLink Bundle.tN 198 Bundle.tN "backtrace" "Ljava/lang/Object;") (by simp [nsAt])) (h (.lays Bundle.tN Bundle.tN "backtrace" "Ljava/lang/Object;") (by simp [nsAt])) e.platform hpf.2.2
  have lC : nsLd s k K T.fCause := Cond.laysAt fk hK YT.cause (h (.lays nsN Bundle.tN "cause" "Ljava/lang/Throwable;") (by simp [nsAt]))
  have lS : nsLd s k K T.fStack := Cond.laysAt fk hK YT.stack (h (.lays nsN Bundle.tN "stackTrace" Bundle.steD) (by simp [nsAt]))
  have lP : nsLd s k K T.fSupp := Cond.laysAt fk hK YT.supp (h (.lays nsN Bundle.tN "suppressedExceptions" Bundle.listD) (by simp [nsAt]))
  have lM : nsLd s k K T.fMsg := Cond.laysAt fk hK gM (h (.lays nsN Bundle.tN "detailMessage" "Ljava/lang/String;") (by simp [nsAt]))
  have lB : nsLd s k K fB := Cond.laysAt fk hK gB (h (.lays nsN Bundle.tN "backtrace" "Ljava/lang/Object;") (by simp [nsAt]))
  have n1 := nsLd_ne lC lB YT.causeName nB (by decide)
  have n2 := nsLd_ne lS lB YT.stackName nB (by decide)
  have n3 := nsLd_ne lP lB YT.suppName nB (by decide)
  -- Throwable's statics
  obtain ⟨q0, hq0, hi0⟩ := YT.statics
  obtain ⟨u0, hu0⟩ := Cond.staticRefV YT.unassigned LT.unassignedStatic LT.statics hq0 hi0 (h (.isRef (.static Bundle.tN "UNASSIGNED_STACK" Bundle.steD)) (by simp [nsAt]))
  obtain ⟨sen, hsen⟩ := Cond.staticRefV YT.sentinel LT.sentinelStatic LT.statics hq0 hi0 (h (.isRef (.static Bundle.tN "SUPPRESSED_SENTINEL" Bundle.listD)) (by simp [nsAt]))
  obtain ⟨qS, hqS, hkn, hsl⟩ := ns_stat X hfree hq0 hi0
  have hne : T.aS ≠ a := fun q => Nat.lt_irrefl a (Nat.lt_of_lt_of_le (q ▸ (Array.getElem?_eq_some_iff.mp hq0).1) ha.2)
  have hback : ((preparedCellV T.toThrowableT (freshCell k K) a u0 sen).withEntry W0.cur).slots[fB.slot]? = some .null := by
    have hd := fresh_default (c := k) lB.1
    rw [tB] at hd
    simpa [preparedCellV, Cell.withEntry, Cell.setSlot, Array.getElem?_setIfInBounds, n1, n2, n3, defaultValue] using hd
  -- the call, the chain, the throw
  obtain ⟨N, -, -, -, v1, eN, -, -, -, -, -, -, -, w1, go1⟩ := Steps.initColdS (tb := p.tables) (U := W0) (t := Bundle.initS nsN) (bytes := nsB) (maxL := 2) X.here hexec X.warmed hpf.2.2 hown rfl rfl (by decide)
    (h (.methodLink own ic (Bundle.initS nsN)) (by simp [nsAt])) (h (.instanceMethod (Bundle.initS nsN)) (by simp [nsAt, Bundle.passSAtoms])) (h (.code (Bundle.initS nsN) nsB 2 none) (by simp [nsAt, Bundle.passSAtoms]))
    (f := F0 m pc ls (msg :: .ref a :: .ref a :: rest)) rfl rfl d0
  obtain rfl : N = PN.m := Option.some.inj (eN.symm.trans mN)
  have nL : (PN :: PR :: PE).length = 3 := by rw [List.length_cons, List.length_cons, nE]; rfl
  obtain ⟨v2, X2, go2⟩ := (X.noted w1).ctorMessageOffV hexec (g := F0 m pc ls (.ref a :: rest)) rfl hsz T LT Z LZ M LM (PN :: PR :: PE) hlinks hpass (self := a) hmsg ha.1 (fun _ q => by cases q) (fun q => by cases q) rfl rfl
    (ns_sel X.admits fk YT.fill0 (State.methodFound?_of_named YT.fill0 (by decide)) (h (.selects nsN Bundle.tFill0 Bundle.tFill0) (by simp [nsAt]))) (ns_sel X.admits fk YT.fill (State.methodFound?_of_named YT.fill (by decide)) (h (.selects nsN Bundle.tFill Bundle.tFill) (by simp [nsAt])))
    hqS hne hkn ((hsl _).trans hu0) ((hsl _).trans hsen)
    (Takes.of_laid hK hord lC.1 (YT.causeType ▸ rfl)) (Takes.of_laid hK hord lS.1 (YT.stackType ▸ fits_refV_array _ u0)) (Takes.of_laid hK hord lP.1 (YT.suppType ▸ fits_refV_object _ sen)) (Takes.of_laid hK hord lM.1 (YT.msgType ▸ fits_refV_object _ ⟨msg, hmsg⟩))
    YT.objLocals ⟨{ ci198 := b1, i198 := b2, fBack := fB }, ⟨q1, q2, q3, q4⟩, hback, fun _ _ => rfl⟩ htr [] d0 (by rw [nL]; exact hroom.1) (by rw [nL]; show 2 * 0 + ((Value.ref a :: rest).map fun v => v.category).sum + (13 * 3 + 42) ≤ _; have := hroom.2; omega)
  have X3 := Stand.forget X2 (fun y hy => by
    have hb : y.base = a := by
      rcases List.mem_cons.mp hy with q | hy
      · rw [q]
      · simp only [List.mem_cons, List.not_mem_nil, or_false] at hy
        obtain q | q | q | q := hy <;> rw [q]
    rw [hb]
    exact ha.2)
  obtain ⟨go3, hrun, hend, hW, hsame⟩ := X3.athrowLeaves hexec (g := F0 m (pc + 3) ls (.ref a :: rest)) rfl rfl rfl hout rfl d1 hlocks
  refine ⟨_, _, go1 _ (fun acts => ?_), ⟨hrun, hend⟩, hW, hsame, heapAt_setCell_self _ (show a < W0.heap.size from (Array.getElem?_eq_some_iff.mp ha.1).1), rfl, fk⟩
  rw [doInvoke_state]
  exact go2 _ go3
end NSA
