def jslen : List Nat := [9, 5, 5, 4, 2, 5, 4, 6, 5, 5, 12, 13]
def jsbyt : List (List Int32) := [[99, 111, 110, 115, 111, 110, 97, 110, 116], [118, 111, 119, 101, 108], [119, 114, 105, 116, 101], [100, 114, 111, 112], [97, 115], [102, 105, 114, 115, 116], [108, 97, 115, 116], [108, 101, 110, 103, 116, 104], [99, 111, 117, 110, 116], [97, 101, 105, 111, 117], [110, 111, 32, 115, 117, 99, 104, 32, 119, 111, 114, 100], [110, 111, 32, 115, 117, 99, 104, 32, 112, 108, 97, 99, 101]]
def jsrefs : List (String × Nat × String × Nat) := [("GridRoom$Tape", 82, "consonant", 0), ("GridRoom$Tape", 88, "vowel", 1), ("GridRoom$Tape", 90, "write", 2), ("GridRoom$Tape", 92, "drop", 3), ("GridRoom$Tape", 140, "as", 4), ("GridRoom$Tape", 120, "first", 5), ("GridRoom$Tape", 125, "last", 6), ("GridRoom$Tape", 112, "length", 7), ("GridRoom$Tape", 118, "count", 8), ("GridRoom", 394, "aeiou", 9), ("GridRoom", 214, "no such word", 10), ("GridRoom", 222, "no such place", 11), ("GridRoomModel", 256, "consonant", 0), ("GridRoomModel", 262, "vowel", 1), ("GridRoomModel", 264, "write", 2), ("GridRoomModel", 266, "drop", 3), ("GridRoomModel", 268, "first", 5), ("GridRoomModel", 270, "last", 6), ("GridRoomModel", 272, "length", 7), ("GridRoomModel", 273, "count", 8), ("GridRoomModel", 280, "as", 4)]
def jnst : List (String × Nat × MethodName × String) := [("GridRoom$Archive", 37, ⟨"GridRoom$Hands", "<init>", "()V"⟩, "GridRoom"), ("GridRoom$Archive", 50, ⟨"GridRoom$Rules", "<init>", "()V"⟩, "GridRoom"), ("GridRoom$Archive", 55, ⟨"GridRoom$Tablet", "<init>", "()V"⟩, "GridRoom"), ("GridRoom$Tablet", 3, ⟨"GridRoom$Dated", "<init>", "()V"⟩, "GridRoom"), ("GridRoom$Archive", 56, ⟨"GridRoom$Share", "<init>", "()V"⟩, "GridRoom"), ("GridRoom$Share", 1, ⟨"GridRoom$Dated", "<init>", "()V"⟩, "GridRoom"), ("GridRoom$Archive", 57, ⟨"GridRoom$Name", "<init>", "()V"⟩, "GridRoom"), ("GridRoom$Name", 3, ⟨"GridRoom$Dated", "<init>", "()V"⟩, "GridRoom"), ("GridRoom", 25, ⟨"GridRoom$Tape", "<init>", "()V"⟩, "GridRoom"), ("GridRoom$Tape", 60, ⟨"GridRoom", "isSign", "(I)Z"⟩, "GridRoom"), ("GridRoom$Tape", 145, ⟨"GridRoom", "isVowel", "(I)Z"⟩, "GridRoom"), ("GridRoom$Hands", 59, ⟨"GridRoom", "pairOf", "(II)I"⟩, "GridRoom"), ("GridRoom$Hands", 66, ⟨"GridRoom", "join", "([JII)V"⟩, "GridRoom"), ("GridRoom$Hands", 70, ⟨"GridRoom", "reachOf", "([JI)J"⟩, "GridRoom"), ("GridRoom$Hands", 74, ⟨"GridRoom", "leastOf", "(J)I"⟩, "GridRoom"), ("GridRoom$Grid", 126, ⟨"GridRoom", "leastOf", "(J)I"⟩, "GridRoom"), ("GridRoom$Rules", 36, ⟨"GridRoom", "isSort", "(I)Z"⟩, "GridRoom"), ("GridRoom$Grid", 139, ⟨"GridRoom", "pairOf", "(II)I"⟩, "GridRoom"), ("GridRoom$Grid", 148, ⟨"GridRoom", "join", "([JII)V"⟩, "GridRoom"), ("GridRoom$Grid", 58, ⟨"GridRoom", "reachOf", "([JI)J"⟩, "GridRoom"), ("GridRoom$Clash", 107, ⟨"GridRoom", "around", "([JJ)J"⟩, "GridRoom"), ("GridRoom$Clash", 74, ⟨"GridRoom", "has", "(JI)Z"⟩, "GridRoom"), ("GridRoom$Rules", 44, ⟨"GridRoom", "vowelOf", "(I)I"⟩, "GridRoom"), ("GridRoom$Census", 57, ⟨"GridRoom", "has", "(JI)Z"⟩, "GridRoom")]

def jzqs : List (String × String × String) := [("jdk/internal/util/Preconditions", "SIOOBE_FORMATTER", "Ljava/util/function/BiFunction;"), ("java/lang/Throwable", "UNASSIGNED_STACK", "[Ljava/lang/StackTraceElement;"), ("java/lang/Throwable", "SUPPRESSED_SENTINEL", "Ljava/util/List;")]
/-- arrays of arrays: their class, and that of their rows -/
def jAA (ty : FieldType) (U : State) : Prop := ∃ (comp c : ClassId) (k : Class), (U.vm.findClass (FieldType.array ty).toString = some comp ∧ U.vm.findClass ("[" ++ (FieldType.array ty).toString) = some c) ∧ U.vm.classes[c]? = some k ∧ k.kind = .array comp (.array ty)
theorem jAA.of {ty : FieldType} {args : Array Value} {u : State} (h : (Cond.arrayOver (.array ty)).before args u = true) : jAA ty u := by
  have q := arrayOverA_spec h
  exact ⟨_, _, _, ⟨q.choose_spec.choose_spec.choose_spec.1, q.choose_spec.choose_spec.choose_spec.2.2.2.2⟩, q.choose_spec.choose_spec.choose_spec.2.2.1, q.choose_spec.choose_spec.choose_spec.2.2.2.1⟩
theorem jAA.moved {ty : FieldType} {u U : State} (hvm : u.vm.Alike U.vm) (h : jAA ty u) : jAA ty U := by
  obtain ⟨comp, c, k, a1, a2, a3⟩ := h
  obtain ⟨k1, b1, b2⟩ := hvm.2.2 _ _ a2
  exact ⟨comp, c, k1, by simpa only [hvm.findClass] using a1, b1, by rw [b2]; exact a3⟩
/-- the Strings that the classes name: where they lie, what they hold; the links within the nest; the arrays of references -/
def jT (g : jG) (U : State) : Prop := vk_S 12 jslen jsbyt g.2.2.2.1 g.2.2.2.2 (fun q => g.1 ≤ q) U U.heap ∧ (∀ q ∈ jsrefs, vk_R q.1 q.2.1 q.2.2.1 (g.2.2.2.1 q.2.2.2) U) ∧ (∀ q ∈ jnst, va_Nw (.methodLinkNest q.1 q.2.1 q.2.2.1 q.2.2.2) U) ∧ (∀ C ∈ [RX6, RX7, RX9, RX10], va_AO C U) ∧ (∀ ty ∈ [FieldType.int, FieldType.long], jAA ty U) ∧ va_Z "java/lang/String" "COMPACT_STRINGS" "Z" (.int 1) (fun q => g.1 ≤ q) U U.heap ∧ (∀ q ∈ jzqs, va_Zq q.1 q.2.1 q.2.2 (fun q => g.1 ≤ q) U U.heap) ∧ ∀ w, w < 12 → g.2.2.2.1 (1000 + w) = g.2.2.2.2 w
theorem jT_moved {g : jG} {s U : State} {H : Heap} {locs : List Loc} (h : jT g s) (hS : va_S (fun q => g.1 ≤ q) s.heap H locs) (hU : U.heap = H) (hW : s.WarmedH U.vm) : jT g U :=
  ⟨by rw [hU]; exact (h.1.moved hW.alike).kept hS.2.1, fun q hq => (h.2.1 q hq).warm hW, fun q hq => va_Nw.warmM hW (h.2.2.1 q hq), fun q hq => (h.2.2.2.1 q hq).moved hW.alike, fun q hq => (h.2.2.2.2.1 q hq).moved hW.alike, by rw [hU]; exact (h.2.2.2.2.2.1.moved hW.alike).kept hS.2.1, fun q hq => by rw [hU]; exact ((h.2.2.2.2.2.2.1 q hq).moved hW.alike).kept hS.2.1, h.2.2.2.2.2.2.2⟩
theorem jT_calling {g : jG} {U : State} (G : JFrame) (mk : MethodId) (a : Array Value) (h : jT g U) : jT g (U.calling G mk a) :=
  ⟨h.1.moved (U := U.calling G mk a) (Vm.Alike.refl U.vm), fun q hq => (h.2.1 q hq).same rfl, fun q hq => va_Nw.same rfl rfl (h.2.2.1 q hq), fun q hq => (h.2.2.2.1 q hq).moved (U := U.calling G mk a) (Vm.Alike.refl U.vm), fun q hq => (h.2.2.2.2.1 q hq).moved (U := U.calling G mk a) (Vm.Alike.refl U.vm), h.2.2.2.2.2.1.moved (U := U.calling G mk a) (Vm.Alike.refl U.vm), fun q hq => (h.2.2.2.2.2.2.1 q hq).moved (U := U.calling G mk a) (Vm.Alike.refl U.vm), h.2.2.2.2.2.2.2⟩
/-- what a walk of method b rests on -/
def jCx (b : jMI) (d kc ks : Nat) (g : jG) (p : Program) (R : Room) (s : State) (m : MethodId) (args : Array Value) (meth : Method) (c : Code) (cells slots : Nat) : Prop :=
  (p.tables.exec = Jvm.exec ∧ c.code = b.2.2.1 ∧ c.maxLocals = b.2.2.2.1 ∧ s.vm.findClass b.1 = some m.cls ∧ ∀ w ∈ jgt, w.before args s = true) ∧ (va_K g.2.1 vwCl (jtys g) s ∧ g.1 ≤ s.heap.size ∧ jT g s) ∧ (d ≤ R.frames ∧ 100 * d ≤ R.locals) ∧ (cells + kc ≤ R.cells ∧ slots + ks ≤ R.slots) ∧ meth.name = b.2.1.name
def jret (b : jMI) (v : Option Value) (pc : Nat) : Prop := match v with
  | none => decode b.2.2.1 pc = .ok (.return_, 1) ∧ b.2.2.2.2 = none
  | some (.int x) => decode b.2.2.1 pc = .ok (.ireturn, 1) ∧ (b.2.2.2.2 = some .int ∨ (b.2.2.2.2 = some .boolean ∧ (x = 0 ∨ x = 1)) ∨ (b.2.2.2.2 = some .char ∧ narrow .char (.int x) = .int x) ∨ (b.2.2.2.2 = some .byte ∧ narrow .byte (.int x) = .int x))
  | some (.long _) => decode b.2.2.1 pc = .ok (.lreturn, 1) ∧ b.2.2.2.2 = some .long
  | some (.ref _) => decode b.2.2.1 pc = .ok (.areturn, 1) ∧ ∃ n, b.2.2.2.2 = some (.object n)
  | some .null => decode b.2.2.1 pc = .ok (.areturn, 1) ∧ ∃ n, b.2.2.2.2 = some (.object n)
  | _ => False
/-- the cells S lie in the heap; while they are being made (the mark at 1000000) nothing lies behind them -/
def jR (g : jG) (S : jPS) (H : Heap) : Prop := va_P g.2.1 vwCl (jws g S) H ∧ S.1.2 ≤ 1000000 ∧ (S.1.1 1000000 = (1, 1) → H.size = g.1 + S.1.2)
def jRt (b : jMI) (g : jG) (Q : Option Value → jPS → Prop) (p : Program) (l : Launch) (e : Env) (R : Room) (s : State) (m : MethodId) (args : Array Value) (below : List Frame) (meth : Method) (c : Code) (cells slots : Nat) (Z : State → Prop) : Prop :=
  ∀ (v : Option Value) (S : jPS) (H : Heap) (locs : List Loc) (pc : Nat) (lsA : Array Slot), Q v S → jR g S H → va_S (fun q => g.1 ≤ q) s.heap H locs → jret b v pc →
    W p l e R s m args below meth c H locs cells slots Z (F0 m pc lsA (v.toList.map (jtr g)))
def jlv (g : jG) (ls : List (Nat × Value)) : List (Nat × Value) := ls.map (fun q => (q.1, jtr g q.2))
def J (b : jMI) (d kc ks : Nat) (Q : Option Value → jPS → Prop) (pc : Nat) (ls : List (Nat × Value)) (st : List Value) (S : jPS) : Prop :=
  ∀ (g : jG) (p : Program) (l : Launch) (e : Env) (R : Room) (s : State) (m : MethodId) (args : Array Value) (below : List Frame) (meth : Method) (c : Code) (cells slots : Nat) (Z : State → Prop),
    jCx b d kc ks g p R s m args meth c cells slots → jRt b g Q p l e R s m args below meth c (cells + kc) (slots + ks) Z →
    ∀ (H : Heap) (locs : List Loc) (lsA : Array Slot), lv_has lsA b.2.2.2.1 (jlv g ls) → jR g S H → va_S (fun q => g.1 ≤ q) s.heap H locs →
      W p l e R s m args below meth c H locs cells slots Z (F0 m pc lsA (st.map (jtr g)))
theorem jtr_cat (g : jG) (v : Value) : (jtr g v).category = v.category := by cases v <;> rfl
theorem jlv_at {g : jG} {ls : List (Nat × Value)} {lsA : Array Slot} {nL : Nat} (hv : lv_has lsA nL (jlv g ls)) {k i : Nat} {v : Value} (h : ls[k]? = some (i, v)) : lsA[i]? = some (.val (jtr g v)) :=
  hv.2.2 (i, jtr g v) (List.mem_map.mpr ⟨(i, v), List.mem_of_getElem? h, rfl⟩)
theorem jlv_sub {g : jG} {ls ls' : List (Nat × Value)} {lsA : Array Slot} {nL : Nat} (hv : lv_has lsA nL (jlv g ls)) (h : ∀ q ∈ ls', q ∈ ls) : lv_has lsA nL (jlv g ls') :=
  ⟨hv.1, hv.2.1, fun q hq => by
    obtain ⟨x, hx, rfl⟩ := List.mem_map.mp hq
    exact hv.2.2 _ (List.mem_map.mpr ⟨x, h x hx, rfl⟩)⟩
/-- fewer locals -/
theorem J_ls {b : jMI} {d kc ks : Nat} {Q : Option Value → jPS → Prop} {pc : Nat} {ls ls' : List (Nat × Value)} {st : List Value} {S : jPS} (h : ∀ q ∈ ls', q ∈ ls) (k : J b d kc ks Q pc ls' st S) : J b d kc ks Q pc ls st S := by
  intro g p l e R s m args below meth c cells slots Z C Rt H locs lsA hv hP hS
  exact k g p l e R s m args below meth c cells slots Z C Rt H locs lsA (jlv_sub hv h) hP hS
theorem J_pick {b : jMI} {d kc ks : Nat} {Q : Option Value → jPS → Prop} {pc : Nat} {ls ls' : List (Nat × Value)} {st : List Value} {S : jPS} (is : List Nat) (h : lv_pick ls is = ls') (k : J b d kc ks Q pc ls' st S) : J b d kc ks Q pc ls st S := by
  refine J_ls (fun q hq => ?_) k
  rw [← h] at hq
  obtain ⟨i, -, hi⟩ := List.mem_filterMap.mp hq
  exact List.mem_of_getElem? hi
/-- the end, more than is asked -/
theorem J_mono {b : jMI} {d d' kc ks : Nat} {Q Q' : Option Value → jPS → Prop} {pc : Nat} {ls : List (Nat × Value)} {st : List Value} {S : jPS} (hd : d' ≤ d) (hQ : ∀ v S, Q' v S → Q v S) (k : J b d' kc ks Q' pc ls st S) : J b d kc ks Q pc ls st S := by
  intro g p l e R s m args below meth c cells slots Z C Rt
  refine k g p l e R s m args below meth c cells slots Z ⟨C.1, C.2.1, ⟨Nat.le_trans hd C.2.2.1.1, Nat.le_trans (Nat.mul_le_mul_left _ hd) C.2.2.1.2⟩, C.2.2.2⟩ ?_
  intro v S H locs pc lsA hq
  exact Rt v S H locs pc lsA (hQ v S hq)
theorem J_ret {b : jMI} {d kc ks : Nat} {Q : Option Value → jPS → Prop} {pc : Nat} {ls : List (Nat × Value)} {v : Option Value} {st : List Value} {S : jPS} (hst : st = v.toList) (hr : jret b v pc) (hQ : Q v S) : J b d kc ks Q pc ls st S := by
  intro g p l e R s m args below meth c cells slots Z C Rt H locs lsA hv hP hS
  subst hst
  exact W.widen (Nat.le_add_right _ _) (Nat.le_add_right _ _) (Rt v S H locs pc lsA hQ hP hS hr)
def jPc (g : jG) (As : List Value) (S : jPS) : Array Value → State → Prop := va_Pc (As.map (jtr g)) (fun U => jR g S U.heap ∧ va_K g.2.1 vwCl (jtys g) U ∧ g.1 ≤ U.heap.size ∧ jT g U)
def jQc (g : jG) (Q : Option Value → jPS → Prop) : Array Value → State → Outcome → State → Prop := fun _ st oc t => (∃ (v : Option Value) (S : jPS), oc = .returned (v.map (jtr g)) ∧ Q v S ∧ jR g S t.heap) ∧ va_F (fun q => g.1 ≤ q) st t
def jrm (d kc ks : Nat) : Room := { frames := d, cells := kc, slots := ks, locals := 100 * d }
def jyw (b : jMI) : List Cond := .code b.2.1 b.2.2.1 b.2.2.2.1 b.2.2.2.2 :: jgt
theorem jlg_len (g : jG) (As : List Value) : (lg_sl (As.map (jtr g))).length = (lg_sl As).length := by
  induction As with
  | nil => rfl
  | cons v t ih =>
    have e : ∀ l : List Value, (lg_sl (v :: l)).length = (if v.category = 2 then 2 else 1) + (lg_sl l).length := fun l => by
      simp only [lg_sl, List.flatMap_cons, List.length_append]
      split <;> rfl
    have e2 : (lg_sl (jtr g v :: t.map (jtr g))).length = (if (jtr g v).category = 2 then 2 else 1) + (lg_sl (t.map (jtr g))).length := by
      simp only [lg_sl, List.flatMap_cons, List.length_append]
      split <;> rfl
    rw [List.map_cons, e2, e, ih, jtr_cat]
theorem jlv_args (g : jG) (As : List Value) : ∀ i : Nat, lv_args i (As.map (jtr g)) = jlv g (lv_args i As) := by
  induction As with
  | nil => intro i; rfl
  | cons v t ih =>
    intro i
    show (i, jtr g v) :: lv_args (if (jtr g v).category = 2 then i + 2 else i + 1) (t.map (jtr g)) = _
    rw [jtr_cat, ih]
    rfl
set_option maxHeartbeats 4000000 in
theorem J_met {b : jMI} {d kc ks : Nat} {Q : Option Value → jPS → Prop} {As : List Value} {S : jPS} (hy : plainName b.2.1.cls = true) (hown : b.1 = b.2.1.cls) (hA : (lg_sl As).length ≤ b.2.2.2.1) (hJ : J b d kc ks Q 0 (lv_args 0 As) [] S) (g : jG) (l : Launch) :
    Met l b.2.1 (jyw b) (jrm d kc ks) (jPc g As S) (jQc g Q) kc ks (fun q => g.1 ≤ q) := by
  refine Met.ofW (cc := b.2.2.1) (maxL := b.2.2.2.1) (ret := b.2.2.2.2) hy rfl ?_
  intro p e s m args below meth c s₁ B hml hv
  obtain ⟨rfl, hP, hK, hle, hT⟩ := hv
  have hts := atoms_spec (ws := jyw b) B.pre
  have hr := B.returns
  have hlocks := B.notSynchronized
  have hown2 : s.vm.findClass b.1 = some m.cls := by rw [hown]; exact findClass_of_methodNamed B.named
  have hl := lv_entry (As.map (jtr g)) (n := b.2.2.2.1) (by rw [jlg_len]; exact hA)
  rw [lg_entry_eq]
  rw [jlv_args] at hl
  refine hJ g p l e _ s m _ below meth c 0 0 _ ⟨⟨B.exec, B.bytes, hml, hown2, fun w hw => hts w (List.mem_cons_of_mem _ hw)⟩, ⟨hK, hle, hT⟩, ⟨Nat.le_refl _, Nat.le_refl _⟩, ⟨by rw [Nat.zero_add]; exact Nat.le_refl _, by rw [Nat.zero_add]; exact Nat.le_refl _⟩, (name_of_methodNamed B.named B.method).1⟩ ?_ s.heap [] _ hl hP va_S.rf
  intro v S' H locs pc lsA hQ hP' hS' hret
  rw [Nat.zero_add, Nat.zero_add]
  have hf : ∀ q ∈ locs, g.1 ≤ q.base := hS'.2.2
  have hq : ∀ t : State, t.heap = H → s.WarmedH t.vm → jQc g Q (As.map (jtr g)).toArray s (.returned (v.map (jtr g))) t := fun t ht _ => ⟨⟨v, S', rfl, hQ, by rw [ht]; exact hP'⟩, hS'.F ht⟩
  cases v with
  | none => exact W.vret B.exec B.bytes (hr.trans hret.2) hq hf hret.1
  | some v =>
    cases v with
    | int x =>
      obtain ⟨h1, h2 | ⟨h2, h3⟩ | ⟨h2, h3⟩ | ⟨h2, h3⟩⟩ := hret
      · exact W.iret B.exec B.bytes (hr.trans h2) hq hf h1
      · exact W.zret B.exec B.bytes (hr.trans h2) (by rcases h3 with rfl | rfl <;> rfl) hq hf h1
      · exact W.zret B.exec B.bytes (hr.trans h2) h3 hq hf h1
      · exact W.zret B.exec B.bytes (hr.trans h2) h3 hq hf h1
    | long x => exact W.lret B.exec B.bytes (hr.trans hret.2) hq hf hret.1
    | ref x =>
      obtain ⟨h1, n, h2⟩ := hret
      exact W.aret B.exec B.bytes (hr.trans h2) (Or.inl ⟨n, rfl⟩) (Or.inr ⟨_, rfl⟩) hq hf h1
    | null =>
      obtain ⟨h1, n, h2⟩ := hret
      exact W.aret B.exec B.bytes (hr.trans h2) (Or.inl ⟨n, rfl⟩) (Or.inl rfl) hq hf h1
    | _ => exact hret.elim
theorem jPc_blind (g : jG) (As : List Value) (S : jPS) : FrameBlind (jPc g As S) := by
  intro a U G mk h
  obtain ⟨h0, h1, h2, h3, h4⟩ := h
  exact ⟨h0, h1, va_K.moved (u := U) (U := U.calling G mk a) (Vm.Alike.refl U.vm) h2, h3, jT_calling G mk a h4⟩
theorem jPc_of {b : jMI} {d kc ks : Nat} {g : jG} {p : Program} {R : Room} {s : State} {m : MethodId} {args : Array Value} {meth : Method} {c : Code} {cells slots : Nat} {S : jPS} {H : Heap} {locs : List Loc} (As : List Value) (C : jCx b d kc ks g p R s m args meth c cells slots) (hP : jR g S H) (hS : va_S (fun q => g.1 ≤ q) s.heap H locs) :
    ∀ U : State, U.heap = H → s.WarmedH U.vm → jPc g As S (As.map (jtr g)).toArray U := fun U hU hW =>
  ⟨rfl, by rw [hU]; exact hP, va_K.moved hW.alike C.2.1.1, by rw [hU]; exact Nat.le_trans C.2.1.2.1 hS.1, jT_moved C.2.1.2.2 hS hU hW⟩
section JC
variable {p : Program} {l : Launch} {e : Env} {R : Room} {s : State} {m : MethodId} {args : Array Value} {below : List Frame} {meth : Method} {c : Code} {H : Heap} {locs : List Loc} {cells slots : Nat} {Z : State → Prop}
theorem jcall {g : jG} {pc mc ms : Nat} {ls : Array Slot} {rest st0 : List Value} {a : Array Value} {Q' : Option Value → jPS → Prop} (hr : va_Run p l e R s m args below meth c H locs cells slots mc ms (F0 m pc ls st0) rest (jQc g Q' a) (fun q => g.1 ≤ q)) (hS : va_S (fun q => g.1 ≤ q) s.heap H locs)
    (kk : ∀ (v : Option Value) (S' : jPS) (H1 : Heap) (locs1 : List Loc), Q' v S' → jR g S' H1 → va_S (fun q => g.1 ≤ q) s.heap H1 locs1 → W p l e R s m args below meth c H1 locs1 (cells + mc) (slots + ms) Z (F0 m (pc + 3) ls ((v.map (jtr g)).toList ++ rest))) : W p l e R s m args below meth c H locs cells slots Z (F0 m pc ls st0) := by
  intro T hT X
  obtain ⟨v, st₀, t, T', L, h0, X', hL, e1, e2, ⟨⟨v', S', hv, hp, hb⟩, hz, hk⟩, st⟩ := hr T hT X
  cases hv
  rw [h0] at hz hk
  obtain ⟨t2, a1, b1⟩ := kk v' S' T'.heap (locs ++ L) hp (by rw [e1]; exact hb)
    ⟨Nat.le_trans hS.1 (by rw [e1]; exact hz), fun q h1 h2 => by rw [e1, hk q (Nat.lt_of_lt_of_le h1 hS.1) h2]; exact hS.2.1 q h1 h2, fun q hq => by
      rcases List.mem_append.mp hq with h | h
      · exact hS.2.2 q h
      · exact hL q h⟩ T' rfl X'
  exact ⟨t2, st t2 a1, b1⟩
end JC
/-- a call of a method of the receiver's own class -/
def jCV (own : String) (idx : Nat) (b : jMI) (n : Nat) : Prop :=
  (Cond.methodLink own idx b.2.1 ∈ jgt ∧ Cond.instanceMethod b.2.1 ∈ jgt ∧ Cond.selects b.1 b.2.1 b.2.1 ∈ jgt ∧ Cond.initialized b.1 ∈ jgt ∧ Cond.code b.2.1 b.2.2.1 b.2.2.2.1 b.2.2.2.2 ∈ jgt) ∧
  (b.2.1.cls = b.1 ∧ b.2.1.cls ≠ "java/lang/invoke/MethodHandle" ∧ b.2.1.cls ≠ "java/lang/invoke/VarHandle" ∧ (parseMethodDescriptor b.2.1.desc).map (fun d => d.parameters.length) = some n) ∧ plainName b.2.1.cls = true ∧ b.2.2.2.1 ≤ 40
def jCS (own : String) (idx : Nat) (b : jMI) (n : Nat) : Prop :=
  (Cond.methodLink own idx b.2.1 ∈ jgt ∧ Cond.static b.2.1 ∈ jgt ∧ Cond.initialized b.2.1.cls ∈ jgt ∧ Cond.code b.2.1 b.2.2.1 b.2.2.2.1 b.2.2.2.2 ∈ jgt) ∧
  (b.2.1.cls ≠ "java/lang/invoke/MethodHandle" ∧ b.2.1.cls ≠ "java/lang/invoke/VarHandle" ∧ (parseMethodDescriptor b.2.1.desc).map (fun d => d.parameters.length) = some n) ∧ (plainName b.2.1.cls = true ∧ b.1 = b.2.1.cls) ∧ b.2.2.2.1 ≤ 40
def jCN (own : String) (idx : Nat) (b : jMI) (n : Nat) : Prop :=
  (∃ host, (own, idx, b.2.1, host) ∈ jnst) ∧ (Cond.static b.2.1 ∈ jgt ∧ Cond.initialized b.2.1.cls ∈ jgt ∧ Cond.code b.2.1 b.2.2.1 b.2.2.2.1 b.2.2.2.2 ∈ jgt) ∧
  (b.2.1.cls ≠ "java/lang/invoke/MethodHandle" ∧ b.2.1.cls ≠ "java/lang/invoke/VarHandle" ∧ (parseMethodDescriptor b.2.1.desc).map (fun d => d.parameters.length) = some n) ∧ (plainName b.2.1.cls = true ∧ b.1 = b.2.1.cls) ∧ b.2.2.2.1 ≤ 40
theorem jrm_fits {d d' : Nat} {R : Room} {mL : Nat} (hd : d' + 1 ≤ d) (h1 : d ≤ R.frames) (h2 : 100 * d ≤ R.locals) (hm : mL ≤ 40) {kc ks : Nat} : (jrm d' kc ks).frames + 1 ≤ R.frames ∧ 8 + (mL + 11) + (jrm d' kc ks).locals ≤ R.locals := by
  refine ⟨Nat.le_trans hd h1, ?_⟩
  show 8 + (mL + 11) + 100 * d' ≤ R.locals
  omega
set_option maxHeartbeats 4000000 in
theorem J_callV {b b' : jMI} {d d' kc ks kc' ks' : Nat} {Q Q' : Option Value → jPS → Prop} {pc idx n ci r : Nat} {ls : List (Nat × Value)} {As st : List Value} {S : jPS} {T : u_T} {N : Nat}
    (hc : jCV b.1 idx b' n) (hdg : decode b.2.2.1 pc = .ok (.invokevirtual idx, 3)) (hci : vwCl[ci]? = some (b'.1, T, N)) (hc13 : ci < 13) (hn : As.length = n) (hw : (st.map (fun v => v.category)).sum ≤ 8) (hA : (lg_sl (.ref r :: As)).length ≤ b'.2.2.2.1) (hd : d' + 1 ≤ d) (hr : r < S.1.2) (hk : (S.1.1 r).1 = ci)
    (hJ : J b' d' kc' ks' Q' 0 (lv_args 0 (.ref r :: As)) [] S) (hK : ∀ v S', Q' v S' → J b d kc ks Q (pc + 3) ls (v.toList ++ st) S') : J b d (kc' + kc) (ks' + ks) Q pc ls (As.reverse ++ .ref r :: st) S := by
  intro g p l e R s m args below meth c cells slots Z C Rt H locs lsA hv hP hS
  obtain ⟨⟨m1, m2, m3, m4, m5⟩, hd1, hpl, hmx⟩ := hc
  have hr6 : jad g r = g.1 + r := if_pos (Nat.lt_of_lt_of_le hr hP.2.1)
  have hrecv := va_recv C.2.1.1 hP.1 hci (he := by rw [jws_get hr]; unfold jent; rw [hk, if_pos hc13])
  have hG : GoodIn jgt (wsV b.1 idx b'.1 b'.2.1 (jyw b')) := jgt_good _ (fun w hw => by
    simp only [wsV, jyw, List.cons_append, List.nil_append, List.mem_cons] at hw
    rcases hw with rfl | rfl | rfl | rfl | rfl | hw
    · exact m1
    · exact m2
    · exact m3
    · exact m4
    · exact m5
    · exact hw)
  have run := va_runV (As := As.map (jtr g)) (rest := st.map (jtr g)) (g := F0 m pc lsA ((As.map (jtr g)).reverse ++ .ref (g.1 + r) :: st.map (jtr g))) (cells := cells) (slots := slots) (locs := locs) (below := below) (e := e) (meth := meth) C.1 (J_met (b := b') hpl hd1.1.symm hA hJ g l) (cwV n C.1.2.2.2.2 hG rfl rfl rfl hd1 (jrm_fits hd C.2.2.1.1 C.2.2.1.2 hmx)) ⟨jPc_blind _ _ _, hrecv, by
    have := jPc_of (.ref r :: As) C hP hS
    simpa [jtr, hr6] using this⟩ rfl (by rw [List.length_map]; exact hn) hv.1 rfl (by
      show 2 * 0 + _ ≤ 8
      have : (List.map (fun v => v.category) (st.map (jtr g))) = st.map (fun v => v.category) := by
        rw [List.map_map]
        exact List.map_congr_left (fun v _ => jtr_cat g v)
      rw [this]
      omega) hdg ⟨by have := C.2.2.2.1.1; omega, by have := C.2.2.2.1.2; omega⟩
  have hst : (As.reverse ++ .ref r :: st).map (jtr g) = (As.map (jtr g)).reverse ++ .ref (g.1 + r) :: st.map (jtr g) := by
    rw [List.map_append, List.map_reverse, List.map_cons]
    show _ ++ Value.ref (jad g r) :: _ = _
    rw [hr6]
  rw [hst]
  refine jcall run hS ?_
  intro v S' H1 locs1 hq hP1 hS1
  have h3 := hK v S' hq g p l e R s m args below meth c (cells + kc') (slots + ks') Z ⟨C.1, C.2.1, C.2.2.1, ⟨by have := C.2.2.2.1.1; omega, by have := C.2.2.2.1.2; omega⟩, C.2.2.2.2⟩ (by
    rw [Nat.add_assoc, Nat.add_assoc]; exact Rt) H1 locs1 lsA hv hP1 hS1
  have e3 : (v.toList ++ st).map (jtr g) = (v.map (jtr g)).toList ++ st.map (jtr g) := by
    rw [List.map_append]
    cases v <;> rfl
  rw [e3] at h3
  exact h3
set_option maxHeartbeats 4000000 in
theorem J_callS {b b' : jMI} {d d' kc ks kc' ks' : Nat} {Q Q' : Option Value → jPS → Prop} {pc idx n : Nat} {ls : List (Nat × Value)} {As st : List Value} {S : jPS}
    (hc : jCS b.1 idx b' n) (hdg : decode b.2.2.1 pc = .ok (.invokestatic idx, 3)) (hn : As.length = n) (hw : (st.map (fun v => v.category)).sum ≤ 8) (hA : (lg_sl As).length ≤ b'.2.2.2.1) (hd : d' + 1 ≤ d)
    (hJ : J b' d' kc' ks' Q' 0 (lv_args 0 As) [] S) (hK : ∀ v S', Q' v S' → J b d kc ks Q (pc + 3) ls (v.toList ++ st) S') : J b d (kc' + kc) (ks' + ks) Q pc ls (As.reverse ++ st) S := by
  intro g p l e R s m args below meth c cells slots Z C Rt H locs lsA hv hP hS
  obtain ⟨⟨m1, m2, m4, m5⟩, hd1, hpl, hmx⟩ := hc
  have hG : GoodIn jgt (va_wsS b.1 idx b'.2.1 (jyw b')) := jgt_good _ (fun w hw => by
    simp only [va_wsS, jyw, List.cons_append, List.nil_append, List.mem_cons] at hw
    rcases hw with rfl | rfl | rfl | rfl | hw
    · exact m1
    · exact m2
    · exact m4
    · exact m5
    · exact hw)
  have run := va_runS (As := As.map (jtr g)) (rest := st.map (jtr g)) (g := F0 m pc lsA ((As.map (jtr g)).reverse ++ st.map (jtr g))) (cells := cells) (slots := slots) (locs := locs) (below := below) (e := e) (meth := meth) C.1 (J_met (b := b') hpl.1 hpl.2 hA hJ g l) (va_cwS n C.1.2.2.2.2 hG rfl rfl rfl hd1 (jrm_fits hd C.2.2.1.1 C.2.2.1.2 hmx)) ⟨jPc_blind _ _ _, jPc_of As C hP hS⟩ rfl (by rw [List.length_map]; exact hn) hv.1 rfl (by
      show 2 * 0 + _ ≤ 8
      have : (List.map (fun v => v.category) (st.map (jtr g))) = st.map (fun v => v.category) := by
        rw [List.map_map]
        exact List.map_congr_left (fun v _ => jtr_cat g v)
      rw [this]
      omega) hdg ⟨by have := C.2.2.2.1.1; omega, by have := C.2.2.2.1.2; omega⟩
  have hst : (As.reverse ++ st).map (jtr g) = (As.map (jtr g)).reverse ++ st.map (jtr g) := by
    rw [List.map_append, List.map_reverse]
  rw [hst]
  refine jcall run hS ?_
  intro v S' H1 locs1 hq hP1 hS1
  have h3 := hK v S' hq g p l e R s m args below meth c (cells + kc') (slots + ks') Z ⟨C.1, C.2.1, C.2.2.1, ⟨by have := C.2.2.2.1.1; omega, by have := C.2.2.2.1.2; omega⟩, C.2.2.2.2⟩ (by
    rw [Nat.add_assoc, Nat.add_assoc]; exact Rt) H1 locs1 lsA hv hP1 hS1
  have e3 : (v.toList ++ st).map (jtr g) = (v.map (jtr g)).toList ++ st.map (jtr g) := by
    rw [List.map_append]
    cases v <;> rfl
  rw [e3] at h3
  exact h3
set_option maxHeartbeats 4000000 in
theorem J_callN {b b' : jMI} {d d' kc ks kc' ks' : Nat} {Q Q' : Option Value → jPS → Prop} {pc idx n : Nat} {ls : List (Nat × Value)} {As st : List Value} {S : jPS}
    (hc : jCN b.1 idx b' n) (hdg : decode b.2.2.1 pc = .ok (.invokestatic idx, 3)) (hn : As.length = n) (hw : (st.map (fun v => v.category)).sum ≤ 8) (hA : (lg_sl As).length ≤ b'.2.2.2.1) (hd : d' + 1 ≤ d)
    (hJ : J b' d' kc' ks' Q' 0 (lv_args 0 As) [] S) (hK : ∀ v S', Q' v S' → J b d kc ks Q (pc + 3) ls (v.toList ++ st) S') : J b d (kc' + kc) (ks' + ks) Q pc ls (As.reverse ++ st) S := by
  intro g p l e R s m args below meth c cells slots Z C Rt H locs lsA hv hP hS
  obtain ⟨⟨host, m1⟩, ⟨m2, m4, m5⟩, hd1, hpl, hmx⟩ := hc
  have hG : GoodIn jgt (jyw b') := jgt_good _ (fun w hw => by
    simp only [jyw, List.mem_cons] at hw
    rcases hw with rfl | hw
    · exact m5
    · exact hw)
  have hl : va_Nw (.methodLinkNest b.1 idx b'.2.1 host) s := C.2.1.2.2.2.2.1 _ m1
  have run := va_runSN (As := As.map (jtr g)) (rest := st.map (jtr g)) (g := F0 m pc lsA ((As.map (jtr g)).reverse ++ st.map (jtr g))) (cells := cells) (slots := slots) (locs := locs) (below := below) (e := e) (meth := meth) C.1 (J_met (b := b') hpl.1 hpl.2 hA hJ g l) ⟨va_cnB n C.1.2.2.2.2 hG rfl rfl rfl hl (C.1.2.2.2.2 _ m4) hd1 (jrm_fits hd C.2.2.1.1 C.2.2.1.2 hmx), C.1.2.2.2.2 _ m2, trivial⟩ ⟨jPc_blind _ _ _, jPc_of As C hP hS⟩ rfl (by rw [List.length_map]; exact hn) hv.1 rfl (by
      show 2 * 0 + _ ≤ 8
      have : (List.map (fun v => v.category) (st.map (jtr g))) = st.map (fun v => v.category) := by
        rw [List.map_map]
        exact List.map_congr_left (fun v _ => jtr_cat g v)
      rw [this]
      omega) hdg ⟨by have := C.2.2.2.1.1; omega, by have := C.2.2.2.1.2; omega⟩
  have hst : (As.reverse ++ st).map (jtr g) = (As.map (jtr g)).reverse ++ st.map (jtr g) := by
    rw [List.map_append, List.map_reverse]
  rw [hst]
  refine jcall run hS ?_
  intro v S' H1 locs1 hq hP1 hS1
  have h3 := hK v S' hq g p l e R s m args below meth c (cells + kc') (slots + ks') Z ⟨C.1, C.2.1, C.2.2.1, ⟨by have := C.2.2.2.1.1; omega, by have := C.2.2.2.1.2; omega⟩, C.2.2.2.2⟩ (by
    rw [Nat.add_assoc, Nat.add_assoc]; exact Rt) H1 locs1 lsA hv hP1 hS1
  have e3 : (v.toList ++ st).map (jtr g) = (v.map (jtr g)).toList ++ st.map (jtr g) := by
    rw [List.map_append]
    cases v <;> rfl
  rw [e3] at h3
  exact h3
