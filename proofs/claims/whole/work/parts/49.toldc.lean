/-! what a throw rests on: a launch without stack traces, where Throwable's statics lie, the words that only the tables decide -/
def nsD : List Cond := [.declares (Bundle.initS "java/lang/RuntimeException"), .declares (Bundle.initS "java/lang/Exception"), .declares (Bundle.initS Bundle.tN)]
def jY (g : jG) (l : Launch) (U : State) : Prop := l.stackTraces = false ∧ vx_L Bundle.tN "UNASSIGNED_STACK" Bundle.steD (fun q => g.1 ≤ q) U U.heap ∧ vx_L Bundle.tN "SUPPRESSED_SENTINEL" Bundle.listD (fun q => g.1 ≤ q) U U.heap ∧
  (va_Nw (.declares (Bundle.initS "java/lang/RuntimeException")) U ∧ va_Nw (.declares (Bundle.initS "java/lang/Exception")) U ∧ va_Nw (.declares (Bundle.initS Bundle.tN)) U) ∧ va_Nw (.castable nsN nsN) U
theorem jY_moved {g : jG} {l : Launch} {s U : State} {H : Heap} {locs : List Loc} (h : jY g l s) (hS : va_S (fun q => g.1 ≤ q) s.heap H locs) (hU : U.heap = H) (hW : s.WarmedH U.vm) : jY g l U := by
  obtain ⟨h1, h2, h3, ⟨h4, h5, h6⟩, h7⟩ := h
  refine ⟨h1, ?_, ?_, ⟨va_Nw.warmD hW h4, va_Nw.warmD hW h5, va_Nw.warmD hW h6⟩, va_Nw.warmC hW h7⟩
  · rw [hU]; exact (h2.moved hW.alike).kept hS.2.1
  · rw [hU]; exact (h3.moved hW.alike).kept hS.2.1
theorem jY_calling {g : jG} {l : Launch} {U : State} (G : JFrame) (mk : MethodId) (a : Array Value) (h : jY g l U) : jY g l (U.calling G mk a) := by
  obtain ⟨h1, h2, h3, ⟨h4, h5, h6⟩, h7⟩ := h
  exact ⟨h1, h2.moved (U := U.calling G mk a) (Vm.Alike.refl U.vm), h3.moved (U := U.calling G mk a) (Vm.Alike.refl U.vm), ⟨va_Nw.same rfl rfl h4, va_Nw.same rfl rfl h5, va_Nw.same rfl rfl h6⟩, va_Nw.same rfl rfl h7⟩
def jPcY (g : jG) (l : Launch) (As : List Value) (S : jPS) : Array Value → State → Prop := fun a U => jPc g As S a U ∧ jY g l U
theorem jPcY_blind (g : jG) (l : Launch) (As : List Value) (S : jPS) : FrameBlind (jPcY g l As S) := fun a U G mk h => ⟨jPc_blind g As S a U G mk h.1, jY_calling G mk a h.2⟩
theorem jPcY_of {b : jMI} {d kc ks : Nat} {g : jG} {p : Program} {l : Launch} {R : Room} {s : State} {m : MethodId} {args : Array Value} {meth : Method} {c : Code} {cells slots : Nat} {S : jPS} {H : Heap} {locs : List Loc} (As : List Value) (C : jCx b d kc ks g p R s m args meth c cells slots) (Yy : jY g l s) (hP : jR g S H) (hS : va_S (fun q => g.1 ≤ q) s.heap H locs) :
    ∀ U : State, U.heap = H → s.WarmedH U.vm → jPcY g l As S (As.map (jtr g)).toArray U := fun U hU hW => ⟨jPc_of As C hP hS U hU hW, jY_moved Yy hS hU hW⟩
theorem ns_words : ∀ w ∈ (nsAt RX12 216).filter vx_no, w ∈ lw_tbl := by decide +kernel
theorem ns_rest : ∀ w ∈ (nsAt RX12 216).filter vx_no, goodWord w = true ∨ w ∈ nsD ∨ w = .castable nsN nsN := by decide +kernel
theorem ns_ot : ∀ w ∈ Cond.classLink RX12 212 nsN :: Cond.initialized nsN :: (nsAt RX12 216).filter vx_no, vx_ot w = true := by decide +kernel
theorem ns_cl : Cond.classLink RX12 212 nsN ∈ jgt := List.mem_filter.mpr ⟨by decide +kernel, by decide +kernel⟩
theorem ns_in : Cond.initialized nsN ∈ jgt := List.mem_filter.mpr ⟨by decide +kernel, by decide +kernel⟩
theorem ns_lcl : Cond.classLink RL 13 nsN ∈ jgt := List.mem_filter.mpr ⟨by decide +kernel, by decide +kernel⟩
theorem ns_hat {g : jG} {l : Launch} {s : State} {args : Array Value} (hts : ∀ w ∈ jgt, w.before args s = true) (Yy : jY g l s) : ∀ w ∈ (nsAt RX12 216).filter vx_no, w.before args s = true := by
  intro w hw
  rcases ns_rest w hw with h | h | h
  · exact hts w (List.mem_filter.mpr ⟨ns_words w hw, h⟩)
  · simp only [nsD, List.mem_cons, List.not_mem_nil, or_false] at h
    rcases h with rfl | rfl | rfl
    · exact va_Nw.use rfl Yy.2.2.2.1.1
    · exact va_Nw.use rfl Yy.2.2.2.1.2.1
    · exact va_Nw.use rfl Yy.2.2.2.1.2.2
  · rw [h]; exact va_Nw.use rfl Yy.2.2.2.2
/-- told's contract: it answers, or throws with all cells as they were -/
def tXC (g : jG) (r : Option Int32 × jM) : String → State → State → Prop := fun E st t => E = nsN ∧ r.1 = none ∧ jR g (ms r.2) t.heap ∧ va_F (fun q => g.1 ≤ q) st t
theorem jR_more {g : jG} {σ : jM} {H H1 : Heap} (h : jR g (ms σ) H) (hk : ∀ q : Nat, q < H.size → H1[q]? = H[q]?) : jR g (ms σ) H1 :=
  ⟨va_P.kept h.1 (fun k q hq => hk _ (vx_lt h.1 hq)), h.2.1, fun z => absurd ((ms_off σ).symm.trans z) (by decide)⟩
