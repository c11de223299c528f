/-! THE CLAIM OUT OF THE WALK -/
def R_law : String := "GridRoomLaw"
def lw_P (b : Addr) (xs : List Int32) (args : Array Value) (s : State) : Prop := args = #[.ref b] ∧ s.IntsAt b xs ∧ xs.length ≤ 3072 ∧ (Jvm.Cond.and given_1 narrow_1).before args s = true
def lw_Q (_ : Array Value) (s : State) (o : Outcome) (t : State) : Prop := o = .returned (some (.int 1)) ∧ Framed s o t [] 601024 7293034
def lw_Z (below : List Frame) (a : Array Value) (s : State) : State → Prop := fun t => ∃ o, t.status = .running ∧ Ended t below o ∧ lw_Q a s o t
/-- the law's own end, with 1 on the stack, nothing written that was there before, its room as the claim has it -/
theorem lw_ret {p : Program} {l : Launch} {e : Env} {s : State} {m : MethodId} {below : List Frame} {meth : Method} {c : Code} {b : Nat} (hx : p.tables.exec = Jvm.exec) (hb : c.code = code) (hr : meth.sig.returnType = ret) (hlocks : meth.locks = false) {pc : Nat} {H : Heap} {ls : Array Slot} (hdg : decode code pc = .ok (.ireturn, 1)) : W p l e room_1 s m #[Value.ref b] below meth c H [] 601024 7293034 (lw_Z below #[Value.ref b] s) (F0 m pc ls [.int 1]) := by
  intro T hT X
  obtain ⟨fs, hret, hrun, hended, hW, hframe⟩ := X.leave (v := some (.int 1)) (hlocks := hlocks) (fun h => by rw [hr] at h; cases h)
  have hmeth' : T.vm.method? m = some meth := X.method'
  refine ⟨T.setFrames fs, ?_, .returned (some (.int 1)), hrun, hended, rfl, ⟨_, rfl⟩, hW, hframe⟩
  jvm_step X.here [X.here.top, hx, hb, hdg, hmeth', hr, ret, narrow_b1]
  (try refine ⟨rfl, ?_⟩); (try refine ⟨rfl, ?_⟩)
  first | (intro acts; rw [hret _ acts rfl rfl rfl]) | rw [hret _ _ rfl rfl rfl]
  exact Steps.refl _
/-- what holds at the law's entry -/
def lw_At (l : Launch) (p : Program) (s : State) (m : MethodId) (meth : Method) (c : Code) (b L : Nat) (xs : Nat → Int32) : Prop :=
  p.tables.exec = Jvm.exec ∧ c.code = code ∧ meth.sig.returnType = ret ∧ c.maxLocals = 7 ∧ s.vm.findClass R_law = some m.cls ∧ (∀ w ∈ lw_tbl, w.before #[Value.ref b] s = true) ∧ va_X b L xs s s.heap ∧ b < s.heap.size ∧ meth.locks = false ∧ (Jvm.Cond.and given_1 narrow_1).before #[Value.ref b] s = true ∧ meth.name = "law" ∧ l.stackTraces = false
theorem vx_Lof {args : Array Value} {s : State} {C n d : String} {A : Nat → Prop} (hl : (Cond.laysStatic C n d).before args s = true) (hA : ∀ a : Nat, a < s.heap.size → ¬ A a) : vx_L C n d A s s.heap := by
  obtain ⟨c, k, i, f, a, cell, hc, hi, hst, ha, hcell, hs, hcls, hlt, hty⟩ := Cond.laysStatic_spec hl
  exact ⟨c, k, i, f, a, cell, hc, hi, hst, ha, hcell, hs, hcls, hlt, hty, hA a (Array.getElem?_eq_some_iff.mp hcell).1⟩
theorem st_tu : Cond.laysStatic Bundle.tN "UNASSIGNED_STACK" Bundle.steD ∈ lw_tbl ∧ Cond.laysStatic Bundle.tN "SUPPRESSED_SENTINEL" Bundle.listD ∈ lw_tbl := by decide +kernel
/-- the start, as the walk's own words -/
theorem st_world {l : Launch} {p : Program} {s : State} {m : MethodId} {meth : Method} {c : Code} {b L : Nat} {xs : Nat → Int32} (C0 : lw_At l p s m meth c b L xs) : ∃ g : jG, g.1 = s.heap.size ∧ g.2.2.2.1 2000 = b ∧ va_K g.2.1 vwCl (jtys g) s ∧ jT g s ∧ jYL L xs g l s := by
  obtain ⟨hx, hb, hr, hml, hown, hts, hX, hbl, hlocks, hgv, hnm, htr⟩ := C0
  have hfl : ∀ w ∈ stF, w.before #[Value.ref b] s = true := flat_of_before _ hgv
  have hA : ∀ a : Nat, a < s.heap.size → ¬ (fun q : Nat => s.heap.size ≤ q) a := fun a h => Nat.not_le.mpr h
  obtain ⟨D, hD⟩ := st_known hts
  obtain ⟨cy, hcy⟩ := st_arrs hts
  obtain ⟨adK, adV, hS, hE⟩ := vk_Sof (args := #[Value.ref b]) (s := s) (N := 12) (tm := stm) (len := jslen) (byt := jsbyt) (A := fun q => s.heap.size ≤ q) st_len (fun i hi => hfl _ (st_ex i hi)) (fun i hi => hfl _ (st_co i hi)) (fun i hi => hfl _ (st_ar i hi)) (fun i hi => hfl _ (st_le i hi)) (fun i hi j hj => hfl _ (st_el i hi j hj)) (fun i j hi hj h => (st_ne i hi j hj h).imp (hfl _) (hfl _)) hA
  have hF1 : ∀ i, i < 12 → (fun i : Nat => if i < 12 then adK i else if i = 2000 then b else adV (i - 1000)) i = adK i := fun i hi => if_pos hi
  refine ⟨(s.heap.size, D, cy, (fun i => if i < 12 then adK i else if i = 2000 then b else adV (i - 1000)), adV), rfl, rfl, ⟨hD, fun k q hk => hcy _ rfl k q hk⟩, ⟨⟨fun i hi => ?_, fun i j hi hj e => ?_⟩, fun q hq => ?_, fun q hq => va_Nw.of rfl (hts _ (st_ns q hq)), fun C hC => va_AO.of (hts _ (st_ao C hC)), fun ty hty => jAA.of (hts _ (st_aa ty hty)), va_Zof (hts _ st_cs.1) (hts _ st_cs.2.1) (va_eqi (hfl _ st_cs.2.2)) hA, fun q hq => va_Zqof (hts _ (st_zq q hq).1) (hts _ (st_zq q hq).2.1) (hfl _ (st_zq q hq).2.2) hA, fun w hw => ?_⟩, ⟨htr, vx_Lof (hts _ st_tu.1) hA, vx_Lof (hts _ st_tu.2) hA, ⟨va_Nw.of rfl (hts _ (st_wl _ (by decide))), va_Nw.of rfl (hts _ (st_wl _ (by decide))), va_Nw.of rfl (hts _ (st_wl _ (by decide)))⟩, va_Nw.of rfl (hts _ (st_wl _ (by decide)))⟩, hX, hbl, Nat.not_le.mpr hbl⟩
  · show va_O "java/lang/String" ((fun i : Nat => if i < 12 then adK i else if i = 2000 then b else adV (i - 1000)) i) _ _ _ ∧ va_OF "java/lang/String" "coder" "B" _ ((fun i : Nat => if i < 12 then adK i else if i = 2000 then b else adV (i - 1000)) i) _ _ _ ∧ va_OF "java/lang/String" "value" "[B" _ ((fun i : Nat => if i < 12 then adK i else if i = 2000 then b else adV (i - 1000)) i) _ _ _ ∧ _
    rw [hF1 i hi]
    exact hS.1 i hi
  · have e : (fun i : Nat => if i < 12 then adK i else if i = 2000 then b else adV (i - 1000)) i = (fun i : Nat => if i < 12 then adK i else if i = 2000 then b else adV (i - 1000)) j := e
    rw [hF1 i hi, hF1 j hj] at e
    exact hS.2 i j hi hj e
  · obtain ⟨h1, h2, h3⟩ := st_rf q hq
    show vk_R q.1 q.2.1 q.2.2.1 ((fun i : Nat => if i < 12 then adK i else if i = 2000 then b else adV (i - 1000)) q.2.2.2) s
    rw [hF1 _ h1]
    refine vk_R.of (A := #[Value.ref b]) (hts _ h2) ?_
    rcases h3 with h3 | h3
    · rw [← h3]; exact hE _ h1
    · exact va_eqR (hfl _ h3) (hE _ h1)
  · show (if 1000 + w < 12 then adK (1000 + w) else if 1000 + w = 2000 then b else adV (1000 + w - 1000)) = adV w
    rw [if_neg (by omega), if_neg (by omega), show 1000 + w - 1000 = w by omega]
/-- from the entry, for every script of at most 3072 ints, the law comes to its end with true -/
theorem whole_start {p : Program} {e : Env} {s : State} {m : MethodId} {below : List Frame} {meth : Method} {c : Code} (l : Launch) {b L : Nat} {xs : Nat → Int32} (hL : L ≤ 3072) (C0 : lw_At l p s m meth c b L xs) : W p l e room_1 s m #[Value.ref b] below meth c s.heap [] 0 0 (lw_Z below #[Value.ref b] s) (entryFrame m ([Value.ref b] : List Value).toArray 7) := by
  obtain ⟨g, hg1, hg2, hK, hT, hY⟩ := st_world C0
  obtain ⟨hx, hb, hr, hml, hown, hts, hX, hbl, hlocks, hgv, hnm, htr⟩ := C0
  have hloop : JX mi_L_law 20 (L / 6 + 1) (6 * (L / 6 + 1)) (jYL L xs) (fun _ _ _ _ => False) (fun v _ => v = some (.int 1)) 23 (lsL (Int32.ofNat 0)) [] (ms sig0) := law_loop (Q := fun v _ => v = some (.int 1)) hL (Inv KF) (fun σ => rfl) all_ops (L / 6 + 1) 0 sig0 (by omega) (Nat.zero_le _) Inv_0
  obtain ⟨-, -, hw⟩ := law_head (Y := jYL L xs) (Q := fun v _ => v = some (.int 1)) hloop
  have hl := lv_entry ([.ref b]) (n := 7) (Nat.le_of_ble_eq_true rfl)
  rw [lg_entry_eq]
  generalize (lg_sl ([.ref b]) ++ List.replicate (7 - (lg_sl ([.ref b])).length) Slot.unset).toArray = ls at hl ⊢
  have hl : lv_has ls 7 [(0, .ref b)] := hl
  have hlen := fin_len
  have hsz := fin_sz
  have hs0 : szL [] = 0 := rfl
  have hl0 : ([] : List C0).length = 0 := rfl
  have R1 : room_1.cells = 601024 := rfl
  have R2 : room_1.slots = 7293034 := rfl
  have hw2 := hw (by rw [hlen]; omega) g p l e room_1 s m #[Value.ref b] below meth c 0 0 (lw_Z below #[Value.ref b] s) hY ⟨⟨hx, hb, hml, hown, fun w h => hts w (st_jgt w h)⟩, ⟨hK, by rw [hg1]; exact Nat.le_refl _, hT⟩, ⟨by decide, by decide⟩, ⟨by rw [R1, hlen, hl0]; omega, by rw [R2, hs0]; omega⟩, hnm⟩
  refine hw2 ?_ (fun _ _ _ _ _ _ _ z => z.elim) s.heap [] ls ?_ ⟨fun k q hk => ?_, Nat.zero_le _, fun _ => by rw [hg1]; rfl⟩ va_S.rf
  · intro v S H locs pc lsA hv hP hS hret
    subst hv
    have hdg : decode code pc = .ok (.ireturn, 1) := hret.1
    refine va_forget (fun q hq => by rw [← hg1]; exact hS.2.2 q hq) ?_
    refine W.widen (k := 601024) (n := 7293034) ?_ ?_ (lw_ret hx hb hr hlocks hdg)
    · rw [hlen, hl0]; omega
    · rw [hs0]; omega
  · have e : jad g 1002000 = b := by
      unfold jad
      rw [if_neg (by omega)]
      exact hg2
    show lv_has ls 7 [(0, .ref (jad g 1002000))]
    rw [e]
    exact hl
  · have hk : ([] : va_W)[k]? = some q := hk
    simp at hk
