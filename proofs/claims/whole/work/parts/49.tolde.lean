theorem lt_ofWH {l : Launch} {y : MethodName} {ws ws' : List Cond} {rm : Room} {Pc : Array Value → State → Prop} {Qc : Array Value → State → Outcome → State → Prop} {mc ms : Nat} {free : Addr → Prop} {cc : ByteArray} {maxL : Nat} {ret : Option FieldType} {hh : List (Nat × Nat × Nat × Nat)}
    (hy : plainName y.cls = true) (hw : ws = Cond.codeWith y cc maxL ret hh :: ws')
    (body : ∀ p e s m args below meth c s₁, BodyLoose p l y (headSpec ws rm) cc maxL ret e s m args below meth c s₁ → c.maxLocals = maxL → Pc args s →
      W p l e (headSpec ws rm).room s m args below meth c s.heap [] 0 0 (MQ below Qc args s mc ms free) (entryFrame m args maxL)) : Met l y ws rm Pc Qc mc ms free := by
  refine MetFree.of_bodyS (code := cc) (maxLocals := maxL) (ret := ret) hy ?_ ?_
  · intro args s m h hn
    obtain ⟨m9, meth, c, hn9, h1, h2, h3, h4, -, h5, h6, -⟩ := Cond.codeWith_spec (atoms_spec (ws := ws) h _ (by rw [hw]; exact List.mem_cons_self))
    cases hn.symm.trans hn9
    exact ⟨meth, c, h1, h2, h3, h4, h5, h6⟩
  · intro p e s m args below meth c s₁ B hml hP _
    have hh0 : s₁.heap = s.heap := by rw [B.state]; rfl
    obtain ⟨t, a1, o, b1, b2, b3⟩ := body p e s m args below meth c s₁ B hml hP s₁ hh0 (Stand.of_body B)
    exact ⟨t, o, a1, b1, b2, ⟨b3.1, b3.2⟩⟩
def ltE (σ : jM) (a1 a2 a3 : Int32) : Nat → List (Nat × Value) → List Value → jPS → Prop := fun pc ls st S => pc = 7 ∧ st = [.int a3, .int a2, .int a1, .ref 0, .int 0, .ref 375] ∧ S = ms σ
theorem t_L_told_0 {Y : jG → Launch → State → Prop} {Q : Option Value → jPS → Prop} {a1 a2 a3 : Int32} {σ : jM} : JX mi_L_told 9 0 0 Y (ltE σ a1 a2 a3) Q 0 [(0, .ref 0), (1, .int a1), (2, .int a2), (3, .int a3), (4, .ref 375)] [] (ms σ) := by
  refine JX_aload 4 dL_told_0 rfl ?_
  refine JX_iconst (v := 0) dL_told_2 (by decide) ?_
  refine JX_aload_n 0 dL_told_3 rfl ?_
  refine JX_iload_n 1 dL_told_4 rfl ?_
  refine JX_iload_n 2 dL_told_5 rfl ?_
  refine JX_iload_n 3 dL_told_6 rfl ?_
  exact JX_exit ⟨rfl, rfl, rfl⟩
theorem f_L_none {r : Option Int32 × jM} (h : r.1 = none) : f_L_told2 r = (1, r.2) := by unfold f_L_told2; rw [h]
theorem f_L_some {r : Option Int32 × jM} {v : Int32} (h : r.1 = some v) : f_L_told2 r = (0, wL r.2 375 0 v.toInt64) := by unfold f_L_told2; rw [h]
set_option maxHeartbeats 4000000 in
theorem ltold_met {a1 a2 a3 : Int32} {σ : jM} {r : Option Int32 × jM} (h : f_X12_told a1 a2 a3 σ = some r) (g : jG) (l : Launch) :
    Met l yL_told jywL (jrm 9 1 6) (jPcY g l [.ref 0, .int a1, .int a2, .int a3, .ref 375] (ms σ)) (jQc g (jqI (f_L_told2 r))) 1 6 (fun q => g.1 ≤ q) := by
  refine lt_ofWH (cc := cL_told) (maxL := 6) (ret := some .int) (hh := [(0, 12, 15, 13)]) (by decide +kernel) rfl ?_
  intro p e s m args below meth c s₁ B hml hv
  obtain ⟨⟨rfl, hP, hK, hle, hT⟩, hY⟩ := hv
  have hts := atoms_spec (ws := jywL) B.pre
  have hj : ∀ w ∈ jgt, w.before _ s = true := fun w hw => hts w (List.mem_cons_of_mem _ hw)
  have htab : c.exceptionTable.toList = tableOf [(0, 12, 15, 13)] := vx_table (x := yL_told) B (hj _ ltw)
  have hr := B.returns
  have hown : s.vm.findClass RL = some m.cls := findClass_of_methodNamed B.named
  have hl := lv_entry (([.ref 0, .int a1, .int a2, .int a3, .ref 375] : List Value).map (jtr g)) (n := 6) (by rw [jlg_len]; exact Nat.le_of_ble_eq_true rfl)
  rw [lg_entry_eq]
  rw [jlv_args] at hl
  have Cx : jCx mi_L_told 9 0 0 g p (headSpec jywL (jrm 9 1 6)).room s m ((([.ref 0, .int a1, .int a2, .int a3, .ref 375] : List Value).map (jtr g))).toArray meth c 0 0 := ⟨⟨B.exec, B.bytes, hml, hown, hj⟩, ⟨hK, hle, hT⟩, ⟨Nat.le_refl _, Nat.le_refl _⟩, ⟨by decide, by decide⟩, (name_of_methodNamed B.named B.method).1⟩
  have hret : ∀ (H : Heap) (locs : List Loc) (pc : Nat) (lsA : Array Slot) (v : Option Value) (S' : jPS), jqI (f_L_told2 r) v S' → jR g S' H → va_S (fun q => g.1 ≤ q) s.heap H locs → jret mi_L_told v pc → W p l e (headSpec jywL (jrm 9 1 6)).room s m ((([.ref 0, .int a1, .int a2, .int a3, .ref 375] : List Value).map (jtr g))).toArray below meth c H locs 1 6 (MQ below (jQc g (jqI (f_L_told2 r))) ((([.ref 0, .int a1, .int a2, .int a3, .ref 375] : List Value).map (jtr g))).toArray s 1 6 (fun q => g.1 ≤ q)) (F0 m pc lsA (v.toList.map (jtr g))) := by
    intro H locs pc lsA v S' hQ hP' hS' hret
    obtain ⟨rfl, rfl⟩ := hQ
    have hf : ∀ q ∈ locs, g.1 ≤ q.base := hS'.2.2
    have hq : ∀ t : State, t.heap = H → s.WarmedH t.vm → jQc g (jqI (f_L_told2 r)) ((([.ref 0, .int a1, .int a2, .int a3, .ref 375] : List Value).map (jtr g))).toArray s (.returned (some (.int (f_L_told2 r).1))) t := fun t ht _ => ⟨⟨some (.int (f_L_told2 r).1), ms (f_L_told2 r).2, rfl, ⟨rfl, rfl⟩, by rw [ht]; exact hP'⟩, hS'.F ht⟩
    obtain ⟨h1, h2 | ⟨h2, h3⟩ | ⟨h2, h3⟩ | ⟨h2, h3⟩⟩ := hret
    · exact W.iret B.exec B.bytes (hr.trans h2) hq hf h1
    · cases h2
    · cases h2
    · cases h2
  refine t_L_told_0 (Y := jY) (Q := fun _ _ => False) (σ := σ) (a1 := a1) (a2 := a2) (a3 := a3) g p l e _ s m _ below meth c 0 0 _ hY Cx (fun v S' H1 locs1 pc1 lsA1 hq => hq.elim) ?_ s.heap [] _ hl hP va_S.rf
  intro pc ls st S H locs lsA hE hv hR hS
  obtain ⟨rfl, rfl, rfl⟩ := hE
  have hrecv := va_recv Cx.2.1.1 hR.1 (show vwCl[11]? = some (RX12, TX12, 9) from rfl) (he := by rw [jws_get (show 0 < 376 by decide)]; unfold jent; rw [show ((ms σ).1.1 0).1 = 11 from k_0, if_pos (by decide)])
  have hG : GoodIn jgt (wsV RL 7 RX12 yX12_told (jyw mi_X12_told)) := jgt_good _ (fun w hw => by
    simp only [wsV, jyw, List.cons_append, List.nil_append, List.mem_cons] at hw
    obtain ⟨⟨m1, m2, m3, m4, m5⟩, -⟩ := cv_L_7
    rcases hw with rfl | rfl | rfl | rfl | rfl | hw
    · exact m1
    · exact m2
    · exact m3
    · exact m4
    · exact m5
    · exact hw)
  have run := vx_runV (R := (headSpec jywL (jrm 9 1 6)).room) (As := ([.int a1, .int a2, .int a3] : List Value).map (jtr g)) (rest := [.int 0, .ref (g.1 + 375)]) (g := F0 m 7 lsA ((([.int a1, .int a2, .int a3] : List Value).map (jtr g)).reverse ++ .ref (g.1 + 0) :: [.int 0, .ref (g.1 + 375)])) (cells := 0) (slots := 0) (locs := locs) (below := below) (e := e) (meth := meth) Cx.1 (told_met h g l) (cwV 3 hj hG rfl rfl rfl cv_L_7.2.1 (jrm_fits (d := 9) (d' := 7) (R := (headSpec jywL (jrm 9 1 6)).room) (by decide) (Nat.le_refl _) (Nat.le_refl _) (mL := 4) (by decide))) ⟨jPcY_blind _ _ _ _, hrecv, by
    have := jPcY_of [.ref 0, .int a1, .int a2, .int a3] Cx hY hR hS
    simpa [jtr, jad] using this⟩ rfl rfl hv.1 rfl (Nat.le_of_ble_eq_true rfl) dL_told_7 ⟨Nat.le_refl _, Nat.le_refl _⟩
  have hst : ([.int a3, .int a2, .int a1, .ref 0, .int 0, .ref 375] : List Value).map (jtr g) = ((([.int a1, .int a2, .int a3] : List Value).map (jtr g)).reverse ++ .ref (g.1 + 0) :: [.int 0, .ref (g.1 + 375)]) := by
    simp [jtr, jad]
  rw [hst]
  intro T hT2 X
  rcases run T hT2 X with ⟨v, st₀, t, T', L, h0, X', hL, e1, e2, ⟨⟨v', S', hv', hQ', hR'⟩, hz, hk⟩, st⟩ | ⟨q, st₀, t, T', L, E, ce, h0, X', hL, e1, e2, ⟨rfl, hnone, hRt, hz, hk⟩, hce, hcv, hcl, st⟩
  · obtain ⟨x, hx, rfl, rfl⟩ := hQ'
    cases hv'
    rw [h0] at hz hk
    have hS2 : va_S (fun q => g.1 ≤ q) s.heap T'.heap (locs ++ L) := ⟨Nat.le_trans hS.1 (by rw [e1]; exact hz), fun q h1 h2 => by rw [e1, hk q (Nat.lt_of_lt_of_le h1 hS.1) h2]; exact hS.2.1 q h1 h2, fun q hq => by
      rcases List.mem_append.mp hq with h | h
      · exact hS.2.2 q h
      · exact hL q h⟩
    have hJ := t_L_told_10 (v := x) (σ := r.2) g p l e (headSpec jywL (jrm 9 1 6)).room s m ((([.ref 0, .int a1, .int a2, .int a3, .ref 375] : List Value).map (jtr g))).toArray below meth c 1 6 (MQ below (jQc g (jqI (f_L_told2 r))) ((([.ref 0, .int a1, .int a2, .int a3, .ref 375] : List Value).map (jtr g))).toArray s 1 6 (fun q => g.1 ≤ q)) ⟨Cx.1, Cx.2.1, ⟨Nat.zero_le _, Nat.zero_le _⟩, ⟨by decide, by decide⟩, Cx.2.2.2.2⟩ (fun v S1 H1 locs1 pc1 lsA1 hq hR1 hS1 hret1 => hret H1 locs1 pc1 lsA1 v S1 (by rw [f_L_some hx]; exact hq) hR1 hS1 hret1) T'.heap (locs ++ L) lsA (jlv_sub hv (fun q hq => nomatch hq)) (by rw [e1]; exact hR') hS2
    obtain ⟨t2, b1, b2⟩ := hJ T' rfl X'
    refine ⟨t2, st t2 ?_, b2⟩
    have e3 : ([.int x, .int 0, .ref 375] : List Value).map (jtr g) = [.int x, .int 0, .ref (g.1 + 375)] := by simp [jtr, jad]
    rw [e3] at b1
    exact b1
  · rw [h0] at hz hk
    have hS2 : va_S (fun q => g.1 ≤ q) s.heap T'.heap (locs ++ L) := ⟨Nat.le_trans hS.1 (by rw [e1]; exact hz), fun q h1 h2 => by rw [e1, hk q (Nat.lt_of_lt_of_le h1 hS.1) h2]; exact hS.2.1 q h1 h2, fun q hq => by
      rcases List.mem_append.mp hq with h | h
      · exact hS.2.2 q h
      · exact hL q h⟩
    have kw : W p l e (headSpec jywL (jrm 9 1 6)).room s m ((([.ref 0, .int a1, .int a2, .int a3, .ref 375] : List Value).map (jtr g))).toArray below meth c T'.heap (locs ++ L) (0 + 1) (0 + 6) (MQ below (jQc g (jqI (f_L_told2 r))) ((([.ref 0, .int a1, .int a2, .int a3, .ref 375] : List Value).map (jtr g))).toArray s 1 6 (fun q => g.1 ≤ q)) (F0 m 15 lsA [.ref q]) := by
      refine lv_astore (i := 5) (nL := 6) (lv := []) (lv' := [(5, .ref q)]) B.exec B.bytes dL_told_15 ⟨hv.1, hv.2.1, fun q hq => nomatch hq⟩ (by decide) rfl (fun lsB hB => ?_)
      refine lv_iconst (v := 1) B.exec B.bytes dL_told_17 (by decide) ?_
      exact hret T'.heap (locs ++ L) 18 lsB (some (.int 1)) (ms r.2) ⟨by rw [f_L_none hnone], by rw [f_L_none hnone]⟩ (by rw [e1]; exact hRt) hS2 ⟨dL_told_18, Or.inl rfl⟩
    obtain ⟨t2, b1, b2⟩ := vx_catch (E := nsN) (name := nsN) (ce := ce) (q := q) (pc := 7) (ls := lsA) (rest := [.int 0, .ref (g.1 + 375)]) hown ⟨0, 12, 15, 13⟩ htab (by decide) (by decide) (hj _ ns_lcl) (va_Nw.use rfl hY.2.2.2.2) (by rw [e1]; exact hce) hcv hcl kw T' rfl X'
    exact ⟨t2, st.trans b1, b2⟩
