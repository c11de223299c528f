set_option maxHeartbeats 4000000 in
theorem told_met {a1 a2 a3 : Int32} {σ : jM} {r : Option Int32 × jM} (h : f_X12_told a1 a2 a3 σ = some r) (g : jG) (l : Launch) :
    vx_Met l yX12_told (jyw mi_X12_told) (jrm 7 1 6) (jPcY g l [.ref 0, .int a1, .int a2, .int a3] (ms σ)) (jQc g (jqT r)) (tXC g r) 1 6 (fun q => g.1 ≤ q) := by
  refine vx_ofW (cc := cX12_told) (maxL := 4) (ret := some .int) (by decide +kernel) rfl ?_
  intro p e s m args below meth c s₁ B hml htab hv
  obtain ⟨⟨rfl, hP, hK, hle, hT⟩, hY⟩ := hv
  have hts := atoms_spec (ws := jyw mi_X12_told) B.pre
  have hj : ∀ w ∈ jgt, w.before _ s = true := fun w hw => hts w (List.mem_cons_of_mem _ hw)
  have hr := B.returns
  have hlocks := B.notSynchronized
  have hown : s.vm.findClass RX12 = some m.cls := findClass_of_methodNamed B.named
  have hl := lv_entry (([.ref 0, .int a1, .int a2, .int a3] : List Value).map (jtr g)) (n := 4) (by rw [jlg_len]; exact Nat.le_of_ble_eq_true rfl)
  rw [lg_entry_eq]
  rw [jlv_args] at hl
  refine t_X12_told (Y := jY) h g p l e _ s m _ below meth c 0 0 _ hY ⟨⟨B.exec, B.bytes, hml, hown, hj⟩, ⟨hK, hle, hT⟩, ⟨Nat.le_refl _, Nat.le_refl _⟩, ⟨by decide, by decide⟩, (name_of_methodNamed B.named B.method).1⟩ ?_ ?_ s.heap [] _ hl hP va_S.rf
  · intro v S' H locs pc lsA hQ hP' hS' hret
    obtain ⟨x, hx, rfl, rfl⟩ := hQ
    have hf : ∀ q ∈ locs, g.1 ≤ q.base := hS'.2.2
    have hq : ∀ t : State, t.heap = H → s.WarmedH t.vm → jQc g (jqT r) ((([.ref 0, .int a1, .int a2, .int a3] : List Value).map (jtr g))).toArray s (.returned (some (.int x))) t := fun t ht _ => ⟨⟨some (.int x), ms r.2, rfl, ⟨x, hx, rfl, rfl⟩, by rw [ht]; exact hP'⟩, hS'.F ht⟩
    obtain ⟨h1, h2 | ⟨h2, h3⟩ | ⟨h2, h3⟩ | ⟨h2, h3⟩⟩ := hret
    · refine W.widen (k := 1) (n := 6) (by decide) (by decide) ?_
      exact vx_ret (W.iret B.exec B.bytes (hr.trans h2) hq hf h1)
    · cases h2
    · cases h2
    · cases h2
  · intro pc ls st S H locs lsA hE hv hR hS
    obtain ⟨hn, hpc, rfl, rfl⟩ := hE
    have hU : vx_Zq Bundle.tN "UNASSIGNED_STACK" Bundle.steD (fun q => g.1 ≤ q) s s.heap := ⟨hT.2.2.2.2.2.2.1 ("java/lang/Throwable", "UNASSIGNED_STACK", "[Ljava/lang/StackTraceElement;") (by decide), hY.2.1⟩
    have hN : vx_Zq Bundle.tN "SUPPRESSED_SENTINEL" Bundle.listD (fun q => g.1 ≤ q) s s.heap := ⟨hT.2.2.2.2.2.2.1 ("java/lang/Throwable", "SUPPRESSED_SENTINEL", "Ljava/util/List;") (by decide), hY.2.2.1⟩
    have hx : ∀ t : State, s.vm.Alike t.vm → H.size ≤ t.heap.size → (∀ q : Nat, q < H.size → t.heap[q]? = H[q]?) → tXC g r nsN s t := fun t _ h1 h2 => ⟨rfl, hn, jR_more hR h2, Nat.le_trans hS.1 h1, fun q hq hA => by rw [h2 q (Nat.lt_of_lt_of_le hq hS.1)]; exact hS.2.1 q hq hA⟩
    have hsz : lsA.size = c.maxLocals := hv.1.trans hml.symm
    rcases hpc with rfl | rfl
    · exact ns_throw (A := fun q => g.1 ≤ q) (ik := 212) (is := 214) (ic := 216) B.exec B.bytes hY.1 hown (hj _ ns_cl) (hj _ ns_in) (hT.2.1 ("GridRoom", 214, "no such word", 10) (by decide)) (ns_hat hj hY) ns_ot hU hN hS hsz dX12_told_12 dX12_told_15 dX12_told_16 dX12_told_18 dX12_told_21 (fun x hx' => (htab x hx').elim) (by decide) (Nat.le_of_ble_eq_true rfl) (by decide) (by decide) hlocks hx hS.2.2 (by decide) (by decide)
    · exact ns_throw (A := fun q => g.1 ≤ q) (ik := 212) (is := 222) (ic := 216) B.exec B.bytes hY.1 hown (hj _ ns_cl) (hj _ ns_in) (hT.2.1 ("GridRoom", 222, "no such place", 11) (by decide)) (ns_hat hj hY) ns_ot hU hN hS hsz dX12_told_44 dX12_told_47 dX12_told_48 dX12_told_50 dX12_told_53 (fun x hx' => (htab x hx').elim) (by decide) (Nat.le_of_ble_eq_true rfl) (by decide) (by decide) hlocks hx hS.2.2 (by decide) (by decide)
/-! the law's own told: what GridRoom's throws is caught here -/
abbrev mi_L_told : jMI := (RL, yL_told, cL_told, 6, some .int)
theorem dL_told_0 : decode cL_told 0 = .ok (.aload 4, 2) := by decide +kernel
theorem dL_told_2 : decode cL_told 2 = .ok (.iconst 0, 1) := by decide +kernel
theorem dL_told_3 : decode cL_told 3 = .ok (.aload_n 0, 1) := by decide +kernel
theorem dL_told_4 : decode cL_told 4 = .ok (.iload_n 1, 1) := by decide +kernel
theorem dL_told_5 : decode cL_told 5 = .ok (.iload_n 2, 1) := by decide +kernel
theorem dL_told_6 : decode cL_told 6 = .ok (.iload_n 3, 1) := by decide +kernel
theorem dL_told_7 : decode cL_told 7 = .ok (.invokevirtual 7, 3) := by decide +kernel
theorem dL_told_10 : decode cL_told 10 = .ok (.i2l, 1) := by decide +kernel
theorem dL_told_11 : decode cL_told 11 = .ok (.lastore, 1) := by decide +kernel
theorem dL_told_12 : decode cL_told 12 = .ok (.goto 7, 3) := by decide +kernel
theorem dL_told_15 : decode cL_told 15 = .ok (.astore 5, 2) := by decide +kernel
theorem dL_told_17 : decode cL_told 17 = .ok (.iconst 1, 1) := by decide +kernel
theorem dL_told_18 : decode cL_told 18 = .ok (.ireturn, 1) := by decide +kernel
theorem dL_told_19 : decode cL_told 19 = .ok (.iconst 0, 1) := by decide +kernel
theorem dL_told_20 : decode cL_told 20 = .ok (.ireturn, 1) := by decide +kernel
def f_L_told2 (r : Option Int32 × jM) : Int32 × jM := match r.1 with
  | none => (1, r.2)
  | some v => (0, wL r.2 375 0 v.toInt64)
theorem t_L_told_10 {v : Int32} {σ : jM} : J mi_L_told 0 0 0 (jqI (0, wL σ 375 0 v.toInt64)) 10 [] [.int v, .int 0, .ref 375] (ms σ) := by
  refine J_i2l dL_told_10 ?_
  refine M_last (n := 1) dL_told_11 (by decide +kernel) (by decide) (by decide) ?_
  refine J_goto (tgt := 19) dL_told_12 (by decide) ?_
  refine J_iconst (v := 0) dL_told_19 (by decide) ?_
  exact J_ret (v := some (.int 0)) rfl ⟨dL_told_20, Or.inl rfl⟩ ⟨rfl, rfl⟩
theorem ltw : Cond.codeWith yL_told cL_told 6 (some .int) [(0, 12, 15, 13)] ∈ jgt := List.mem_filter.mpr ⟨by decide +kernel, by decide +kernel⟩
def jywL : List Cond := .codeWith yL_told cL_told 6 (some .int) [(0, 12, 15, 13)] :: jgt
