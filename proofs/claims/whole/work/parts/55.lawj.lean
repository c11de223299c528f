/-! the law's first instructions: both objects and the long[1] are made; then the loop -/
theorem lj_12 : Cond.classLink RL 8 RX12 ∈ jgt ∧ Cond.instantiable RX12 9 ∈ jgt ∧ Cond.initialized RX12 ∈ jgt := ⟨List.mem_filter.mpr ⟨by decide +kernel, by decide +kernel⟩, List.mem_filter.mpr ⟨by decide +kernel, by decide +kernel⟩, List.mem_filter.mpr ⟨by decide +kernel, by decide +kernel⟩⟩
theorem lj_13 : Cond.classLink RL 16 RX13 ∈ jgt ∧ Cond.instantiable RX13 76 ∈ jgt ∧ Cond.initialized RX13 ∈ jgt := ⟨List.mem_filter.mpr ⟨by decide +kernel, by decide +kernel⟩, List.mem_filter.mpr ⟨by decide +kernel, by decide +kernel⟩, List.mem_filter.mpr ⟨by decide +kernel, by decide +kernel⟩⟩
theorem lj_i12 : jCI RL 15 mi_X12_init 0 := ⟨Or.inr (List.mem_filter.mpr ⟨by decide +kernel, by decide +kernel⟩), ⟨List.mem_filter.mpr ⟨by decide +kernel, by decide +kernel⟩, List.mem_filter.mpr ⟨by decide +kernel, by decide +kernel⟩, List.mem_filter.mpr ⟨by decide +kernel, by decide +kernel⟩⟩, ⟨by decide +kernel, by decide +kernel, by decide +kernel⟩, ⟨by decide +kernel, rfl⟩, by decide, rfl, rfl⟩
theorem lj_i13 : jCI RL 18 mi_X13_init 0 := ⟨Or.inr (List.mem_filter.mpr ⟨by decide +kernel, by decide +kernel⟩), ⟨List.mem_filter.mpr ⟨by decide +kernel, by decide +kernel⟩, List.mem_filter.mpr ⟨by decide +kernel, by decide +kernel⟩, List.mem_filter.mpr ⟨by decide +kernel, by decide +kernel⟩⟩, ⟨by decide +kernel, by decide +kernel, by decide +kernel⟩, ⟨by decide +kernel, rfl⟩, by decide, rfl, rfl⟩
set_option maxRecDepth 100000 in
theorem fin_l1 : (f_X12_init 0 [((11, 0), [], [])]).map List.length = some 324 := by decide +kernel
theorem fin_sz : szL lfin ≤ 100000 := by decide +kernel
theorem JX_fin {b : jMI} {d kc ks : Nat} {Y : jG → Launch → State → Prop} {E : Nat → List (Nat × Value) → List Value → jPS → Prop} {Q : Option Value → jPS → Prop} {pc : Nat} {ls : List (Nat × Value)} {st : List Value} (K : JX b d kc ks Y E Q pc ls st (ms sig0)) : JX b d kc ks Y E Q pc ls st (bs lfin) := by
  intro g p l e R s m args below meth c cells slots Z Yy C Rt Ex H locs lsA hv hP hS
  exact K g p l e R s m args below meth c cells slots Z Yy C Rt Ex H locs lsA hv (fin_R hP) hS
set_option maxHeartbeats 4000000 in
theorem law_head {kc ks : Nat} {Y : jG → Launch → State → Prop} {Q : Option Value → jPS → Prop} (K : JX mi_L_law 20 kc ks Y (fun _ _ _ _ => False) Q 23 (lsL 0) [] (ms sig0)) : JAX mi_L_law 20 kc ks Y Q 0 [(0, .ref 1002000)] [] [] lfin := by
  obtain ⟨L1, h1, h⟩ := bk_inv fin_eval
  obtain ⟨L2, h2, h⟩ := bk_inv h
  have e3 : L2 ++ [((15, 1), [], [])] = lfin := Option.some.inj h
  have l1 : L1.length = 324 := by
    have := fin_l1
    rw [h1] at this
    exact Option.some.inj this
  have l2 : L2.length = 375 := by
    have := congrArg List.length e3
    rw [fin_len, List.length_append] at this
    have h9 : L2.length + 1 = 376 := this
    omega
  refine KX_new cl_11 lj_12 dL_law_0 (by decide) ?_
  refine KX_lift (fun kc ks => JX_dup dL_law_3 rfl) ?_
  refine KX_callI (d' := 4) (r := 0) (As := []) (st := [.ref 0]) lj_i12 dL_law_4 rfl (Nat.le_of_ble_eq_true rfl) (Nat.le_of_ble_eq_true rfl) (by decide) rfl rfl (t_X12_init h1) ?_
  refine KX_lift (fun kc ks => JX_astore_n (i := 1) (ls' := [(1, .ref 0), (0, .ref 1002000)]) dL_law_7 rfl (by decide) rfl) ?_
  refine KX_new cl_12 lj_13 dL_law_8 (by omega) ?_
  refine KX_lift (fun kc ks => JX_dup dL_law_11 rfl) ?_
  refine KX_callI (d' := 1) (r := L1.length) (As := []) (st := [.ref L1.length]) lj_i13 dL_law_12 rfl (Nat.le_of_ble_eq_true rfl) (Nat.le_of_ble_eq_true rfl) (by decide) rfl rfl (t_X13_init h2) ?_
  rw [l1]
  refine KX_lift (fun kc ks => JX_astore_n (i := 2) (ls' := [(2, .ref 324), (1, .ref 0), (0, .ref 1002000)]) dL_law_15 rfl (by decide) rfl) ?_
  refine KX_lift (fun kc ks => JX_iconst (v := 1) dL_law_16 (by decide)) ?_
  refine KX_newa (at_ := .long) (kd := 15) (t0 := 2) (n := 1) (fun g => rfl) (fun U cA q => q) (by decide) (by decide) (List.mem_filter.mpr ⟨by decide +kernel, by decide +kernel⟩) dL_law_17 (by decide) (by decide) (by decide) (by omega) ?_
  rw [l2, e3]
  refine ⟨Nat.le_refl _, Nat.le_refl _, fun _ => ?_⟩
  rw [Nat.sub_self, Nat.sub_self, Nat.zero_add, Nat.zero_add]
  refine JX_fin ?_
  refine JX_astore_n (i := 3) (ls' := [(3, .ref 375), (2, .ref 324), (1, .ref 0), (0, .ref 1002000)]) dL_law_19 rfl (by decide) rfl ?_
  refine JX_iconst (v := 0) dL_law_20 (by decide) ?_
  refine JX_istore (i := 4) (ls' := [(4, .int 0), (3, .ref 375), (2, .ref 324), (1, .ref 0), (0, .ref 1002000)]) dL_law_21 (by decide) rfl ?_
  exact JX_pick [4, 3, 2, 1, 0] rfl K
