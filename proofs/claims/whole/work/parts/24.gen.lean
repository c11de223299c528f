theorem dX2_nearer_0 : decode cX2_nearer 0 = .ok (.iconst 0, 1) := by decide +kernel
theorem dX2_nearer_1 : decode cX2_nearer 1 = .ok (.istore 4, 2) := by decide +kernel
theorem dX2_nearer_3 : decode cX2_nearer 3 = .ok (.iload 4, 2) := by decide +kernel
theorem dX2_nearer_5 : decode cX2_nearer 5 = .ok (.bipush 40, 2) := by decide +kernel
theorem dX2_nearer_7 : decode cX2_nearer 7 = .ok (.if_icmp .ge 44, 3) := by decide +kernel
theorem dX2_nearer_10 : decode cX2_nearer 10 = .ok (.aload_n 0, 1) := by decide +kernel
theorem dX2_nearer_11 : decode cX2_nearer 11 = .ok (.getfield 26, 3) := by decide +kernel
theorem dX2_nearer_14 : decode cX2_nearer 14 = .ok (.getfield 104, 3) := by decide +kernel
theorem dX2_nearer_17 : decode cX2_nearer 17 = .ok (.iload_n 1, 1) := by decide +kernel
theorem dX2_nearer_18 : decode cX2_nearer 18 = .ok (.aaload, 1) := by decide +kernel
theorem dX2_nearer_19 : decode cX2_nearer 19 = .ok (.iload_n 2, 1) := by decide +kernel
theorem dX2_nearer_20 : decode cX2_nearer 20 = .ok (.laload, 1) := by decide +kernel
theorem dX2_nearer_21 : decode cX2_nearer 21 = .ok (.iload 4, 2) := by decide +kernel
theorem dX2_nearer_23 : decode cX2_nearer 23 = .ok (.invokestatic 74, 3) := by decide +kernel
theorem dX2_nearer_26 : decode cX2_nearer 26 = .ok (.ifCond .eq 19, 3) := by decide +kernel
theorem dX2_nearer_29 : decode cX2_nearer 29 = .ok (.aload_n 0, 1) := by decide +kernel
theorem dX2_nearer_30 : decode cX2_nearer 30 = .ok (.getfield 23, 3) := by decide +kernel
theorem dX2_nearer_33 : decode cX2_nearer 33 = .ok (.iload_n 1, 1) := by decide +kernel
theorem dX2_nearer_34 : decode cX2_nearer 34 = .ok (.aaload, 1) := by decide +kernel
theorem dX2_nearer_35 : decode cX2_nearer 35 = .ok (.iload 4, 2) := by decide +kernel
theorem dX2_nearer_37 : decode cX2_nearer 37 = .ok (.iaload, 1) := by decide +kernel
theorem dX2_nearer_38 : decode cX2_nearer 38 = .ok (.iload_n 3, 1) := by decide +kernel
theorem dX2_nearer_39 : decode cX2_nearer 39 = .ok (.if_icmp .ne 6, 3) := by decide +kernel
theorem dX2_nearer_42 : decode cX2_nearer 42 = .ok (.iload 4, 2) := by decide +kernel
theorem dX2_nearer_44 : decode cX2_nearer 44 = .ok (.ireturn, 1) := by decide +kernel
theorem dX2_nearer_45 : decode cX2_nearer 45 = .ok (.iinc 4 1, 3) := by decide +kernel
theorem dX2_nearer_48 : decode cX2_nearer 48 = .ok (.goto (-45), 3) := by decide +kernel
theorem dX2_nearer_51 : decode cX2_nearer 51 = .ok (.iconst (-1), 1) := by decide +kernel
theorem dX2_nearer_52 : decode cX2_nearer 52 = .ok (.ireturn, 1) := by decide +kernel
noncomputable def f_X2_nearer_45 (rec3 : Int32 → Int32 → Int32 → Int32 → jM → Option (Int32 × jM)) (l1 : Int32) (l2 : Int32) (l3 : Int32) (l4 : Int32) (σ : jM) : Option (Int32 × jM) :=
  rec3 l1 l2 l3 (l4 + 1) σ
noncomputable def s_X2_nearer_3  (rec3 : Int32 → Int32 → Int32 → Int32 → jM → Option (Int32 × jM)) (l1 : Int32) (l2 : Int32) (l3 : Int32) (l4 : Int32) (σ : jM) : Option (Int32 × jM) :=
  (if 40 ≤ l4 then some ((-1), σ) else gd (inb l1 2) (gd (inb l2 40) (bd (f_X12_has (rL σ (279 + (Int32.toNatClampNeg l1)) (Int32.toNatClampNeg l2)) l4 σ) (fun r8 σ9 => (if r8 = 0 then f_X2_nearer_45 rec3 l1 l2 l3 l4 σ9 else gd (inb l1 2) (gd (inb l4 40) ((if (rI σ9 (294 + (Int32.toNatClampNeg l1)) (Int32.toNatClampNeg l4)) = l3 then some (l4, σ9) else f_X2_nearer_45 rec3 l1 l2 l3 l4 σ9))))))))
noncomputable def f_X2_nearer_3  (n : Nat) : Int32 → Int32 → Int32 → Int32 → jM → Option (Int32 × jM) := Nat.rec (motive := fun _ => Int32 → Int32 → Int32 → Int32 → jM → Option (Int32 × jM)) (fun _ _ _ _ _ => none) (fun _ q => s_X2_nearer_3  q) n
noncomputable def f_X2_nearer (a1 : Int32) (a2 : Int32) (a3 : Int32) (σ : jM) : Option (Int32 × jM) :=
  f_X2_nearer_3  Fu a1 a2 a3 0 σ
set_option maxRecDepth 20000 in
set_option maxHeartbeats 4000000 in
theorem t_X2_nearer_45 {rec3 : Int32 → Int32 → Int32 → Int32 → jM → Option (Int32 × jM)} (hrec3 : ∀ (l1 : Int32) (l2 : Int32) (l3 : Int32) (l4 : Int32) (σ : jM) (r : Int32 × jM), rec3 l1 l2 l3 l4 σ = some r → J mi_X2_nearer 2 0 0 (jqI r) 3 [(0, .ref 289), (1, .int l1), (2, .int l2), (3, .int l3), (4, .int l4)] [] (ms σ)) (l1 : Int32) (l2 : Int32) (l3 : Int32) (l4 : Int32) (σ : jM) (r : Int32 × jM)  (h : f_X2_nearer_45 rec3 l1 l2 l3 l4 σ = some r) : J mi_X2_nearer 2 0 0 (jqI r) 45 [(0, .ref 289), (1, .int l1), (2, .int l2), (3, .int l3), (4, .int l4)] [] (ms σ) := by
  unfold f_X2_nearer_45 at h
  refine J_iinc (v := (l4 + 1)) (ls' := [(4, .int (l4 + 1)), (0, .ref 289), (1, .int l1), (2, .int l2), (3, .int l3)]) 4 dX2_nearer_45 rfl rfl (by decide) rfl ?_
  refine J_goto (tgt := 3) dX2_nearer_48 (by decide) ?_
  refine J_pick [1, 2, 3, 4, 0] rfl ?_
  exact hrec3 _ _ _ _ _ _  h
set_option maxRecDepth 20000 in
set_option maxHeartbeats 4000000 in
theorem t_X2_nearer_3  : ∀ (n : Nat) (l1 : Int32) (l2 : Int32) (l3 : Int32) (l4 : Int32) (σ : jM) (r : Int32 × jM), f_X2_nearer_3  n l1 l2 l3 l4 σ = some r → J mi_X2_nearer 2 0 0 (jqI r) 3 [(0, .ref 289), (1, .int l1), (2, .int l2), (3, .int l3), (4, .int l4)] [] (ms σ) := by
  intro n
  induction n with
  | zero =>
    intro l1 l2 l3 l4 σ r  h
    have h : (none : Option (Int32 × jM)) = some r := h
    cases h
  | succ n ih =>
    intro l1 l2 l3 l4 σ r  h
    have h : s_X2_nearer_3  (f_X2_nearer_3  n) l1 l2 l3 l4 σ = some r := h
    unfold s_X2_nearer_3 at h
    refine J_iload 4 dX2_nearer_3 rfl ?_
    refine J_bipush (v := 40) dX2_nearer_5 (by decide) ?_
    refine J_icmp_ge (tgt := 51) dX2_nearer_7 (by decide) (fun c15 => ?_) (fun c15 => ?_)
    · have h := (if_pos c15).symm.trans h
      refine J_iconst (v := (-1)) dX2_nearer_51 (by decide) ?_
      exact J_ret (v := some (.int (-1))) rfl ⟨dX2_nearer_52, Or.inl rfl⟩ (jqI_mk h)
    · have h := (if_neg c15).symm.trans h
      refine J_aload_n 0 dX2_nearer_10 rfl ?_
      refine M_getR gf_X2_26_2 dX2_nearer_11 (g_289_9 _) k_289 n_289 ?_
      refine M_getR gf_X2_104_3 dX2_nearer_14 (g_264_2 _) k_264 n_264 ?_
      refine J_iload_n 1 dX2_nearer_17 rfl ?_
      obtain ⟨g16, h⟩ := gd_inv h
      refine M_aald dX2_nearer_18 a_278 (by decide) n_278 g16 (r_row278 _ g16.2) ?_
      refine J_iload_n 2 dX2_nearer_19 rfl ?_
      obtain ⟨g17, h⟩ := gd_inv h
      refine M_lald dX2_nearer_20 (a_row278 g16.2) (na_row278 g16.2) g17 ?_
      refine J_iload 4 dX2_nearer_21 rfl ?_
      obtain ⟨r18, σ19, h20, h⟩ := bd_inv h
      refine M_callNI (d' := 1) (As := [.long (rL σ (279 + (Int32.toNatClampNeg l1)) (Int32.toNatClampNeg l2)), .int l4]) (st := []) cn_X2_74 dX2_nearer_23 rfl (Nat.le_of_ble_eq_true rfl) (Nat.le_of_ble_eq_true rfl) (by decide) rfl rfl (t_X12_has  h20) ?_
      refine J_if_eq (tgt := 45) dX2_nearer_26 (by decide) (fun c21 => ?_) (fun c21 => ?_)
      · have h := (if_pos c21).symm.trans h
        exact t_X2_nearer_45 ih _ _ _ _ _ _  h
      · have h := (if_neg c21).symm.trans h
        refine J_aload_n 0 dX2_nearer_29 rfl ?_
        refine M_getR gf_X2_23_2 dX2_nearer_30 (g_289_12 _) k_289 n_289 ?_
        refine J_iload_n 1 dX2_nearer_33 rfl ?_
        obtain ⟨g22, h⟩ := gd_inv h
        refine M_aald dX2_nearer_34 a_293 (by decide) n_293 g22 (r_row293 _ g22.2) ?_
        refine J_iload 4 dX2_nearer_35 rfl ?_
        obtain ⟨g23, h⟩ := gd_inv h
        refine M_iald dX2_nearer_37 (a_row293 g22.2) (na_row293 g22.2) g23 ?_
        refine J_iload_n 3 dX2_nearer_38 rfl ?_
        refine J_icmp_ne (tgt := 45) dX2_nearer_39 (by decide) (fun c24 => ?_) (fun c24 => ?_)
        · have h := (if_neg c24).symm.trans h
          exact t_X2_nearer_45 ih _ _ _ _ _ _  h
        · have h := (if_pos c24).symm.trans h
          refine J_iload 4 dX2_nearer_42 rfl ?_
          exact J_ret (v := some (.int l4)) rfl ⟨dX2_nearer_44, Or.inl rfl⟩ (jqI_mk h)
set_option maxRecDepth 20000 in
set_option maxHeartbeats 4000000 in
theorem t_X2_nearer {a1 : Int32} {a2 : Int32} {a3 : Int32} {σ : jM} {r : Int32 × jM}  (h : f_X2_nearer a1 a2 a3 σ = some r) : J mi_X2_nearer 2 0 0 (jqI r) 0 [(0, .ref 289), (1, .int a1), (2, .int a2), (3, .int a3)] [] (ms σ) := by
  unfold f_X2_nearer at h
  refine J_iconst (v := 0) dX2_nearer_0 (by decide) ?_
  refine J_istore (i := 4) (ls' := [(4, .int 0), (0, .ref 289), (1, .int a1), (2, .int a2), (3, .int a3)]) dX2_nearer_1 (by decide) rfl ?_
  refine J_pick [1, 2, 3, 4, 0] rfl ?_
  exact t_X2_nearer_3  _ _ _ _ _ _ _  h
theorem dX4_linkCount_0 : decode cX4_linkCount 0 = .ok (.iconst 0, 1) := by decide +kernel
theorem dX4_linkCount_1 : decode cX4_linkCount 1 = .ok (.istore_n 2, 1) := by decide +kernel
theorem dX4_linkCount_2 : decode cX4_linkCount 2 = .ok (.iconst 0, 1) := by decide +kernel
theorem dX4_linkCount_3 : decode cX4_linkCount 3 = .ok (.istore_n 3, 1) := by decide +kernel
theorem dX4_linkCount_4 : decode cX4_linkCount 4 = .ok (.iload_n 3, 1) := by decide +kernel
theorem dX4_linkCount_5 : decode cX4_linkCount 5 = .ok (.bipush 40, 2) := by decide +kernel
theorem dX4_linkCount_7 : decode cX4_linkCount 7 = .ok (.if_icmp .ge 23, 3) := by decide +kernel
theorem dX4_linkCount_10 : decode cX4_linkCount 10 = .ok (.iload_n 2, 1) := by decide +kernel
theorem dX4_linkCount_11 : decode cX4_linkCount 11 = .ok (.aload_n 0, 1) := by decide +kernel
theorem dX4_linkCount_12 : decode cX4_linkCount 12 = .ok (.getfield 18, 3) := by decide +kernel
theorem dX4_linkCount_15 : decode cX4_linkCount 15 = .ok (.iload_n 1, 1) := by decide +kernel
theorem dX4_linkCount_16 : decode cX4_linkCount 16 = .ok (.aaload, 1) := by decide +kernel
theorem dX4_linkCount_17 : decode cX4_linkCount 17 = .ok (.iload_n 3, 1) := by decide +kernel
theorem dX4_linkCount_18 : decode cX4_linkCount 18 = .ok (.laload, 1) := by decide +kernel
theorem dX4_linkCount_19 : decode cX4_linkCount 19 = .ok (.invokestatic 62, 3) := by decide +kernel
theorem dX4_linkCount_22 : decode cX4_linkCount 22 = .ok (.iadd, 1) := by decide +kernel
theorem dX4_linkCount_23 : decode cX4_linkCount 23 = .ok (.istore_n 2, 1) := by decide +kernel
theorem dX4_linkCount_24 : decode cX4_linkCount 24 = .ok (.iinc 3 1, 3) := by decide +kernel
theorem dX4_linkCount_27 : decode cX4_linkCount 27 = .ok (.goto (-23), 3) := by decide +kernel
theorem dX4_linkCount_30 : decode cX4_linkCount 30 = .ok (.iload_n 2, 1) := by decide +kernel
theorem dX4_linkCount_31 : decode cX4_linkCount 31 = .ok (.iconst 2, 1) := by decide +kernel
theorem dX4_linkCount_32 : decode cX4_linkCount 32 = .ok (.idiv, 1) := by decide +kernel
theorem dX4_linkCount_33 : decode cX4_linkCount 33 = .ok (.ireturn, 1) := by decide +kernel
noncomputable def s_X4_linkCount_4  (rec4 : Int32 → Int32 → Int32 → jM → Option (Int32 × jM)) (l1 : Int32) (l2 : Int32) (l3 : Int32) (σ : jM) : Option (Int32 × jM) :=
  (if 40 ≤ l3 then some ((l2 / 2), σ) else gd (inb l1 2) (gd (inb l3 40) (bd (f_J13_bitCount_95d88 (rL σ (279 + (Int32.toNatClampNeg l1)) (Int32.toNatClampNeg l3)) σ) (fun r6 σ7 => rec4 l1 (l2 + r6) (l3 + 1) σ7))))
noncomputable def f_X4_linkCount_4  (n : Nat) : Int32 → Int32 → Int32 → jM → Option (Int32 × jM) := Nat.rec (motive := fun _ => Int32 → Int32 → Int32 → jM → Option (Int32 × jM)) (fun _ _ _ _ => none) (fun _ q => s_X4_linkCount_4  q) n
noncomputable def f_X4_linkCount (a1 : Int32) (σ : jM) : Option (Int32 × jM) :=
  f_X4_linkCount_4  Fu a1 0 0 σ
set_option maxRecDepth 20000 in
set_option maxHeartbeats 4000000 in
theorem t_X4_linkCount_4  : ∀ (n : Nat) (l1 : Int32) (l2 : Int32) (l3 : Int32) (σ : jM) (r : Int32 × jM), f_X4_linkCount_4  n l1 l2 l3 σ = some r → J mi_X4_linkCount 2 0 0 (jqI r) 4 [(0, .ref 264), (1, .int l1), (2, .int l2), (3, .int l3)] [] (ms σ) := by
  intro n
  induction n with
  | zero =>
    intro l1 l2 l3 σ r  h
    have h : (none : Option (Int32 × jM)) = some r := h
    cases h
  | succ n ih =>
    intro l1 l2 l3 σ r  h
    have h : s_X4_linkCount_4  (f_X4_linkCount_4  n) l1 l2 l3 σ = some r := h
    unfold s_X4_linkCount_4 at h
    refine J_iload_n 3 dX4_linkCount_4 rfl ?_
    refine J_bipush (v := 40) dX4_linkCount_5 (by decide) ?_
    refine J_icmp_ge (tgt := 30) dX4_linkCount_7 (by decide) (fun c9 => ?_) (fun c9 => ?_)
    · have h := (if_pos c9).symm.trans h
      refine J_iload_n 2 dX4_linkCount_30 rfl ?_
      refine J_iconst (v := 2) dX4_linkCount_31 (by decide) ?_
      refine J_idiv dX4_linkCount_32 (by decide) ?_
      exact J_ret (v := some (.int (l2 / 2))) rfl ⟨dX4_linkCount_33, Or.inl rfl⟩ (jqI_mk h)
    · have h := (if_neg c9).symm.trans h
      refine J_iload_n 2 dX4_linkCount_10 rfl ?_
      refine J_aload_n 0 dX4_linkCount_11 rfl ?_
      refine M_getR gf_X4_18_3 dX4_linkCount_12 (g_264_2 _) k_264 n_264 ?_
      refine J_iload_n 1 dX4_linkCount_15 rfl ?_
      obtain ⟨g10, h⟩ := gd_inv h
      refine M_aald dX4_linkCount_16 a_278 (by decide) n_278 g10 (r_row278 _ g10.2) ?_
      refine J_iload_n 3 dX4_linkCount_17 rfl ?_
      obtain ⟨g11, h⟩ := gd_inv h
      refine M_lald dX4_linkCount_18 (a_row278 g10.2) (na_row278 g10.2) g11 ?_
      obtain ⟨r12, σ13, h14, h⟩ := bd_inv h
      refine M_callSI (d' := 1) (As := [.long (rL σ (279 + (Int32.toNatClampNeg l1)) (Int32.toNatClampNeg l3))]) (st := [.int l2]) cs_X4_62 dX4_linkCount_19 rfl (Nat.le_of_ble_eq_true rfl) (Nat.le_of_ble_eq_true rfl) (by decide) rfl rfl (t_J13_bitCount_95d88  h14) ?_
      refine J_iadd dX4_linkCount_22 ?_
      refine J_istore_n (i := 2) (ls' := [(2, .int (l2 + r12)), (0, .ref 264), (1, .int l1), (3, .int l3)]) dX4_linkCount_23 rfl (by decide) rfl ?_
      refine J_iinc (v := (l3 + 1)) (ls' := [(3, .int (l3 + 1)), (2, .int (l2 + r12)), (0, .ref 264), (1, .int l1)]) 3 dX4_linkCount_24 rfl rfl (by decide) rfl ?_
      refine J_goto (tgt := 4) dX4_linkCount_27 (by decide) ?_
      refine J_pick [2, 3, 1, 0] rfl ?_
      exact ih _ _ _ _ _  h
set_option maxRecDepth 20000 in
set_option maxHeartbeats 4000000 in
theorem t_X4_linkCount {a1 : Int32} {σ : jM} {r : Int32 × jM}  (h : f_X4_linkCount a1 σ = some r) : J mi_X4_linkCount 2 0 0 (jqI r) 0 [(0, .ref 264), (1, .int a1)] [] (ms σ) := by
  unfold f_X4_linkCount at h
  refine J_iconst (v := 0) dX4_linkCount_0 (by decide) ?_
  refine J_istore_n (i := 2) (ls' := [(2, .int 0), (0, .ref 264), (1, .int a1)]) dX4_linkCount_1 rfl (by decide) rfl ?_
  refine J_iconst (v := 0) dX4_linkCount_2 (by decide) ?_
  refine J_istore_n (i := 3) (ls' := [(3, .int 0), (2, .int 0), (0, .ref 264), (1, .int a1)]) dX4_linkCount_3 rfl (by decide) rfl ?_
  refine J_pick [2, 3, 1, 0] rfl ?_
  exact t_X4_linkCount_4  _ _ _ _ _ _  h
theorem dX4_keyOf_0 : decode cX4_keyOf 0 = .ok (.lconst 0, 1) := by decide +kernel
theorem dX4_keyOf_1 : decode cX4_keyOf 1 = .ok (.lstore_n 3, 1) := by decide +kernel
theorem dX4_keyOf_2 : decode cX4_keyOf 2 = .ok (.iconst 0, 1) := by decide +kernel
theorem dX4_keyOf_3 : decode cX4_keyOf 3 = .ok (.istore 5, 2) := by decide +kernel
theorem dX4_keyOf_5 : decode cX4_keyOf 5 = .ok (.iload 5, 2) := by decide +kernel
theorem dX4_keyOf_7 : decode cX4_keyOf 7 = .ok (.aload_n 1, 1) := by decide +kernel
theorem dX4_keyOf_8 : decode cX4_keyOf 8 = .ok (.getfield 102, 3) := by decide +kernel
theorem dX4_keyOf_11 : decode cX4_keyOf 11 = .ok (.iload_n 2, 1) := by decide +kernel
theorem dX4_keyOf_12 : decode cX4_keyOf 12 = .ok (.iaload, 1) := by decide +kernel
theorem dX4_keyOf_13 : decode cX4_keyOf 13 = .ok (.if_icmp .ge 50, 3) := by decide +kernel
theorem dX4_keyOf_16 : decode cX4_keyOf 16 = .ok (.aload_n 1, 1) := by decide +kernel
theorem dX4_keyOf_17 : decode cX4_keyOf 17 = .ok (.iload_n 2, 1) := by decide +kernel
theorem dX4_keyOf_18 : decode cX4_keyOf 18 = .ok (.iload 5, 2) := by decide +kernel
theorem dX4_keyOf_20 : decode cX4_keyOf 20 = .ok (.invokevirtual 103, 3) := by decide +kernel
theorem dX4_keyOf_23 : decode cX4_keyOf 23 = .ok (.istore 6, 2) := by decide +kernel
theorem dX4_keyOf_25 : decode cX4_keyOf 25 = .ok (.iload 6, 2) := by decide +kernel
theorem dX4_keyOf_27 : decode cX4_keyOf 27 = .ok (.iconst (-1), 1) := by decide +kernel
theorem dX4_keyOf_28 : decode cX4_keyOf 28 = .ok (.if_icmp .ne 7, 3) := by decide +kernel
theorem dX4_keyOf_31 : decode cX4_keyOf 31 = .ok (.ldc2_w 96, 3) := by decide +kernel
theorem dX4_keyOf_34 : decode cX4_keyOf 34 = .ok (.lreturn, 1) := by decide +kernel
theorem dX4_keyOf_35 : decode cX4_keyOf 35 = .ok (.lload_n 3, 1) := by decide +kernel
theorem dX4_keyOf_36 : decode cX4_keyOf 36 = .ok (.aload_n 0, 1) := by decide +kernel
theorem dX4_keyOf_37 : decode cX4_keyOf 37 = .ok (.getfield 35, 3) := by decide +kernel
theorem dX4_keyOf_40 : decode cX4_keyOf 40 = .ok (.getfield 107, 3) := by decide +kernel
theorem dX4_keyOf_43 : decode cX4_keyOf 43 = .ok (.iload 6, 2) := by decide +kernel
theorem dX4_keyOf_45 : decode cX4_keyOf 45 = .ok (.iaload, 1) := by decide +kernel
theorem dX4_keyOf_46 : decode cX4_keyOf 46 = .ok (.i2l, 1) := by decide +kernel
theorem dX4_keyOf_47 : decode cX4_keyOf 47 = .ok (.lconst 1, 1) := by decide +kernel
theorem dX4_keyOf_48 : decode cX4_keyOf 48 = .ok (.ladd, 1) := by decide +kernel
theorem dX4_keyOf_49 : decode cX4_keyOf 49 = .ok (.bipush 6, 2) := by decide +kernel
theorem dX4_keyOf_51 : decode cX4_keyOf 51 = .ok (.iload 5, 2) := by decide +kernel
theorem dX4_keyOf_53 : decode cX4_keyOf 53 = .ok (.imul, 1) := by decide +kernel
theorem dX4_keyOf_54 : decode cX4_keyOf 54 = .ok (.lshl, 1) := by decide +kernel
theorem dX4_keyOf_55 : decode cX4_keyOf 55 = .ok (.lor, 1) := by decide +kernel
theorem dX4_keyOf_56 : decode cX4_keyOf 56 = .ok (.lstore_n 3, 1) := by decide +kernel
theorem dX4_keyOf_57 : decode cX4_keyOf 57 = .ok (.iinc 5 1, 3) := by decide +kernel
theorem dX4_keyOf_60 : decode cX4_keyOf 60 = .ok (.goto (-55), 3) := by decide +kernel
theorem dX4_keyOf_63 : decode cX4_keyOf 63 = .ok (.lload_n 3, 1) := by decide +kernel
theorem dX4_keyOf_64 : decode cX4_keyOf 64 = .ok (.lreturn, 1) := by decide +kernel
noncomputable def s_X4_keyOf_5  (rec5 : Nat → Int32 → Int64 → Int32 → jM → Option (Int64 × jM)) (l1 : Nat) (l2 : Int32) (l3 : Int64) (l5 : Int32) (σ : jM) : Option (Int64 × jM) :=
  gd (inb l2 8) ((if (rI σ (tabX l1 + 1) (Int32.toNatClampNeg l2)) ≤ l5 then some (l3, σ) else bd (f_X10_signAt l1 l2 l5 σ) (fun r5 σ6 => (if r5 = (-1) then some ((-1), σ6) else gd (inb r5 40) (rec5 l1 l2 (l3 ||| (jlshl ((Int32.toInt64 (rI σ6 18 (Int32.toNatClampNeg r5))) + 1) (6 * l5))) (l5 + 1) σ6)))))
noncomputable def f_X4_keyOf_5  (n : Nat) : Nat → Int32 → Int64 → Int32 → jM → Option (Int64 × jM) := Nat.rec (motive := fun _ => Nat → Int32 → Int64 → Int32 → jM → Option (Int64 × jM)) (fun _ _ _ _ _ => none) (fun _ q => s_X4_keyOf_5  q) n
noncomputable def f_X4_keyOf (a1 : Nat) (a2 : Int32) (σ : jM) : Option (Int64 × jM) :=
  f_X4_keyOf_5  Fu a1 a2 0 0 σ
set_option maxRecDepth 20000 in
set_option maxHeartbeats 4000000 in
theorem t_X4_keyOf_5  : ∀ (n : Nat) (l1 : Nat) (l2 : Int32) (l3 : Int64) (l5 : Int32) (σ : jM) (r : Int64 × jM), l1 < 24 → f_X4_keyOf_5  n l1 l2 l3 l5 σ = some r → J mi_X4_keyOf 2 0 0 (jqL r) 5 [(0, .ref 264), (1, .ref (tabX l1)), (2, .int l2), (3, .long l3), (5, .int l5)] [] (ms σ) := by
  intro n
  induction n with
  | zero =>
    intro l1 l2 l3 l5 σ r hl1 h
    have h : (none : Option (Int64 × jM)) = some r := h
    cases h
  | succ n ih =>
    intro l1 l2 l3 l5 σ r hl1 h
    have h : s_X4_keyOf_5  (f_X4_keyOf_5  n) l1 l2 l3 l5 σ = some r := h
    unfold s_X4_keyOf_5 at h
    refine J_iload 4 dX4_keyOf_5 rfl ?_
    refine J_aload_n 1 dX4_keyOf_7 rfl ?_
    refine M_getR gf_X4_102_9 dX4_keyOf_8 (g_tab3 _ hl1) (k_tab hl1) (n_tab hl1) ?_
    refine J_iload_n 2 dX4_keyOf_11 rfl ?_
    obtain ⟨g10, h⟩ := gd_inv h
    refine M_iald dX4_keyOf_12 (a_tab3 hl1) (na_tab3 hl1) g10 ?_
    refine J_icmp_ge (tgt := 63) dX4_keyOf_13 (by decide) (fun c11 => ?_) (fun c11 => ?_)
    · have h := (if_pos c11).symm.trans h
      refine J_lload_n 3 dX4_keyOf_63 rfl ?_
      exact J_ret (v := some (.long l3)) rfl ⟨dX4_keyOf_64, rfl⟩ (jqL_mk h)
    · have h := (if_neg c11).symm.trans h
      refine J_aload_n 1 dX4_keyOf_16 rfl ?_
      refine J_iload_n 2 dX4_keyOf_17 rfl ?_
      refine J_iload 4 dX4_keyOf_18 rfl ?_
      obtain ⟨r12, σ13, h14, h⟩ := bd_inv h
      refine M_callVI (d' := 1) (k := (tabX l1)) (As := [.int l2, .int l5]) (st := []) cv_X4_103 dX4_keyOf_20 rfl (by decide) rfl (Nat.le_of_ble_eq_true rfl) (Nat.le_of_ble_eq_true rfl) (by decide) (n_tab hl1) (k_tab hl1) rfl rfl (t_X10_signAt hl1 h14) ?_
      refine J_istore (i := 6) (ls' := [(6, .int r12), (0, .ref 264), (1, .ref (tabX l1)), (2, .int l2), (3, .long l3), (5, .int l5)]) dX4_keyOf_23 (by decide) rfl ?_
      refine J_iload 0 dX4_keyOf_25 rfl ?_
      refine J_iconst (v := (-1)) dX4_keyOf_27 (by decide) ?_
      refine J_icmp_ne (tgt := 35) dX4_keyOf_28 (by decide) (fun c15 => ?_) (fun c15 => ?_)
      · have h := (if_neg c15).symm.trans h
        refine J_lload_n 4 dX4_keyOf_35 rfl ?_
        refine J_aload_n 1 dX4_keyOf_36 rfl ?_
        refine M_getR gf_X4_35_3 dX4_keyOf_37 (g_264_5 _) k_264 n_264 ?_
        refine M_getR gf_X4_107_0 dX4_keyOf_40 (g_3_11 _) k_3 n_3 ?_
        refine J_iload 0 dX4_keyOf_43 rfl ?_
        obtain ⟨g16, h⟩ := gd_inv h
        refine M_iald dX4_keyOf_45 a_18 n_18 g16 ?_
        refine J_i2l dX4_keyOf_46 ?_
        refine J_lconst (v := 1) dX4_keyOf_47 (by decide) ?_
        refine J_ladd dX4_keyOf_48 ?_
        refine J_bipush (v := 6) dX4_keyOf_49 (by decide) ?_
        refine J_iload 5 dX4_keyOf_51 rfl ?_
        refine J_imul dX4_keyOf_53 ?_
        refine J_lshl dX4_keyOf_54 ?_
        refine J_lor dX4_keyOf_55 ?_
        refine J_lstore_n (i := 3) (ls' := [(3, .long (l3 ||| (jlshl ((Int32.toInt64 (rI σ13 18 (Int32.toNatClampNeg r12))) + 1) (6 * l5)))), (6, .int r12), (0, .ref 264), (1, .ref (tabX l1)), (2, .int l2), (5, .int l5)]) dX4_keyOf_56 rfl (by decide) rfl ?_
        refine J_iinc (v := (l5 + 1)) (ls' := [(5, .int (l5 + 1)), (3, .long (l3 ||| (jlshl ((Int32.toInt64 (rI σ13 18 (Int32.toNatClampNeg r12))) + 1) (6 * l5)))), (6, .int r12), (0, .ref 264), (1, .ref (tabX l1)), (2, .int l2)]) 5 dX4_keyOf_57 rfl rfl (by decide) rfl ?_
        refine J_goto (tgt := 5) dX4_keyOf_60 (by decide) ?_
        refine J_pick [3, 4, 5, 1, 0] rfl ?_
        exact ih _ _ _ _ _ _ hl1 h
      · have h := (if_pos c15).symm.trans h
        refine J_ldc2 dX4_keyOf_31 ct_X4_96 ?_
        exact J_ret (v := some (.long (-1))) rfl ⟨dX4_keyOf_34, rfl⟩ (jqL_mk h)
set_option maxRecDepth 20000 in
set_option maxHeartbeats 4000000 in
theorem t_X4_keyOf {a1 : Nat} {a2 : Int32} {σ : jM} {r : Int64 × jM} (ha1 : a1 < 24) (h : f_X4_keyOf a1 a2 σ = some r) : J mi_X4_keyOf 2 0 0 (jqL r) 0 [(0, .ref 264), (1, .ref (tabX a1)), (2, .int a2)] [] (ms σ) := by
  unfold f_X4_keyOf at h
  refine J_lconst (v := 0) dX4_keyOf_0 (by decide) ?_
  refine J_lstore_n (i := 3) (ls' := [(3, .long 0), (0, .ref 264), (1, .ref (tabX a1)), (2, .int a2)]) dX4_keyOf_1 rfl (by decide) rfl ?_
  refine J_iconst (v := 0) dX4_keyOf_2 (by decide) ?_
  refine J_istore (i := 5) (ls' := [(5, .int 0), (3, .long 0), (0, .ref 264), (1, .ref (tabX a1)), (2, .int a2)]) dX4_keyOf_3 (by decide) rfl ?_
  refine J_pick [2, 3, 4, 1, 0] rfl ?_
  exact t_X4_keyOf_5  _ _ _ _ _ _ _ ha1 h
theorem dX4_linkByShares_0 : decode cX4_linkByShares 0 = .ok (.iconst 0, 1) := by decide +kernel
theorem dX4_linkByShares_1 : decode cX4_linkByShares 1 = .ok (.istore_n 1, 1) := by decide +kernel
theorem dX4_linkByShares_2 : decode cX4_linkByShares 2 = .ok (.iload_n 1, 1) := by decide +kernel
theorem dX4_linkByShares_3 : decode cX4_linkByShares 3 = .ok (.aload_n 0, 1) := by decide +kernel
theorem dX4_linkByShares_4 : decode cX4_linkByShares 4 = .ok (.getfield 35, 3) := by decide +kernel
theorem dX4_linkByShares_7 : decode cX4_linkByShares 7 = .ok (.getfield 154, 3) := by decide +kernel
theorem dX4_linkByShares_10 : decode cX4_linkByShares 10 = .ok (.if_icmp .ge 100, 3) := by decide +kernel
theorem dX4_linkByShares_13 : decode cX4_linkByShares 13 = .ok (.aload_n 0, 1) := by decide +kernel
theorem dX4_linkByShares_14 : decode cX4_linkByShares 14 = .ok (.getfield 35, 3) := by decide +kernel
theorem dX4_linkByShares_17 : decode cX4_linkByShares 17 = .ok (.getfield 157, 3) := by decide +kernel
theorem dX4_linkByShares_20 : decode cX4_linkByShares 20 = .ok (.iload_n 1, 1) := by decide +kernel
theorem dX4_linkByShares_21 : decode cX4_linkByShares 21 = .ok (.aaload, 1) := by decide +kernel
theorem dX4_linkByShares_22 : decode cX4_linkByShares 22 = .ok (.astore_n 2, 1) := by decide +kernel
theorem dX4_linkByShares_23 : decode cX4_linkByShares 23 = .ok (.aload_n 0, 1) := by decide +kernel
theorem dX4_linkByShares_24 : decode cX4_linkByShares 24 = .ok (.getfield 35, 3) := by decide +kernel
theorem dX4_linkByShares_27 : decode cX4_linkByShares 27 = .ok (.getfield 107, 3) := by decide +kernel
theorem dX4_linkByShares_30 : decode cX4_linkByShares 30 = .ok (.aload_n 2, 1) := by decide +kernel
theorem dX4_linkByShares_31 : decode cX4_linkByShares 31 = .ok (.getfield 161, 3) := by decide +kernel
theorem dX4_linkByShares_34 : decode cX4_linkByShares 34 = .ok (.iaload, 1) := by decide +kernel
theorem dX4_linkByShares_35 : decode cX4_linkByShares 35 = .ok (.istore_n 3, 1) := by decide +kernel
theorem dX4_linkByShares_36 : decode cX4_linkByShares 36 = .ok (.aload_n 0, 1) := by decide +kernel
theorem dX4_linkByShares_37 : decode cX4_linkByShares 37 = .ok (.getfield 35, 3) := by decide +kernel
theorem dX4_linkByShares_40 : decode cX4_linkByShares 40 = .ok (.getfield 107, 3) := by decide +kernel
theorem dX4_linkByShares_43 : decode cX4_linkByShares 43 = .ok (.aload_n 2, 1) := by decide +kernel
theorem dX4_linkByShares_44 : decode cX4_linkByShares 44 = .ok (.getfield 166, 3) := by decide +kernel
theorem dX4_linkByShares_47 : decode cX4_linkByShares 47 = .ok (.iaload, 1) := by decide +kernel
theorem dX4_linkByShares_48 : decode cX4_linkByShares 48 = .ok (.istore 4, 2) := by decide +kernel
theorem dX4_linkByShares_50 : decode cX4_linkByShares 50 = .ok (.iload_n 3, 1) := by decide +kernel
theorem dX4_linkByShares_51 : decode cX4_linkByShares 51 = .ok (.iload 4, 2) := by decide +kernel
theorem dX4_linkByShares_53 : decode cX4_linkByShares 53 = .ok (.if_icmp .eq 51, 3) := by decide +kernel
theorem dX4_linkByShares_56 : decode cX4_linkByShares 56 = .ok (.aload_n 2, 1) := by decide +kernel
theorem dX4_linkByShares_57 : decode cX4_linkByShares 57 = .ok (.aload_n 0, 1) := by decide +kernel
theorem dX4_linkByShares_58 : decode cX4_linkByShares 58 = .ok (.getfield 35, 3) := by decide +kernel
theorem dX4_linkByShares_61 : decode cX4_linkByShares 61 = .ok (.getfield 169, 3) := by decide +kernel
theorem dX4_linkByShares_64 : decode cX4_linkByShares 64 = .ok (.invokevirtual 172, 3) := by decide +kernel
theorem dX4_linkByShares_67 : decode cX4_linkByShares 67 = .ok (.ifCond .eq 37, 3) := by decide +kernel
theorem dX4_linkByShares_70 : decode cX4_linkByShares 70 = .ok (.aload_n 2, 1) := by decide +kernel
theorem dX4_linkByShares_71 : decode cX4_linkByShares 71 = .ok (.getfield 175, 3) := by decide +kernel
theorem dX4_linkByShares_74 : decode cX4_linkByShares 74 = .ok (.ifCond .eq 15, 3) := by decide +kernel
theorem dX4_linkByShares_77 : decode cX4_linkByShares 77 = .ok (.aload_n 0, 1) := by decide +kernel
theorem dX4_linkByShares_78 : decode cX4_linkByShares 78 = .ok (.getfield 18, 3) := by decide +kernel
theorem dX4_linkByShares_81 : decode cX4_linkByShares 81 = .ok (.aload_n 2, 1) := by decide +kernel
theorem dX4_linkByShares_82 : decode cX4_linkByShares 82 = .ok (.getfield 178, 3) := by decide +kernel
theorem dX4_linkByShares_85 : decode cX4_linkByShares 85 = .ok (.aaload, 1) := by decide +kernel
theorem dX4_linkByShares_86 : decode cX4_linkByShares 86 = .ok (.goto 12, 3) := by decide +kernel
theorem dX4_linkByShares_89 : decode cX4_linkByShares 89 = .ok (.aload_n 0, 1) := by decide +kernel
theorem dX4_linkByShares_90 : decode cX4_linkByShares 90 = .ok (.getfield 21, 3) := by decide +kernel
theorem dX4_linkByShares_93 : decode cX4_linkByShares 93 = .ok (.aload_n 2, 1) := by decide +kernel
theorem dX4_linkByShares_94 : decode cX4_linkByShares 94 = .ok (.getfield 178, 3) := by decide +kernel
theorem dX4_linkByShares_97 : decode cX4_linkByShares 97 = .ok (.aaload, 1) := by decide +kernel
theorem dX4_linkByShares_98 : decode cX4_linkByShares 98 = .ok (.iload_n 3, 1) := by decide +kernel
theorem dX4_linkByShares_99 : decode cX4_linkByShares 99 = .ok (.iload 4, 2) := by decide +kernel
theorem dX4_linkByShares_101 : decode cX4_linkByShares 101 = .ok (.invokestatic 148, 3) := by decide +kernel
theorem dX4_linkByShares_104 : decode cX4_linkByShares 104 = .ok (.iinc 1 1, 3) := by decide +kernel
theorem dX4_linkByShares_107 : decode cX4_linkByShares 107 = .ok (.goto (-105), 3) := by decide +kernel
theorem dX4_linkByShares_110 : decode cX4_linkByShares 110 = .ok (.return_, 1) := by decide +kernel
noncomputable def f_X4_linkByShares_104 (rec2 : Int32 → jM → Option (Unit × jM)) (l1 : Int32) (σ : jM) : Option (Unit × jM) :=
  rec2 (l1 + 1) σ
noncomputable def f_X4_linkByShares_98 (rec2 : Int32 → jM → Option (Unit × jM)) (l1 : Int32) (l3 : Int32) (l4 : Int32) (s0 : Nat) (σ : jM) : Option (Unit × jM) :=
  bd (f_X12_join s0 l3 l4 σ) (fun _ σ7 => f_X4_linkByShares_104 rec2 l1 σ7)
noncomputable def s_X4_linkByShares_2  (rec2 : Int32 → jM → Option (Unit × jM)) (l1 : Int32) (σ : jM) : Option (Unit × jM) :=
  (if (rI σ 3 6) ≤ l1 then some ((), σ) else gd (inb l1 60) (gd (inb (rI σ (shaX (Int32.toNatClampNeg l1)) 3) 40) (gd (inb (rI σ (shaX (Int32.toNatClampNeg l1)) 4) 40) ((if (rI σ 18 (Int32.toNatClampNeg (rI σ (shaX (Int32.toNatClampNeg l1)) 3))) = (rI σ 18 (Int32.toNatClampNeg (rI σ (shaX (Int32.toNatClampNeg l1)) 4))) then f_X4_linkByShares_104 rec2 l1 σ else bd (f_countsOn_8 (shaX (Int32.toNatClampNeg l1)) (rI σ 3 10) σ) (fun r17 σ18 => (if r17 = 0 then f_X4_linkByShares_104 rec2 l1 σ18 else (if (rI σ18 (shaX (Int32.toNatClampNeg l1)) 5) = 0 then gd (inb (rI σ18 (shaX (Int32.toNatClampNeg l1)) 2) 2) (f_X4_linkByShares_98 rec2 l1 (rI σ 18 (Int32.toNatClampNeg (rI σ (shaX (Int32.toNatClampNeg l1)) 3))) (rI σ 18 (Int32.toNatClampNeg (rI σ (shaX (Int32.toNatClampNeg l1)) 4))) (282 + (Int32.toNatClampNeg (rI σ18 (shaX (Int32.toNatClampNeg l1)) 2))) σ18) else gd (inb (rI σ18 (shaX (Int32.toNatClampNeg l1)) 2) 2) (f_X4_linkByShares_98 rec2 l1 (rI σ 18 (Int32.toNatClampNeg (rI σ (shaX (Int32.toNatClampNeg l1)) 3))) (rI σ 18 (Int32.toNatClampNeg (rI σ (shaX (Int32.toNatClampNeg l1)) 4))) (279 + (Int32.toNatClampNeg (rI σ18 (shaX (Int32.toNatClampNeg l1)) 2))) σ18)))))))))
noncomputable def f_X4_linkByShares_2  (n : Nat) : Int32 → jM → Option (Unit × jM) := Nat.rec (motive := fun _ => Int32 → jM → Option (Unit × jM)) (fun _ _ => none) (fun _ q => s_X4_linkByShares_2  q) n
noncomputable def f_X4_linkByShares  (σ : jM) : Option (Unit × jM) :=
  f_X4_linkByShares_2  Fu 0 σ
set_option maxRecDepth 20000 in
set_option maxHeartbeats 4000000 in
theorem t_X4_linkByShares_104 {rec2 : Int32 → jM → Option (Unit × jM)} (hrec2 : ∀ (l1 : Int32) (σ : jM) (r : Unit × jM), rec2 l1 σ = some r → J mi_X4_linkByShares 2 0 0 (jqV r) 2 [(0, .ref 264), (1, .int l1)] [] (ms σ)) (l1 : Int32) (σ : jM) (r : Unit × jM)  (h : f_X4_linkByShares_104 rec2 l1 σ = some r) : J mi_X4_linkByShares 2 0 0 (jqV r) 104 [(0, .ref 264), (1, .int l1)] [] (ms σ) := by
  unfold f_X4_linkByShares_104 at h
  refine J_iinc (v := (l1 + 1)) (ls' := [(1, .int (l1 + 1)), (0, .ref 264)]) 1 dX4_linkByShares_104 rfl rfl (by decide) rfl ?_
  refine J_goto (tgt := 2) dX4_linkByShares_107 (by decide) ?_
  refine J_pick [1, 0] rfl ?_
  exact hrec2 _ _ _  h
set_option maxRecDepth 20000 in
set_option maxHeartbeats 4000000 in
theorem t_X4_linkByShares_98 {rec2 : Int32 → jM → Option (Unit × jM)} (hrec2 : ∀ (l1 : Int32) (σ : jM) (r : Unit × jM), rec2 l1 σ = some r → J mi_X4_linkByShares 2 0 0 (jqV r) 2 [(0, .ref 264), (1, .int l1)] [] (ms σ)) (l1 : Int32) (l3 : Int32) (l4 : Int32) (s0 : Nat) (σ : jM) (r : Unit × jM) (hs0 : (shf s0).1 = 15 ∧ s0 < 376) (h : f_X4_linkByShares_98 rec2 l1 l3 l4 s0 σ = some r) : J mi_X4_linkByShares 2 0 0 (jqV r) 98 [(0, .ref 264), (1, .int l1), (3, .int l3), (4, .int l4)] [.ref s0] (ms σ) := by
  unfold f_X4_linkByShares_98 at h
  refine J_iload_n 2 dX4_linkByShares_98 rfl ?_
  refine J_iload 3 dX4_linkByShares_99 rfl ?_
  obtain ⟨_, σ10, h11, h⟩ := bd_inv h
  refine M_callNV (d' := 1) (As := [.ref s0, .int l3, .int l4]) (st := []) cn_X4_148 dX4_linkByShares_101 rfl (Nat.le_of_ble_eq_true rfl) (Nat.le_of_ble_eq_true rfl) (by decide) rfl rfl (t_X12_join ⟨congrArg Prod.fst (shf_fst hs0.1), hs0.2⟩ h11) ?_
  refine J_pick [0, 1] rfl ?_
  exact t_X4_linkByShares_104 hrec2 _ _ _  h
set_option maxRecDepth 20000 in
set_option maxHeartbeats 4000000 in
theorem t_X4_linkByShares_2  : ∀ (n : Nat) (l1 : Int32) (σ : jM) (r : Unit × jM), f_X4_linkByShares_2  n l1 σ = some r → J mi_X4_linkByShares 2 0 0 (jqV r) 2 [(0, .ref 264), (1, .int l1)] [] (ms σ) := by
  intro n
  induction n with
  | zero =>
    intro l1 σ r  h
    have h : (none : Option (Unit × jM)) = some r := h
    cases h
  | succ n ih =>
    intro l1 σ r  h
    have h : s_X4_linkByShares_2  (f_X4_linkByShares_2  n) l1 σ = some r := h
    unfold s_X4_linkByShares_2 at h
    refine J_iload_n 1 dX4_linkByShares_2 rfl ?_
    refine J_aload_n 0 dX4_linkByShares_3 rfl ?_
    refine M_getR gf_X4_35_3 dX4_linkByShares_4 (g_264_5 _) k_264 n_264 ?_
    refine M_getI gf_X4_154_0 dX4_linkByShares_7 k_3 n_3 ?_
    refine J_icmp_ge (tgt := 110) dX4_linkByShares_10 (by decide) (fun c24 => ?_) (fun c24 => ?_)
    · have h := (if_pos c24).symm.trans h
      exact J_ret (v := none) rfl ⟨dX4_linkByShares_110, rfl⟩ (jqV_mk h)
    · have h := (if_neg c24).symm.trans h
      refine J_aload_n 0 dX4_linkByShares_13 rfl ?_
      refine M_getR gf_X4_35_3 dX4_linkByShares_14 (g_264_5 _) k_264 n_264 ?_
      refine M_getR gf_X4_157_0 dX4_linkByShares_17 (g_3_5 _) k_3 n_3 ?_
      refine J_iload_n 1 dX4_linkByShares_20 rfl ?_
      obtain ⟨g25, h⟩ := gd_inv h
      refine M_aald dX4_linkByShares_21 a_6 (by decide) n_6 g25 (r_sha _ g25.2) ?_
      refine J_astore_n (i := 2) (ls' := [(2, .ref (shaX (Int32.toNatClampNeg l1))), (0, .ref 264), (1, .int l1)]) dX4_linkByShares_22 rfl (by decide) rfl ?_
      refine J_aload_n 1 dX4_linkByShares_23 rfl ?_
      refine M_getR gf_X4_35_3 dX4_linkByShares_24 (g_264_5 _) k_264 n_264 ?_
      refine M_getR gf_X4_107_0 dX4_linkByShares_27 (g_3_11 _) k_3 n_3 ?_
      refine J_aload_n 0 dX4_linkByShares_30 rfl ?_
      refine M_getI gf_X4_161_8 dX4_linkByShares_31 (k_sha g25.2) (n_sha g25.2) ?_
      obtain ⟨g26, h⟩ := gd_inv h
      refine M_iald dX4_linkByShares_34 a_18 n_18 g26 ?_
      refine J_istore_n (i := 3) (ls' := [(3, .int (rI σ 18 (Int32.toNatClampNeg (rI σ (shaX (Int32.toNatClampNeg l1)) 3)))), (2, .ref (shaX (Int32.toNatClampNeg l1))), (0, .ref 264), (1, .int l1)]) dX4_linkByShares_35 rfl (by decide) rfl ?_
      refine J_aload_n 2 dX4_linkByShares_36 rfl ?_
      refine M_getR gf_X4_35_3 dX4_linkByShares_37 (g_264_5 _) k_264 n_264 ?_
      refine M_getR gf_X4_107_0 dX4_linkByShares_40 (g_3_11 _) k_3 n_3 ?_
      refine J_aload_n 1 dX4_linkByShares_43 rfl ?_
      refine M_getI gf_X4_166_8 dX4_linkByShares_44 (k_sha g25.2) (n_sha g25.2) ?_
      obtain ⟨g27, h⟩ := gd_inv h
      refine M_iald dX4_linkByShares_47 a_18 n_18 g27 ?_
      refine J_istore (i := 4) (ls' := [(4, .int (rI σ 18 (Int32.toNatClampNeg (rI σ (shaX (Int32.toNatClampNeg l1)) 4)))), (3, .int (rI σ 18 (Int32.toNatClampNeg (rI σ (shaX (Int32.toNatClampNeg l1)) 3)))), (2, .ref (shaX (Int32.toNatClampNeg l1))), (0, .ref 264), (1, .int l1)]) dX4_linkByShares_48 (by decide) rfl ?_
      refine J_iload_n 1 dX4_linkByShares_50 rfl ?_
      refine J_iload 0 dX4_linkByShares_51 rfl ?_
      refine J_icmp_eq (tgt := 104) dX4_linkByShares_53 (by decide) (fun c28 => ?_) (fun c28 => ?_)
      · have h := (if_pos c28).symm.trans h
        refine J_pick [3, 4] rfl ?_
        exact t_X4_linkByShares_104 ih _ _ _  h
      · have h := (if_neg c28).symm.trans h
        refine J_aload_n 2 dX4_linkByShares_56 rfl ?_
        refine J_aload_n 3 dX4_linkByShares_57 rfl ?_
        refine M_getR gf_X4_35_3 dX4_linkByShares_58 (g_264_5 _) k_264 n_264 ?_
        refine M_getI gf_X4_169_0 dX4_linkByShares_61 k_3 n_3 ?_
        obtain ⟨r29, σ30, h31, h⟩ := bd_inv h
        refine M_callU (d' := 1) (k := (shaX (Int32.toNatClampNeg l1))) (As := [.int (rI σ 3 10)]) (st := []) cu_X4_172_8 dX4_linkByShares_64 rfl (Nat.le_of_ble_eq_true rfl) (Nat.le_of_ble_eq_true rfl) (by decide) (n_sha g25.2) (k_sha g25.2) rfl rfl (t_countsOn_8 (k_sha g25.2) (n_sha g25.2) h31) ?_
        refine J_if_eq (tgt := 104) dX4_linkByShares_67 (by decide) (fun c32 => ?_) (fun c32 => ?_)
        · have h := (if_pos c32).symm.trans h
          refine J_pick [3, 4] rfl ?_
          exact t_X4_linkByShares_104 ih _ _ _  h
        · have h := (if_neg c32).symm.trans h
          refine J_aload_n 2 dX4_linkByShares_70 rfl ?_
          refine M_getI gf_X4_175_8 dX4_linkByShares_71 (k_sha g25.2) (n_sha g25.2) ?_
          refine J_if_eq (tgt := 89) dX4_linkByShares_74 (by decide) (fun c33 => ?_) (fun c33 => ?_)
          · have h := (if_pos c33).symm.trans h
            refine J_aload_n 3 dX4_linkByShares_89 rfl ?_
            refine M_getR gf_X4_21_3 dX4_linkByShares_90 (g_264_3 _) k_264 n_264 ?_
            refine J_aload_n 2 dX4_linkByShares_93 rfl ?_
            refine M_getI gf_X4_178_8 dX4_linkByShares_94 (k_sha g25.2) (n_sha g25.2) ?_
            obtain ⟨g34, h⟩ := gd_inv h
            refine M_aald dX4_linkByShares_97 a_281 (by decide) n_281 g34 (r_row281 _ g34.2) ?_
            refine J_pick [3, 4, 1, 0] rfl ?_
            exact t_X4_linkByShares_98 ih _ _ _ _ _ _ ⟨congrArg Prod.fst (a_row281 g34.2), (na_row281 g34.2)⟩ h
          · have h := (if_neg c33).symm.trans h
            refine J_aload_n 3 dX4_linkByShares_77 rfl ?_
            refine M_getR gf_X4_18_3 dX4_linkByShares_78 (g_264_2 _) k_264 n_264 ?_
            refine J_aload_n 2 dX4_linkByShares_81 rfl ?_
            refine M_getI gf_X4_178_8 dX4_linkByShares_82 (k_sha g25.2) (n_sha g25.2) ?_
            obtain ⟨g35, h⟩ := gd_inv h
            refine M_aald dX4_linkByShares_85 a_278 (by decide) n_278 g35 (r_row278 _ g35.2) ?_
            refine J_goto (tgt := 98) dX4_linkByShares_86 (by decide) ?_
            refine J_pick [3, 4, 1, 0] rfl ?_
            exact t_X4_linkByShares_98 ih _ _ _ _ _ _ ⟨congrArg Prod.fst (a_row278 g35.2), (na_row278 g35.2)⟩ h
set_option maxRecDepth 20000 in
set_option maxHeartbeats 4000000 in
theorem t_X4_linkByShares  {σ : jM} {r : Unit × jM}  (h : f_X4_linkByShares  σ = some r) : J mi_X4_linkByShares 2 0 0 (jqV r) 0 [(0, .ref 264)] [] (ms σ) := by
  unfold f_X4_linkByShares at h
  refine J_iconst (v := 0) dX4_linkByShares_0 (by decide) ?_
  refine J_istore_n (i := 1) (ls' := [(1, .int 0), (0, .ref 264)]) dX4_linkByShares_1 rfl (by decide) rfl ?_
  refine J_pick [1, 0] rfl ?_
  exact t_X4_linkByShares_2  _ _ _ _  h
theorem dX7_means_0 : decode cX7_means 0 = .ok (.aload_n 0, 1) := by decide +kernel
theorem dX7_means_1 : decode cX7_means 1 = .ok (.getfield 9, 3) := by decide +kernel
theorem dX7_means_4 : decode cX7_means 4 = .ok (.iload_n 1, 1) := by decide +kernel
theorem dX7_means_5 : decode cX7_means 5 = .ok (.iaload, 1) := by decide +kernel
theorem dX7_means_6 : decode cX7_means 6 = .ok (.invokestatic 36, 3) := by decide +kernel
theorem dX7_means_9 : decode cX7_means 9 = .ok (.ifCond .eq 13, 3) := by decide +kernel
theorem dX7_means_12 : decode cX7_means 12 = .ok (.iload_n 2, 1) := by decide +kernel
theorem dX7_means_13 : decode cX7_means 13 = .ok (.aload_n 0, 1) := by decide +kernel
theorem dX7_means_14 : decode cX7_means 14 = .ok (.getfield 18, 3) := by decide +kernel
theorem dX7_means_17 : decode cX7_means 17 = .ok (.iload_n 1, 1) := by decide +kernel
theorem dX7_means_18 : decode cX7_means 18 = .ok (.iaload, 1) := by decide +kernel
theorem dX7_means_19 : decode cX7_means 19 = .ok (.if_icmp .ge 5, 3) := by decide +kernel
theorem dX7_means_22 : decode cX7_means 22 = .ok (.iconst 0, 1) := by decide +kernel
theorem dX7_means_23 : decode cX7_means 23 = .ok (.ireturn, 1) := by decide +kernel
theorem dX7_means_24 : decode cX7_means 24 = .ok (.iload_n 3, 1) := by decide +kernel
theorem dX7_means_25 : decode cX7_means 25 = .ok (.aload_n 0, 1) := by decide +kernel
theorem dX7_means_26 : decode cX7_means 26 = .ok (.getfield 15, 3) := by decide +kernel
theorem dX7_means_29 : decode cX7_means 29 = .ok (.iload_n 1, 1) := by decide +kernel
theorem dX7_means_30 : decode cX7_means 30 = .ok (.iaload, 1) := by decide +kernel
theorem dX7_means_31 : decode cX7_means 31 = .ok (.ifCond .ne 7, 3) := by decide +kernel
theorem dX7_means_34 : decode cX7_means 34 = .ok (.iload_n 2, 1) := by decide +kernel
theorem dX7_means_35 : decode cX7_means 35 = .ok (.goto 9, 3) := by decide +kernel
theorem dX7_means_38 : decode cX7_means 38 = .ok (.aload_n 0, 1) := by decide +kernel
theorem dX7_means_39 : decode cX7_means 39 = .ok (.getfield 15, 3) := by decide +kernel
theorem dX7_means_42 : decode cX7_means 42 = .ok (.iload_n 1, 1) := by decide +kernel
theorem dX7_means_43 : decode cX7_means 43 = .ok (.iaload, 1) := by decide +kernel
theorem dX7_means_44 : decode cX7_means 44 = .ok (.iconst 1, 1) := by decide +kernel
theorem dX7_means_45 : decode cX7_means 45 = .ok (.isub, 1) := by decide +kernel
theorem dX7_means_46 : decode cX7_means 46 = .ok (.if_icmp .ne 7, 3) := by decide +kernel
theorem dX7_means_49 : decode cX7_means 49 = .ok (.iconst 1, 1) := by decide +kernel
theorem dX7_means_50 : decode cX7_means 50 = .ok (.goto 4, 3) := by decide +kernel
theorem dX7_means_53 : decode cX7_means 53 = .ok (.iconst 0, 1) := by decide +kernel
theorem dX7_means_54 : decode cX7_means 54 = .ok (.ireturn, 1) := by decide +kernel
noncomputable def f_X7_means_22   (σ : jM) : Option (Int32 × jM) :=
  some (0, σ)
noncomputable def f_X7_means_54  (s0 : Int32) (σ : jM) : Option (Int32 × jM) :=
  gd (s0 = 0 ∨ s0 = 1) (some (s0, σ))
noncomputable def f_X7_means_44  (s0 : Int32) (s1 : Int32) (σ : jM) : Option (Int32 × jM) :=
  (if s0 = (s1 - 1) then f_X7_means_54  1 σ else f_X7_means_54  0 σ)
noncomputable def f_X7_means (t0 : Nat) (a1 : Int32) (a2 : Int32) (a3 : Int32) (σ : jM) : Option (Int32 × jM) :=
  gd (inb a1 12) (bd (f_X12_isSort (rI σ (rulX t0 + 1) (Int32.toNatClampNeg a1)) σ) (fun r10 σ11 => (if r10 = 0 then f_X7_means_22   σ11 else gd (inb a1 12) ((if (rI σ11 (rulX t0 + 3) (Int32.toNatClampNeg a1)) ≤ a2 then gd (inb a1 12) ((if (rI σ11 (rulX t0 + 2) (Int32.toNatClampNeg a1)) = 0 then f_X7_means_44  a3 a2 σ11 else gd (inb a1 12) (f_X7_means_44  a3 (rI σ11 (rulX t0 + 2) (Int32.toNatClampNeg a1)) σ11))) else f_X7_means_22   σ11)))))
set_option maxRecDepth 20000 in
set_option maxHeartbeats 4000000 in
theorem t_X7_means_22   (σ : jM) (r : Int32 × jM)  (h : f_X7_means_22   σ = some r) : J mi_X7_means 2 0 0 (jqI r) 22 [] [] (ms σ) := by
  unfold f_X7_means_22 at h
  refine J_iconst (v := 0) dX7_means_22 (by decide) ?_
  exact J_ret (v := some (.int 0)) rfl ⟨dX7_means_23, Or.inr (Or.inl ⟨rfl, Or.inl rfl⟩)⟩ (jqI_mk h)
set_option maxRecDepth 20000 in
set_option maxHeartbeats 4000000 in
theorem t_X7_means_54  (s0 : Int32) (σ : jM) (r : Int32 × jM)  (h : f_X7_means_54  s0 σ = some r) : J mi_X7_means 2 0 0 (jqI r) 54 [] [.int s0] (ms σ) := by
  unfold f_X7_means_54 at h
  obtain ⟨g6, h⟩ := gd_inv h
  exact J_ret (v := some (.int s0)) rfl ⟨dX7_means_54, Or.inr (Or.inl ⟨rfl, g6⟩)⟩ (jqI_mk h)
set_option maxRecDepth 20000 in
set_option maxHeartbeats 4000000 in
theorem t_X7_means_44  (s0 : Int32) (s1 : Int32) (σ : jM) (r : Int32 × jM)  (h : f_X7_means_44  s0 s1 σ = some r) : J mi_X7_means 2 0 0 (jqI r) 44 [] [.int s1, .int s0] (ms σ) := by
  unfold f_X7_means_44 at h
  refine J_iconst (v := 1) dX7_means_44 (by decide) ?_
  refine J_isub dX7_means_45 ?_
  refine J_icmp_ne (tgt := 53) dX7_means_46 (by decide) (fun c8 => ?_) (fun c8 => ?_)
  · have h := (if_neg c8).symm.trans h
    refine J_iconst (v := 0) dX7_means_53 (by decide) ?_
    exact t_X7_means_54  _ _ _  h
  · have h := (if_pos c8).symm.trans h
    refine J_iconst (v := 1) dX7_means_49 (by decide) ?_
    refine J_goto (tgt := 54) dX7_means_50 (by decide) ?_
    exact t_X7_means_54  _ _ _  h
set_option maxRecDepth 20000 in
set_option maxHeartbeats 4000000 in
theorem t_X7_means {t0 : Nat} {a1 : Int32} {a2 : Int32} {a3 : Int32} {σ : jM} {r : Int32 × jM}  (h : f_X7_means t0 a1 a2 a3 σ = some r) : J mi_X7_means 2 0 0 (jqI r) 0 [(0, .ref (rulX t0)), (1, .int a1), (2, .int a2), (3, .int a3)] [] (ms σ) := by
  unfold f_X7_means at h
  refine J_aload_n 0 dX7_means_0 rfl ?_
  refine M_getR gf_X7_9_6 dX7_means_1 (gg_rul2 _ t0) (kk_rul t0) (nn_rul t0) ?_
  refine J_iload_n 1 dX7_means_4 rfl ?_
  obtain ⟨g9, h⟩ := gd_inv h
  refine M_iald dX7_means_5 (aa_rul2 t0) (nna_rul2 t0) g9 ?_
  obtain ⟨r10, σ11, h12, h⟩ := bd_inv h
  refine M_callNI (d' := 1) (As := [.int (rI σ (rulX t0 + 1) (Int32.toNatClampNeg a1))]) (st := []) cn_X7_36 dX7_means_6 rfl (Nat.le_of_ble_eq_true rfl) (Nat.le_of_ble_eq_true rfl) (by decide) rfl rfl (t_X12_isSort  h12) ?_
  refine J_if_eq (tgt := 22) dX7_means_9 (by decide) (fun c13 => ?_) (fun c13 => ?_)
  · have h := (if_pos c13).symm.trans h
    refine J_pick [] rfl ?_
    exact t_X7_means_22   _ _  h
  · have h := (if_neg c13).symm.trans h
    refine J_iload_n 2 dX7_means_12 rfl ?_
    refine J_aload_n 0 dX7_means_13 rfl ?_
    refine M_getR gf_X7_18_6 dX7_means_14 (gg_rul4 _ t0) (kk_rul t0) (nn_rul t0) ?_
    refine J_iload_n 1 dX7_means_17 rfl ?_
    obtain ⟨g14, h⟩ := gd_inv h
    refine M_iald dX7_means_18 (aa_rul4 t0) (nna_rul4 t0) g14 ?_
    refine J_icmp_ge (tgt := 24) dX7_means_19 (by decide) (fun c15 => ?_) (fun c15 => ?_)
    · have h := (if_pos c15).symm.trans h
      refine J_iload_n 3 dX7_means_24 rfl ?_
      refine J_aload_n 0 dX7_means_25 rfl ?_
      refine M_getR gf_X7_15_6 dX7_means_26 (gg_rul3 _ t0) (kk_rul t0) (nn_rul t0) ?_
      refine J_iload_n 1 dX7_means_29 rfl ?_
      obtain ⟨g16, h⟩ := gd_inv h
      refine M_iald dX7_means_30 (aa_rul3 t0) (nna_rul3 t0) g16 ?_
      refine J_if_ne (tgt := 38) dX7_means_31 (by decide) (fun c17 => ?_) (fun c17 => ?_)
      · have h := (if_neg c17).symm.trans h
        refine J_aload_n 0 dX7_means_38 rfl ?_
        refine M_getR gf_X7_15_6 dX7_means_39 (gg_rul3 _ t0) (kk_rul t0) (nn_rul t0) ?_
        refine J_iload_n 1 dX7_means_42 rfl ?_
        obtain ⟨g18, h⟩ := gd_inv h
        refine M_iald dX7_means_43 (aa_rul3 t0) (nna_rul3 t0) g18 ?_
        refine J_pick [] rfl ?_
        exact t_X7_means_44  _ _ _ _  h
      · have h := (if_pos c17).symm.trans h
        refine J_iload_n 2 dX7_means_34 rfl ?_
        refine J_goto (tgt := 44) dX7_means_35 (by decide) ?_
        refine J_pick [] rfl ?_
        exact t_X7_means_44  _ _ _ _  h
    · have h := (if_neg c15).symm.trans h
      refine J_pick [] rfl ?_
      exact t_X7_means_22   _ _  h
theorem dX7_cellMadeBy_0 : decode cX7_cellMadeBy 0 = .ok (.aload_n 0, 1) := by decide +kernel
theorem dX7_cellMadeBy_1 : decode cX7_cellMadeBy 1 = .ok (.getfield 33, 3) := by decide +kernel
theorem dX7_cellMadeBy_4 : decode cX7_cellMadeBy 4 = .ok (.iload_n 1, 1) := by decide +kernel
theorem dX7_cellMadeBy_5 : decode cX7_cellMadeBy 5 = .ok (.iaload, 1) := by decide +kernel
theorem dX7_cellMadeBy_6 : decode cX7_cellMadeBy 6 = .ok (.iconst (-1), 1) := by decide +kernel
theorem dX7_cellMadeBy_7 : decode cX7_cellMadeBy 7 = .ok (.if_icmp .eq 40, 3) := by decide +kernel
theorem dX7_cellMadeBy_10 : decode cX7_cellMadeBy 10 = .ok (.iload_n 1, 1) := by decide +kernel
theorem dX7_cellMadeBy_11 : decode cX7_cellMadeBy 11 = .ok (.ifCond .eq 15, 3) := by decide +kernel
theorem dX7_cellMadeBy_14 : decode cX7_cellMadeBy 14 = .ok (.aload_n 0, 1) := by decide +kernel
theorem dX7_cellMadeBy_15 : decode cX7_cellMadeBy 15 = .ok (.getfield 33, 3) := by decide +kernel
theorem dX7_cellMadeBy_18 : decode cX7_cellMadeBy 18 = .ok (.iload_n 1, 1) := by decide +kernel
theorem dX7_cellMadeBy_19 : decode cX7_cellMadeBy 19 = .ok (.iconst 1, 1) := by decide +kernel
theorem dX7_cellMadeBy_20 : decode cX7_cellMadeBy 20 = .ok (.isub, 1) := by decide +kernel
theorem dX7_cellMadeBy_21 : decode cX7_cellMadeBy 21 = .ok (.iaload, 1) := by decide +kernel
theorem dX7_cellMadeBy_22 : decode cX7_cellMadeBy 22 = .ok (.iconst (-1), 1) := by decide +kernel
theorem dX7_cellMadeBy_23 : decode cX7_cellMadeBy 23 = .ok (.if_icmp .eq 7, 3) := by decide +kernel
theorem dX7_cellMadeBy_26 : decode cX7_cellMadeBy 26 = .ok (.iconst 1, 1) := by decide +kernel
theorem dX7_cellMadeBy_27 : decode cX7_cellMadeBy 27 = .ok (.goto 4, 3) := by decide +kernel
theorem dX7_cellMadeBy_30 : decode cX7_cellMadeBy 30 = .ok (.iconst 0, 1) := by decide +kernel
theorem dX7_cellMadeBy_31 : decode cX7_cellMadeBy 31 = .ok (.istore_n 3, 1) := by decide +kernel
theorem dX7_cellMadeBy_32 : decode cX7_cellMadeBy 32 = .ok (.iload_n 3, 1) := by decide +kernel
theorem dX7_cellMadeBy_33 : decode cX7_cellMadeBy 33 = .ok (.ifCond .eq 12, 3) := by decide +kernel
theorem dX7_cellMadeBy_36 : decode cX7_cellMadeBy 36 = .ok (.aload_n 0, 1) := by decide +kernel
theorem dX7_cellMadeBy_37 : decode cX7_cellMadeBy 37 = .ok (.getfield 33, 3) := by decide +kernel
theorem dX7_cellMadeBy_40 : decode cX7_cellMadeBy 40 = .ok (.iload_n 1, 1) := by decide +kernel
theorem dX7_cellMadeBy_41 : decode cX7_cellMadeBy 41 = .ok (.iaload, 1) := by decide +kernel
theorem dX7_cellMadeBy_42 : decode cX7_cellMadeBy 42 = .ok (.goto 4, 3) := by decide +kernel
theorem dX7_cellMadeBy_45 : decode cX7_cellMadeBy 45 = .ok (.iconst (-1), 1) := by decide +kernel
theorem dX7_cellMadeBy_46 : decode cX7_cellMadeBy 46 = .ok (.ireturn, 1) := by decide +kernel
theorem dX7_cellMadeBy_47 : decode cX7_cellMadeBy 47 = .ok (.iload_n 1, 1) := by decide +kernel
theorem dX7_cellMadeBy_48 : decode cX7_cellMadeBy 48 = .ok (.iconst 1, 1) := by decide +kernel
theorem dX7_cellMadeBy_49 : decode cX7_cellMadeBy 49 = .ok (.iadd, 1) := by decide +kernel
theorem dX7_cellMadeBy_50 : decode cX7_cellMadeBy 50 = .ok (.iload_n 2, 1) := by decide +kernel
theorem dX7_cellMadeBy_51 : decode cX7_cellMadeBy 51 = .ok (.if_icmp .ge 19, 3) := by decide +kernel
theorem dX7_cellMadeBy_54 : decode cX7_cellMadeBy 54 = .ok (.aload_n 0, 1) := by decide +kernel
theorem dX7_cellMadeBy_55 : decode cX7_cellMadeBy 55 = .ok (.getfield 33, 3) := by decide +kernel
theorem dX7_cellMadeBy_58 : decode cX7_cellMadeBy 58 = .ok (.iload_n 1, 1) := by decide +kernel
theorem dX7_cellMadeBy_59 : decode cX7_cellMadeBy 59 = .ok (.iconst 1, 1) := by decide +kernel
theorem dX7_cellMadeBy_60 : decode cX7_cellMadeBy 60 = .ok (.iadd, 1) := by decide +kernel
theorem dX7_cellMadeBy_61 : decode cX7_cellMadeBy 61 = .ok (.iaload, 1) := by decide +kernel
theorem dX7_cellMadeBy_62 : decode cX7_cellMadeBy 62 = .ok (.iconst (-1), 1) := by decide +kernel
theorem dX7_cellMadeBy_63 : decode cX7_cellMadeBy 63 = .ok (.if_icmp .eq 7, 3) := by decide +kernel
theorem dX7_cellMadeBy_66 : decode cX7_cellMadeBy 66 = .ok (.iconst 1, 1) := by decide +kernel
theorem dX7_cellMadeBy_67 : decode cX7_cellMadeBy 67 = .ok (.goto 4, 3) := by decide +kernel
theorem dX7_cellMadeBy_70 : decode cX7_cellMadeBy 70 = .ok (.iconst 0, 1) := by decide +kernel
theorem dX7_cellMadeBy_71 : decode cX7_cellMadeBy 71 = .ok (.istore_n 3, 1) := by decide +kernel
theorem dX7_cellMadeBy_72 : decode cX7_cellMadeBy 72 = .ok (.iload_n 3, 1) := by decide +kernel
theorem dX7_cellMadeBy_73 : decode cX7_cellMadeBy 73 = .ok (.ifCond .ne 18, 3) := by decide +kernel
theorem dX7_cellMadeBy_76 : decode cX7_cellMadeBy 76 = .ok (.aload_n 0, 1) := by decide +kernel
theorem dX7_cellMadeBy_77 : decode cX7_cellMadeBy 77 = .ok (.aload_n 0, 1) := by decide +kernel
theorem dX7_cellMadeBy_78 : decode cX7_cellMadeBy 78 = .ok (.getfield 30, 3) := by decide +kernel
theorem dX7_cellMadeBy_81 : decode cX7_cellMadeBy 81 = .ok (.iload_n 1, 1) := by decide +kernel
theorem dX7_cellMadeBy_82 : decode cX7_cellMadeBy 82 = .ok (.iaload, 1) := by decide +kernel
theorem dX7_cellMadeBy_83 : decode cX7_cellMadeBy 83 = .ok (.invokevirtual 51, 3) := by decide +kernel
theorem dX7_cellMadeBy_86 : decode cX7_cellMadeBy 86 = .ok (.ifCond .eq 5, 3) := by decide +kernel
theorem dX7_cellMadeBy_89 : decode cX7_cellMadeBy 89 = .ok (.iconst (-1), 1) := by decide +kernel
theorem dX7_cellMadeBy_90 : decode cX7_cellMadeBy 90 = .ok (.ireturn, 1) := by decide +kernel
theorem dX7_cellMadeBy_91 : decode cX7_cellMadeBy 91 = .ok (.aload_n 0, 1) := by decide +kernel
theorem dX7_cellMadeBy_92 : decode cX7_cellMadeBy 92 = .ok (.iload_n 1, 1) := by decide +kernel
theorem dX7_cellMadeBy_93 : decode cX7_cellMadeBy 93 = .ok (.iload_n 2, 1) := by decide +kernel
theorem dX7_cellMadeBy_94 : decode cX7_cellMadeBy 94 = .ok (.invokevirtual 54, 3) := by decide +kernel
theorem dX7_cellMadeBy_97 : decode cX7_cellMadeBy 97 = .ok (.istore 4, 2) := by decide +kernel
theorem dX7_cellMadeBy_99 : decode cX7_cellMadeBy 99 = .ok (.iload 4, 2) := by decide +kernel
theorem dX7_cellMadeBy_101 : decode cX7_cellMadeBy 101 = .ok (.iconst (-1), 1) := by decide +kernel
theorem dX7_cellMadeBy_102 : decode cX7_cellMadeBy 102 = .ok (.if_icmp .ne 7, 3) := by decide +kernel
theorem dX7_cellMadeBy_105 : decode cX7_cellMadeBy 105 = .ok (.iconst (-1), 1) := by decide +kernel
theorem dX7_cellMadeBy_106 : decode cX7_cellMadeBy 106 = .ok (.goto 19, 3) := by decide +kernel
theorem dX7_cellMadeBy_109 : decode cX7_cellMadeBy 109 = .ok (.aload_n 0, 1) := by decide +kernel
theorem dX7_cellMadeBy_110 : decode cX7_cellMadeBy 110 = .ok (.getfield 30, 3) := by decide +kernel
theorem dX7_cellMadeBy_113 : decode cX7_cellMadeBy 113 = .ok (.iload_n 1, 1) := by decide +kernel
theorem dX7_cellMadeBy_114 : decode cX7_cellMadeBy 114 = .ok (.iaload, 1) := by decide +kernel
theorem dX7_cellMadeBy_115 : decode cX7_cellMadeBy 115 = .ok (.bipush 97, 2) := by decide +kernel
theorem dX7_cellMadeBy_117 : decode cX7_cellMadeBy 117 = .ok (.isub, 1) := by decide +kernel
theorem dX7_cellMadeBy_118 : decode cX7_cellMadeBy 118 = .ok (.iconst 1, 1) := by decide +kernel
theorem dX7_cellMadeBy_119 : decode cX7_cellMadeBy 119 = .ok (.iadd, 1) := by decide +kernel
theorem dX7_cellMadeBy_120 : decode cX7_cellMadeBy 120 = .ok (.iconst 5, 1) := by decide +kernel
theorem dX7_cellMadeBy_121 : decode cX7_cellMadeBy 121 = .ok (.imul, 1) := by decide +kernel
theorem dX7_cellMadeBy_122 : decode cX7_cellMadeBy 122 = .ok (.iload 4, 2) := by decide +kernel
theorem dX7_cellMadeBy_124 : decode cX7_cellMadeBy 124 = .ok (.iadd, 1) := by decide +kernel
theorem dX7_cellMadeBy_125 : decode cX7_cellMadeBy 125 = .ok (.ireturn, 1) := by decide +kernel
noncomputable def f_X7_cellMadeBy_125  (s0 : Int32) (σ : jM) : Option (Int32 × jM) :=
  some (s0, σ)
noncomputable def f_X7_cellMadeBy_91  (l0 : Nat) (l1 : Int32) (l2 : Int32) (σ : jM) : Option (Int32 × jM) :=
  bd (f_X7_vowelFor l0 l1 l2 σ) (fun r7 σ8 => (if r7 = (-1) then f_X7_cellMadeBy_125  (-1) σ8 else gd (inb l1 8) (f_X7_cellMadeBy_125  (((((rI σ8 (rulX l0 + 7) (Int32.toNatClampNeg l1)) - 97) + 1) * 5) + r7) σ8)))
noncomputable def f_X7_cellMadeBy_71  (l0 : Nat) (l1 : Int32) (l2 : Int32) (s0 : Int32) (σ : jM) : Option (Int32 × jM) :=
  (if s0 = 0 then gd (inb l1 8) (bd (f_X7_drops l0 (rI σ (rulX l0 + 7) (Int32.toNatClampNeg l1)) σ) (fun r19 σ20 => (if r19 = 0 then f_X7_cellMadeBy_91  l0 l1 l2 σ20 else some ((-1), σ20)))) else f_X7_cellMadeBy_91  l0 l1 l2 σ)
noncomputable def f_X7_cellMadeBy_70  (l0 : Nat) (l1 : Int32) (l2 : Int32) (σ : jM) : Option (Int32 × jM) :=
  f_X7_cellMadeBy_71  l0 l1 l2 0 σ
noncomputable def f_X7_cellMadeBy_46  (s0 : Int32) (σ : jM) : Option (Int32 × jM) :=
  some (s0, σ)
noncomputable def f_X7_cellMadeBy_31  (l0 : Nat) (l1 : Int32) (s0 : Int32) (σ : jM) : Option (Int32 × jM) :=
  (if s0 = 0 then f_X7_cellMadeBy_46  (-1) σ else gd (inb l1 8) (f_X7_cellMadeBy_46  (rI σ (rulX l0 + 8) (Int32.toNatClampNeg l1)) σ))
noncomputable def f_X7_cellMadeBy_26  (l0 : Nat) (l1 : Int32) (σ : jM) : Option (Int32 × jM) :=
  f_X7_cellMadeBy_31  l0 l1 1 σ
noncomputable def f_X7_cellMadeBy (t0 : Nat) (a1 : Int32) (a2 : Int32) (σ : jM) : Option (Int32 × jM) :=
  gd (inb a1 8) ((if (rI σ (rulX t0 + 8) (Int32.toNatClampNeg a1)) = (-1) then (if a2 ≤ (a1 + 1) then f_X7_cellMadeBy_70  t0 a1 a2 σ else gd (inb (a1 + 1) 8) ((if (rI σ (rulX t0 + 8) (Int32.toNatClampNeg (a1 + 1))) = (-1) then f_X7_cellMadeBy_70  t0 a1 a2 σ else f_X7_cellMadeBy_71  t0 a1 a2 1 σ))) else (if a1 = 0 then f_X7_cellMadeBy_26  t0 a1 σ else gd (inb (a1 - 1) 8) ((if (rI σ (rulX t0 + 8) (Int32.toNatClampNeg (a1 - 1))) = (-1) then f_X7_cellMadeBy_31  t0 a1 0 σ else f_X7_cellMadeBy_26  t0 a1 σ)))))
set_option maxRecDepth 20000 in
set_option maxHeartbeats 4000000 in
theorem t_X7_cellMadeBy_125  (s0 : Int32) (σ : jM) (r : Int32 × jM)  (h : f_X7_cellMadeBy_125  s0 σ = some r) : J mi_X7_cellMadeBy 2 0 0 (jqI r) 125 [] [.int s0] (ms σ) := by
  unfold f_X7_cellMadeBy_125 at h
  exact J_ret (v := some (.int s0)) rfl ⟨dX7_cellMadeBy_125, Or.inl rfl⟩ (jqI_mk h)
set_option maxRecDepth 20000 in
set_option maxHeartbeats 4000000 in
theorem t_X7_cellMadeBy_91  (l0 : Nat) (l1 : Int32) (l2 : Int32) (σ : jM) (r : Int32 × jM)  (h : f_X7_cellMadeBy_91  l0 l1 l2 σ = some r) : J mi_X7_cellMadeBy 2 0 0 (jqI r) 91 [(0, .ref (rulX l0)), (1, .int l1), (2, .int l2)] [] (ms σ) := by
  unfold f_X7_cellMadeBy_91 at h
  refine J_aload_n 0 dX7_cellMadeBy_91 rfl ?_
  refine J_iload_n 1 dX7_cellMadeBy_92 rfl ?_
  refine J_iload_n 2 dX7_cellMadeBy_93 rfl ?_
  obtain ⟨r12, σ13, h14, h⟩ := bd_inv h
  refine M_callVI (d' := 1) (k := (rulX l0)) (As := [.int l1, .int l2]) (st := []) cv_X7_54 dX7_cellMadeBy_94 rfl (by decide) rfl (Nat.le_of_ble_eq_true rfl) (Nat.le_of_ble_eq_true rfl) (by decide) (nn_rul l0) (kk_rul l0) rfl rfl (t_X7_vowelFor  h14) ?_
  refine J_istore (i := 4) (ls' := [(4, .int r12), (0, .ref (rulX l0)), (1, .int l1), (2, .int l2)]) dX7_cellMadeBy_97 (by decide) rfl ?_
  refine J_iload 0 dX7_cellMadeBy_99 rfl ?_
  refine J_iconst (v := (-1)) dX7_cellMadeBy_101 (by decide) ?_
  refine J_icmp_ne (tgt := 109) dX7_cellMadeBy_102 (by decide) (fun c15 => ?_) (fun c15 => ?_)
  · have h := (if_neg c15).symm.trans h
    refine J_aload_n 1 dX7_cellMadeBy_109 rfl ?_
    refine M_getR gf_X7_30_6 dX7_cellMadeBy_110 (gg_rul8 _ l0) (kk_rul l0) (nn_rul l0) ?_
    refine J_iload_n 2 dX7_cellMadeBy_113 rfl ?_
    obtain ⟨g16, h⟩ := gd_inv h
    refine M_iald dX7_cellMadeBy_114 (aa_rul8 l0) (nna_rul8 l0) g16 ?_
    refine J_bipush (v := 97) dX7_cellMadeBy_115 (by decide) ?_
    refine J_isub dX7_cellMadeBy_117 ?_
    refine J_iconst (v := 1) dX7_cellMadeBy_118 (by decide) ?_
    refine J_iadd dX7_cellMadeBy_119 ?_
    refine J_iconst (v := 5) dX7_cellMadeBy_120 (by decide) ?_
    refine J_imul dX7_cellMadeBy_121 ?_
    refine J_iload 0 dX7_cellMadeBy_122 rfl ?_
    refine J_iadd dX7_cellMadeBy_124 ?_
    refine J_pick [] rfl ?_
    exact t_X7_cellMadeBy_125  _ _ _  h
  · have h := (if_pos c15).symm.trans h
    refine J_iconst (v := (-1)) dX7_cellMadeBy_105 (by decide) ?_
    refine J_goto (tgt := 125) dX7_cellMadeBy_106 (by decide) ?_
    refine J_pick [] rfl ?_
    exact t_X7_cellMadeBy_125  _ _ _  h
set_option maxRecDepth 20000 in
set_option maxHeartbeats 4000000 in
theorem t_X7_cellMadeBy_71  (l0 : Nat) (l1 : Int32) (l2 : Int32) (s0 : Int32) (σ : jM) (r : Int32 × jM)  (h : f_X7_cellMadeBy_71  l0 l1 l2 s0 σ = some r) : J mi_X7_cellMadeBy 2 0 0 (jqI r) 71 [(0, .ref (rulX l0)), (1, .int l1), (2, .int l2)] [.int s0] (ms σ) := by
  unfold f_X7_cellMadeBy_71 at h
  refine J_istore_n (i := 3) (ls' := [(3, .int s0), (0, .ref (rulX l0)), (1, .int l1), (2, .int l2)]) dX7_cellMadeBy_71 rfl (by decide) rfl ?_
  refine J_iload_n 0 dX7_cellMadeBy_72 rfl ?_
  refine J_if_ne (tgt := 91) dX7_cellMadeBy_73 (by decide) (fun c23 => ?_) (fun c23 => ?_)
  · have h := (if_neg c23).symm.trans h
    refine J_pick [1, 2, 3] rfl ?_
    exact t_X7_cellMadeBy_91  _ _ _ _ _  h
  · have h := (if_pos c23).symm.trans h
    refine J_aload_n 1 dX7_cellMadeBy_76 rfl ?_
    refine J_aload_n 1 dX7_cellMadeBy_77 rfl ?_
    refine M_getR gf_X7_30_6 dX7_cellMadeBy_78 (gg_rul8 _ l0) (kk_rul l0) (nn_rul l0) ?_
    refine J_iload_n 2 dX7_cellMadeBy_81 rfl ?_
    obtain ⟨g24, h⟩ := gd_inv h
    refine M_iald dX7_cellMadeBy_82 (aa_rul8 l0) (nna_rul8 l0) g24 ?_
    obtain ⟨r25, σ26, h27, h⟩ := bd_inv h
    refine M_callVI (d' := 1) (k := (rulX l0)) (As := [.int (rI σ (rulX l0 + 7) (Int32.toNatClampNeg l1))]) (st := []) cv_X7_51 dX7_cellMadeBy_83 rfl (by decide) rfl (Nat.le_of_ble_eq_true rfl) (Nat.le_of_ble_eq_true rfl) (by decide) (nn_rul l0) (kk_rul l0) rfl rfl (t_X7_drops  h27) ?_
    refine J_if_eq (tgt := 91) dX7_cellMadeBy_86 (by decide) (fun c28 => ?_) (fun c28 => ?_)
    · have h := (if_pos c28).symm.trans h
      refine J_pick [1, 2, 3] rfl ?_
      exact t_X7_cellMadeBy_91  _ _ _ _ _  h
    · have h := (if_neg c28).symm.trans h
      refine J_iconst (v := (-1)) dX7_cellMadeBy_89 (by decide) ?_
      exact J_ret (v := some (.int (-1))) rfl ⟨dX7_cellMadeBy_90, Or.inl rfl⟩ (jqI_mk h)
set_option maxRecDepth 20000 in
set_option maxHeartbeats 4000000 in
theorem t_X7_cellMadeBy_70  (l0 : Nat) (l1 : Int32) (l2 : Int32) (σ : jM) (r : Int32 × jM)  (h : f_X7_cellMadeBy_70  l0 l1 l2 σ = some r) : J mi_X7_cellMadeBy 2 0 0 (jqI r) 70 [(0, .ref (rulX l0)), (1, .int l1), (2, .int l2)] [] (ms σ) := by
  unfold f_X7_cellMadeBy_70 at h
  refine J_iconst (v := 0) dX7_cellMadeBy_70 (by decide) ?_
  exact t_X7_cellMadeBy_71  _ _ _ _ _ _  h
set_option maxRecDepth 20000 in
set_option maxHeartbeats 4000000 in
theorem t_X7_cellMadeBy_46  (s0 : Int32) (σ : jM) (r : Int32 × jM)  (h : f_X7_cellMadeBy_46  s0 σ = some r) : J mi_X7_cellMadeBy 2 0 0 (jqI r) 46 [] [.int s0] (ms σ) := by
  unfold f_X7_cellMadeBy_46 at h
  exact J_ret (v := some (.int s0)) rfl ⟨dX7_cellMadeBy_46, Or.inl rfl⟩ (jqI_mk h)
set_option maxRecDepth 20000 in
set_option maxHeartbeats 4000000 in
theorem t_X7_cellMadeBy_31  (l0 : Nat) (l1 : Int32) (s0 : Int32) (σ : jM) (r : Int32 × jM)  (h : f_X7_cellMadeBy_31  l0 l1 s0 σ = some r) : J mi_X7_cellMadeBy 2 0 0 (jqI r) 31 [(0, .ref (rulX l0)), (1, .int l1)] [.int s0] (ms σ) := by
  unfold f_X7_cellMadeBy_31 at h
  refine J_istore_n (i := 3) (ls' := [(3, .int s0), (0, .ref (rulX l0)), (1, .int l1)]) dX7_cellMadeBy_31 rfl (by decide) rfl ?_
  refine J_iload_n 0 dX7_cellMadeBy_32 rfl ?_
  refine J_if_eq (tgt := 45) dX7_cellMadeBy_33 (by decide) (fun c31 => ?_) (fun c31 => ?_)
  · have h := (if_pos c31).symm.trans h
    refine J_iconst (v := (-1)) dX7_cellMadeBy_45 (by decide) ?_
    refine J_pick [] rfl ?_
    exact t_X7_cellMadeBy_46  _ _ _  h
  · have h := (if_neg c31).symm.trans h
    refine J_aload_n 1 dX7_cellMadeBy_36 rfl ?_
    refine M_getR gf_X7_33_6 dX7_cellMadeBy_37 (gg_rul9 _ l0) (kk_rul l0) (nn_rul l0) ?_
    refine J_iload_n 2 dX7_cellMadeBy_40 rfl ?_
    obtain ⟨g32, h⟩ := gd_inv h
    refine M_iald dX7_cellMadeBy_41 (aa_rul9 l0) (nna_rul9 l0) g32 ?_
    refine J_goto (tgt := 46) dX7_cellMadeBy_42 (by decide) ?_
    refine J_pick [] rfl ?_
    exact t_X7_cellMadeBy_46  _ _ _  h
set_option maxRecDepth 20000 in
set_option maxHeartbeats 4000000 in
theorem t_X7_cellMadeBy_26  (l0 : Nat) (l1 : Int32) (σ : jM) (r : Int32 × jM)  (h : f_X7_cellMadeBy_26  l0 l1 σ = some r) : J mi_X7_cellMadeBy 2 0 0 (jqI r) 26 [(0, .ref (rulX l0)), (1, .int l1)] [] (ms σ) := by
  unfold f_X7_cellMadeBy_26 at h
  refine J_iconst (v := 1) dX7_cellMadeBy_26 (by decide) ?_
  refine J_goto (tgt := 31) dX7_cellMadeBy_27 (by decide) ?_
  exact t_X7_cellMadeBy_31  _ _ _ _ _  h
set_option maxRecDepth 20000 in
set_option maxHeartbeats 4000000 in
theorem t_X7_cellMadeBy {t0 : Nat} {a1 : Int32} {a2 : Int32} {σ : jM} {r : Int32 × jM}  (h : f_X7_cellMadeBy t0 a1 a2 σ = some r) : J mi_X7_cellMadeBy 2 0 0 (jqI r) 0 [(0, .ref (rulX t0)), (1, .int a1), (2, .int a2)] [] (ms σ) := by
  unfold f_X7_cellMadeBy at h
  refine J_aload_n 0 dX7_cellMadeBy_0 rfl ?_
  refine M_getR gf_X7_33_6 dX7_cellMadeBy_1 (gg_rul9 _ t0) (kk_rul t0) (nn_rul t0) ?_
  refine J_iload_n 1 dX7_cellMadeBy_4 rfl ?_
  obtain ⟨g33, h⟩ := gd_inv h
  refine M_iald dX7_cellMadeBy_5 (aa_rul9 t0) (nna_rul9 t0) g33 ?_
  refine J_iconst (v := (-1)) dX7_cellMadeBy_6 (by decide) ?_
  refine J_icmp_eq (tgt := 47) dX7_cellMadeBy_7 (by decide) (fun c34 => ?_) (fun c34 => ?_)
  · have h := (if_pos c34).symm.trans h
    refine J_iload_n 1 dX7_cellMadeBy_47 rfl ?_
    refine J_iconst (v := 1) dX7_cellMadeBy_48 (by decide) ?_
    refine J_iadd dX7_cellMadeBy_49 ?_
    refine J_iload_n 2 dX7_cellMadeBy_50 rfl ?_
    refine J_icmp_ge (tgt := 70) dX7_cellMadeBy_51 (by decide) (fun c35 => ?_) (fun c35 => ?_)
    · have h := (if_pos c35).symm.trans h
      exact t_X7_cellMadeBy_70  _ _ _ _ _  h
    · have h := (if_neg c35).symm.trans h
      refine J_aload_n 0 dX7_cellMadeBy_54 rfl ?_
      refine M_getR gf_X7_33_6 dX7_cellMadeBy_55 (gg_rul9 _ t0) (kk_rul t0) (nn_rul t0) ?_
      refine J_iload_n 1 dX7_cellMadeBy_58 rfl ?_
      refine J_iconst (v := 1) dX7_cellMadeBy_59 (by decide) ?_
      refine J_iadd dX7_cellMadeBy_60 ?_
      obtain ⟨g36, h⟩ := gd_inv h
      refine M_iald dX7_cellMadeBy_61 (aa_rul9 t0) (nna_rul9 t0) g36 ?_
      refine J_iconst (v := (-1)) dX7_cellMadeBy_62 (by decide) ?_
      refine J_icmp_eq (tgt := 70) dX7_cellMadeBy_63 (by decide) (fun c37 => ?_) (fun c37 => ?_)
      · have h := (if_pos c37).symm.trans h
        exact t_X7_cellMadeBy_70  _ _ _ _ _  h
      · have h := (if_neg c37).symm.trans h
        refine J_iconst (v := 1) dX7_cellMadeBy_66 (by decide) ?_
        refine J_goto (tgt := 71) dX7_cellMadeBy_67 (by decide) ?_
        exact t_X7_cellMadeBy_71  _ _ _ _ _ _  h
  · have h := (if_neg c34).symm.trans h
    refine J_iload_n 1 dX7_cellMadeBy_10 rfl ?_
    refine J_if_eq (tgt := 26) dX7_cellMadeBy_11 (by decide) (fun c38 => ?_) (fun c38 => ?_)
    · have h := (if_pos c38).symm.trans h
      refine J_pick [0, 1] rfl ?_
      exact t_X7_cellMadeBy_26  _ _ _ _  h
    · have h := (if_neg c38).symm.trans h
      refine J_aload_n 0 dX7_cellMadeBy_14 rfl ?_
      refine M_getR gf_X7_33_6 dX7_cellMadeBy_15 (gg_rul9 _ t0) (kk_rul t0) (nn_rul t0) ?_
      refine J_iload_n 1 dX7_cellMadeBy_18 rfl ?_
      refine J_iconst (v := 1) dX7_cellMadeBy_19 (by decide) ?_
      refine J_isub dX7_cellMadeBy_20 ?_
      obtain ⟨g39, h⟩ := gd_inv h
      refine M_iald dX7_cellMadeBy_21 (aa_rul9 t0) (nna_rul9 t0) g39 ?_
      refine J_iconst (v := (-1)) dX7_cellMadeBy_22 (by decide) ?_
      refine J_icmp_eq (tgt := 30) dX7_cellMadeBy_23 (by decide) (fun c40 => ?_) (fun c40 => ?_)
      · have h := (if_pos c40).symm.trans h
        refine J_iconst (v := 0) dX7_cellMadeBy_30 (by decide) ?_
        refine J_pick [0, 1] rfl ?_
        exact t_X7_cellMadeBy_31  _ _ _ _ _  h
      · have h := (if_neg c40).symm.trans h
        refine J_pick [0, 1] rfl ?_
        exact t_X7_cellMadeBy_26  _ _ _ _  h
theorem dX8_clearCells_0 : decode cX8_clearCells 0 = .ok (.aload_n 0, 1) := by decide +kernel
theorem dX8_clearCells_1 : decode cX8_clearCells 1 = .ok (.getfield 32, 3) := by decide +kernel
theorem dX8_clearCells_4 : decode cX8_clearCells 4 = .ok (.iconst (-1), 1) := by decide +kernel
theorem dX8_clearCells_5 : decode cX8_clearCells 5 = .ok (.invokestatic 101, 3) := by decide +kernel
theorem dX8_clearCells_8 : decode cX8_clearCells 8 = .ok (.aload_n 0, 1) := by decide +kernel
theorem dX8_clearCells_9 : decode cX8_clearCells 9 = .ok (.getfield 15, 3) := by decide +kernel
theorem dX8_clearCells_12 : decode cX8_clearCells 12 = .ok (.iconst (-1), 1) := by decide +kernel
theorem dX8_clearCells_13 : decode cX8_clearCells 13 = .ok (.invokestatic 101, 3) := by decide +kernel
theorem dX8_clearCells_16 : decode cX8_clearCells 16 = .ok (.aload_n 0, 1) := by decide +kernel
theorem dX8_clearCells_17 : decode cX8_clearCells 17 = .ok (.getfield 41, 3) := by decide +kernel
theorem dX8_clearCells_20 : decode cX8_clearCells 20 = .ok (.lconst 0, 1) := by decide +kernel
theorem dX8_clearCells_21 : decode cX8_clearCells 21 = .ok (.invokestatic 152, 3) := by decide +kernel
theorem dX8_clearCells_24 : decode cX8_clearCells 24 = .ok (.aload_n 0, 1) := by decide +kernel
theorem dX8_clearCells_25 : decode cX8_clearCells 25 = .ok (.getfield 45, 3) := by decide +kernel
theorem dX8_clearCells_28 : decode cX8_clearCells 28 = .ok (.lconst 0, 1) := by decide +kernel
theorem dX8_clearCells_29 : decode cX8_clearCells 29 = .ok (.invokestatic 152, 3) := by decide +kernel
theorem dX8_clearCells_32 : decode cX8_clearCells 32 = .ok (.aload_n 0, 1) := by decide +kernel
theorem dX8_clearCells_33 : decode cX8_clearCells 33 = .ok (.lconst 0, 1) := by decide +kernel
theorem dX8_clearCells_34 : decode cX8_clearCells 34 = .ok (.putfield 155, 3) := by decide +kernel
theorem dX8_clearCells_37 : decode cX8_clearCells 37 = .ok (.aload_n 0, 1) := by decide +kernel
theorem dX8_clearCells_38 : decode cX8_clearCells 38 = .ok (.iconst 0, 1) := by decide +kernel
theorem dX8_clearCells_39 : decode cX8_clearCells 39 = .ok (.putfield 119, 3) := by decide +kernel
theorem dX8_clearCells_42 : decode cX8_clearCells 42 = .ok (.return_, 1) := by decide +kernel
noncomputable def f_X8_clearCells  (σ : jM) : Option (Unit × jM) :=
  bd (f_J7_fill_53178 310 (-1) σ) (fun _ σ2 => bd (f_J7_fill_53178 298 (-1) σ2) (fun _ σ5 => bd (f_J7_fill_d0a16 320 0 σ5) (fun _ σ8 => bd (f_J7_fill_d0a16 321 0 σ8) (fun _ σ11 => some ((), wI (wL σ11 296 13 0) 296 16 0)))))
set_option maxRecDepth 20000 in
set_option maxHeartbeats 4000000 in
theorem t_X8_clearCells  {σ : jM} {r : Unit × jM}  (h : f_X8_clearCells  σ = some r) : J mi_X8_clearCells 2 0 0 (jqV r) 0 [(0, .ref 296)] [] (ms σ) := by
  unfold f_X8_clearCells at h
  refine J_aload_n 0 dX8_clearCells_0 rfl ?_
  refine M_getR gf_X8_32_7 dX8_clearCells_1 (g_296_10 _) k_296 n_296 ?_
  refine J_iconst (v := (-1)) dX8_clearCells_4 (by decide) ?_
  obtain ⟨_, σ2, h3, h⟩ := bd_inv h
  refine M_callSV (d' := 1) (As := [.ref 310, .int (-1)]) (st := []) cs_X8_101 dX8_clearCells_5 rfl (Nat.le_of_ble_eq_true rfl) (Nat.le_of_ble_eq_true rfl) (by decide) rfl rfl (t_J7_fill_53178 ⟨congrArg Prod.fst a_310, n_310⟩ h3) ?_
  refine J_aload_n 0 dX8_clearCells_8 rfl ?_
  refine M_getR gf_X8_15_7 dX8_clearCells_9 (g_296_2 _) k_296 n_296 ?_
  refine J_iconst (v := (-1)) dX8_clearCells_12 (by decide) ?_
  obtain ⟨_, σ5, h6, h⟩ := bd_inv h
  refine M_callSV (d' := 1) (As := [.ref 298, .int (-1)]) (st := []) cs_X8_101 dX8_clearCells_13 rfl (Nat.le_of_ble_eq_true rfl) (Nat.le_of_ble_eq_true rfl) (by decide) rfl rfl (t_J7_fill_53178 ⟨congrArg Prod.fst a_298, n_298⟩ h6) ?_
  refine J_aload_n 0 dX8_clearCells_16 rfl ?_
  refine M_getR gf_X8_41_7 dX8_clearCells_17 (g_296_14 _) k_296 n_296 ?_
  refine J_lconst (v := 0) dX8_clearCells_20 (by decide) ?_
  obtain ⟨_, σ8, h9, h⟩ := bd_inv h
  refine M_callSV (d' := 1) (As := [.ref 320, .long 0]) (st := []) cs_X8_152 dX8_clearCells_21 rfl (Nat.le_of_ble_eq_true rfl) (Nat.le_of_ble_eq_true rfl) (by decide) rfl rfl (t_J7_fill_d0a16 ⟨congrArg Prod.fst a_320, n_320⟩ h9) ?_
  refine J_aload_n 0 dX8_clearCells_24 rfl ?_
  refine M_getR gf_X8_45_7 dX8_clearCells_25 (g_296_15 _) k_296 n_296 ?_
  refine J_lconst (v := 0) dX8_clearCells_28 (by decide) ?_
  obtain ⟨_, σ11, h12, h⟩ := bd_inv h
  refine M_callSV (d' := 1) (As := [.ref 321, .long 0]) (st := []) cs_X8_152 dX8_clearCells_29 rfl (Nat.le_of_ble_eq_true rfl) (Nat.le_of_ble_eq_true rfl) (by decide) rfl rfl (t_J7_fill_d0a16 ⟨congrArg Prod.fst a_321, n_321⟩ h12) ?_
  refine J_aload_n 0 dX8_clearCells_32 rfl ?_
  refine J_lconst (v := 0) dX8_clearCells_33 (by decide) ?_
  refine M_putL pf_X8_155_7 dX8_clearCells_34 k_296 n_296 ?_
  refine J_aload_n 0 dX8_clearCells_37 rfl ?_
  refine J_iconst (v := 0) dX8_clearCells_38 (by decide) ?_
  refine M_putI pf_X8_119_7 dX8_clearCells_39 k_296 n_296 ⟨rfl, rfl⟩ ?_
  exact J_ret (v := none) rfl ⟨dX8_clearCells_42, rfl⟩ (jqV_mk h)
theorem dX8_lift_0 : decode cX8_lift 0 = .ok (.aload_n 0, 1) := by decide +kernel
theorem dX8_lift_1 : decode cX8_lift 1 = .ok (.getfield 32, 3) := by decide +kernel
theorem dX8_lift_4 : decode cX8_lift 4 = .ok (.iload_n 1, 1) := by decide +kernel
theorem dX8_lift_5 : decode cX8_lift 5 = .ok (.iconst (-1), 1) := by decide +kernel
theorem dX8_lift_6 : decode cX8_lift 6 = .ok (.iastore, 1) := by decide +kernel
theorem dX8_lift_7 : decode cX8_lift 7 = .ok (.iconst 0, 1) := by decide +kernel
theorem dX8_lift_8 : decode cX8_lift 8 = .ok (.istore_n 2, 1) := by decide +kernel
theorem dX8_lift_9 : decode cX8_lift 9 = .ok (.iload_n 2, 1) := by decide +kernel
theorem dX8_lift_10 : decode cX8_lift 10 = .ok (.aload_n 0, 1) := by decide +kernel
theorem dX8_lift_11 : decode cX8_lift 11 = .ok (.getfield 38, 3) := by decide +kernel
theorem dX8_lift_14 : decode cX8_lift 14 = .ok (.iload_n 1, 1) := by decide +kernel
theorem dX8_lift_15 : decode cX8_lift 15 = .ok (.iaload, 1) := by decide +kernel
theorem dX8_lift_16 : decode cX8_lift 16 = .ok (.if_icmp .ge 21, 3) := by decide +kernel
theorem dX8_lift_19 : decode cX8_lift 19 = .ok (.aload_n 0, 1) := by decide +kernel
theorem dX8_lift_20 : decode cX8_lift 20 = .ok (.aload_n 0, 1) := by decide +kernel
theorem dX8_lift_21 : decode cX8_lift 21 = .ok (.getfield 35, 3) := by decide +kernel
theorem dX8_lift_24 : decode cX8_lift 24 = .ok (.iload_n 1, 1) := by decide +kernel
theorem dX8_lift_25 : decode cX8_lift 25 = .ok (.aaload, 1) := by decide +kernel
theorem dX8_lift_26 : decode cX8_lift 26 = .ok (.iload_n 2, 1) := by decide +kernel
theorem dX8_lift_27 : decode cX8_lift 27 = .ok (.iaload, 1) := by decide +kernel
theorem dX8_lift_28 : decode cX8_lift 28 = .ok (.invokevirtual 190, 3) := by decide +kernel
theorem dX8_lift_31 : decode cX8_lift 31 = .ok (.iinc 2 1, 3) := by decide +kernel
theorem dX8_lift_34 : decode cX8_lift 34 = .ok (.goto (-25), 3) := by decide +kernel
theorem dX8_lift_37 : decode cX8_lift 37 = .ok (.aload_n 0, 1) := by decide +kernel
theorem dX8_lift_38 : decode cX8_lift 38 = .ok (.getfield 38, 3) := by decide +kernel
theorem dX8_lift_41 : decode cX8_lift 41 = .ok (.iload_n 1, 1) := by decide +kernel
theorem dX8_lift_42 : decode cX8_lift 42 = .ok (.iconst 0, 1) := by decide +kernel
theorem dX8_lift_43 : decode cX8_lift 43 = .ok (.iastore, 1) := by decide +kernel
theorem dX8_lift_44 : decode cX8_lift 44 = .ok (.return_, 1) := by decide +kernel
noncomputable def s_X8_lift_9  (rec9 : Int32 → Int32 → jM → Option (Unit × jM)) (l1 : Int32) (l2 : Int32) (σ : jM) : Option (Unit × jM) :=
  gd (inb l1 7) ((if (rI σ 319 (Int32.toNatClampNeg l1)) ≤ l2 then gd (inb l1 7) (some ((), wI σ 319 (Int32.toNatClampNeg l1) 0)) else gd (inb l1 7) (gd (inb l2 6) (bd (f_X8_takeBack (rI σ (312 + (Int32.toNatClampNeg l1)) (Int32.toNatClampNeg l2)) σ) (fun _ σ12 => rec9 l1 (l2 + 1) σ12)))))
noncomputable def f_X8_lift_9  (n : Nat) : Int32 → Int32 → jM → Option (Unit × jM) := Nat.rec (motive := fun _ => Int32 → Int32 → jM → Option (Unit × jM)) (fun _ _ _ => none) (fun _ q => s_X8_lift_9  q) n
noncomputable def f_X8_lift (a1 : Int32) (σ : jM) : Option (Unit × jM) :=
  gd (inb a1 7) (f_X8_lift_9  Fu a1 0 (wI σ 310 (Int32.toNatClampNeg a1) (-1)))
set_option maxRecDepth 20000 in
set_option maxHeartbeats 4000000 in
theorem t_X8_lift_9  : ∀ (n : Nat) (l1 : Int32) (l2 : Int32) (σ : jM) (r : Unit × jM), f_X8_lift_9  n l1 l2 σ = some r → J mi_X8_lift 2 0 0 (jqV r) 9 [(0, .ref 296), (1, .int l1), (2, .int l2)] [] (ms σ) := by
  intro n
  induction n with
  | zero =>
    intro l1 l2 σ r  h
    have h : (none : Option (Unit × jM)) = some r := h
    cases h
  | succ n ih =>
    intro l1 l2 σ r  h
    have h : s_X8_lift_9  (f_X8_lift_9  n) l1 l2 σ = some r := h
    unfold s_X8_lift_9 at h
    refine J_iload_n 2 dX8_lift_9 rfl ?_
    refine J_aload_n 0 dX8_lift_10 rfl ?_
    refine M_getR gf_X8_38_7 dX8_lift_11 (g_296_12 _) k_296 n_296 ?_
    refine J_iload_n 1 dX8_lift_14 rfl ?_
    obtain ⟨g14, h⟩ := gd_inv h
    refine M_iald dX8_lift_15 a_319 n_319 g14 ?_
    refine J_icmp_ge (tgt := 37) dX8_lift_16 (by decide) (fun c15 => ?_) (fun c15 => ?_)
    · have h := (if_pos c15).symm.trans h
      refine J_aload_n 0 dX8_lift_37 rfl ?_
      refine M_getR gf_X8_38_7 dX8_lift_38 (g_296_12 _) k_296 n_296 ?_
      refine J_iload_n 1 dX8_lift_41 rfl ?_
      refine J_iconst (v := 0) dX8_lift_42 (by decide) ?_
      obtain ⟨g16, h⟩ := gd_inv h
      refine M_iast dX8_lift_43 a_319 n_319 g16 ?_
      exact J_ret (v := none) rfl ⟨dX8_lift_44, rfl⟩ (jqV_mk h)
    · have h := (if_neg c15).symm.trans h
      refine J_aload_n 0 dX8_lift_19 rfl ?_
      refine J_aload_n 0 dX8_lift_20 rfl ?_
      refine M_getR gf_X8_35_7 dX8_lift_21 (g_296_11 _) k_296 n_296 ?_
      refine J_iload_n 1 dX8_lift_24 rfl ?_
      obtain ⟨g17, h⟩ := gd_inv h
      refine M_aald dX8_lift_25 a_311 (by decide) n_311 g17 (r_row311 _ g17.2) ?_
      refine J_iload_n 2 dX8_lift_26 rfl ?_
      obtain ⟨g18, h⟩ := gd_inv h
      refine M_iald dX8_lift_27 (a_row311 g17.2) (na_row311 g17.2) g18 ?_
      obtain ⟨_, σ20, h21, h⟩ := bd_inv h
      refine M_callVV (d' := 1) (k := 296) (As := [.int (rI σ (312 + (Int32.toNatClampNeg l1)) (Int32.toNatClampNeg l2))]) (st := []) cv_X8_190 dX8_lift_28 rfl (by decide) rfl (Nat.le_of_ble_eq_true rfl) (Nat.le_of_ble_eq_true rfl) (by decide) n_296 k_296 rfl rfl (t_X8_takeBack  h21) ?_
      refine J_iinc (v := (l2 + 1)) (ls' := [(2, .int (l2 + 1)), (0, .ref 296), (1, .int l1)]) 2 dX8_lift_31 rfl rfl (by decide) rfl ?_
      refine J_goto (tgt := 9) dX8_lift_34 (by decide) ?_
      refine J_pick [1, 2, 0] rfl ?_
      exact ih _ _ _ _  h
set_option maxRecDepth 20000 in
set_option maxHeartbeats 4000000 in
theorem t_X8_lift {a1 : Int32} {σ : jM} {r : Unit × jM}  (h : f_X8_lift a1 σ = some r) : J mi_X8_lift 2 0 0 (jqV r) 0 [(0, .ref 296), (1, .int a1)] [] (ms σ) := by
  unfold f_X8_lift at h
  refine J_aload_n 0 dX8_lift_0 rfl ?_
  refine M_getR gf_X8_32_7 dX8_lift_1 (g_296_10 _) k_296 n_296 ?_
  refine J_iload_n 1 dX8_lift_4 rfl ?_
  refine J_iconst (v := (-1)) dX8_lift_5 (by decide) ?_
  obtain ⟨g22, h⟩ := gd_inv h
  refine M_iast dX8_lift_6 a_310 n_310 g22 ?_
  refine J_iconst (v := 0) dX8_lift_7 (by decide) ?_
  refine J_istore_n (i := 2) (ls' := [(2, .int 0), (0, .ref 296), (1, .int a1)]) dX8_lift_8 rfl (by decide) rfl ?_
  refine J_pick [1, 2, 0] rfl ?_
  exact t_X8_lift_9  _ _ _ _ _  h
theorem dX8_agrees_0 : decode cX8_agrees 0 = .ok (.aload_n 0, 1) := by decide +kernel
theorem dX8_agrees_1 : decode cX8_agrees 1 = .ok (.getfield 15, 3) := by decide +kernel
theorem dX8_agrees_4 : decode cX8_agrees 4 = .ok (.iload_n 1, 1) := by decide +kernel
theorem dX8_agrees_5 : decode cX8_agrees 5 = .ok (.iaload, 1) := by decide +kernel
theorem dX8_agrees_6 : decode cX8_agrees 6 = .ok (.iconst (-1), 1) := by decide +kernel
theorem dX8_agrees_7 : decode cX8_agrees 7 = .ok (.if_icmp .eq 19, 3) := by decide +kernel
theorem dX8_agrees_10 : decode cX8_agrees 10 = .ok (.aload_n 0, 1) := by decide +kernel
theorem dX8_agrees_11 : decode cX8_agrees 11 = .ok (.getfield 15, 3) := by decide +kernel
theorem dX8_agrees_14 : decode cX8_agrees 14 = .ok (.iload_n 1, 1) := by decide +kernel
theorem dX8_agrees_15 : decode cX8_agrees 15 = .ok (.iaload, 1) := by decide +kernel
theorem dX8_agrees_16 : decode cX8_agrees 16 = .ok (.iload_n 2, 1) := by decide +kernel
theorem dX8_agrees_17 : decode cX8_agrees 17 = .ok (.if_icmp .ne 7, 3) := by decide +kernel
theorem dX8_agrees_20 : decode cX8_agrees 20 = .ok (.iconst 1, 1) := by decide +kernel
theorem dX8_agrees_21 : decode cX8_agrees 21 = .ok (.goto 4, 3) := by decide +kernel
theorem dX8_agrees_24 : decode cX8_agrees 24 = .ok (.iconst 0, 1) := by decide +kernel
theorem dX8_agrees_25 : decode cX8_agrees 25 = .ok (.ireturn, 1) := by decide +kernel
theorem dX8_agrees_26 : decode cX8_agrees 26 = .ok (.aload_n 0, 1) := by decide +kernel
theorem dX8_agrees_27 : decode cX8_agrees 27 = .ok (.getfield 41, 3) := by decide +kernel
theorem dX8_agrees_30 : decode cX8_agrees 30 = .ok (.iload_n 2, 1) := by decide +kernel
theorem dX8_agrees_31 : decode cX8_agrees 31 = .ok (.iconst 5, 1) := by decide +kernel
theorem dX8_agrees_32 : decode cX8_agrees 32 = .ok (.idiv, 1) := by decide +kernel
theorem dX8_agrees_33 : decode cX8_agrees 33 = .ok (.laload, 1) := by decide +kernel
theorem dX8_agrees_34 : decode cX8_agrees 34 = .ok (.lstore_n 3, 1) := by decide +kernel
theorem dX8_agrees_35 : decode cX8_agrees 35 = .ok (.aload_n 0, 1) := by decide +kernel
theorem dX8_agrees_36 : decode cX8_agrees 36 = .ok (.getfield 45, 3) := by decide +kernel
theorem dX8_agrees_39 : decode cX8_agrees 39 = .ok (.iload_n 2, 1) := by decide +kernel
theorem dX8_agrees_40 : decode cX8_agrees 40 = .ok (.iconst 5, 1) := by decide +kernel
theorem dX8_agrees_41 : decode cX8_agrees 41 = .ok (.irem, 1) := by decide +kernel
theorem dX8_agrees_42 : decode cX8_agrees 42 = .ok (.laload, 1) := by decide +kernel
theorem dX8_agrees_43 : decode cX8_agrees 43 = .ok (.lstore 5, 2) := by decide +kernel
theorem dX8_agrees_45 : decode cX8_agrees 45 = .ok (.lload_n 3, 1) := by decide +kernel
theorem dX8_agrees_46 : decode cX8_agrees 46 = .ok (.lload 5, 2) := by decide +kernel
theorem dX8_agrees_48 : decode cX8_agrees 48 = .ok (.land, 1) := by decide +kernel
theorem dX8_agrees_49 : decode cX8_agrees 49 = .ok (.lconst 0, 1) := by decide +kernel
theorem dX8_agrees_50 : decode cX8_agrees 50 = .ok (.lcmp, 1) := by decide +kernel
theorem dX8_agrees_51 : decode cX8_agrees 51 = .ok (.ifCond .ne 28, 3) := by decide +kernel
theorem dX8_agrees_54 : decode cX8_agrees 54 = .ok (.aload_n 0, 1) := by decide +kernel
theorem dX8_agrees_55 : decode cX8_agrees 55 = .ok (.iconst 0, 1) := by decide +kernel
theorem dX8_agrees_56 : decode cX8_agrees 56 = .ok (.iload_n 1, 1) := by decide +kernel
theorem dX8_agrees_57 : decode cX8_agrees 57 = .ok (.lload_n 3, 1) := by decide +kernel
theorem dX8_agrees_58 : decode cX8_agrees 58 = .ok (.invokevirtual 193, 3) := by decide +kernel
theorem dX8_agrees_61 : decode cX8_agrees 61 = .ok (.ifCond .eq 18, 3) := by decide +kernel
theorem dX8_agrees_64 : decode cX8_agrees 64 = .ok (.aload_n 0, 1) := by decide +kernel
theorem dX8_agrees_65 : decode cX8_agrees 65 = .ok (.iconst 1, 1) := by decide +kernel
theorem dX8_agrees_66 : decode cX8_agrees 66 = .ok (.iload_n 1, 1) := by decide +kernel
theorem dX8_agrees_67 : decode cX8_agrees 67 = .ok (.lload 5, 2) := by decide +kernel
theorem dX8_agrees_69 : decode cX8_agrees 69 = .ok (.invokevirtual 193, 3) := by decide +kernel
theorem dX8_agrees_72 : decode cX8_agrees 72 = .ok (.ifCond .eq 7, 3) := by decide +kernel
theorem dX8_agrees_75 : decode cX8_agrees 75 = .ok (.iconst 1, 1) := by decide +kernel
theorem dX8_agrees_76 : decode cX8_agrees 76 = .ok (.goto 4, 3) := by decide +kernel
theorem dX8_agrees_79 : decode cX8_agrees 79 = .ok (.iconst 0, 1) := by decide +kernel
theorem dX8_agrees_80 : decode cX8_agrees 80 = .ok (.ireturn, 1) := by decide +kernel
noncomputable def f_X8_agrees_80  (s0 : Int32) (σ : jM) : Option (Int32 × jM) :=
  gd (s0 = 0 ∨ s0 = 1) (some (s0, σ))
noncomputable def f_X8_agrees_79   (σ : jM) : Option (Int32 × jM) :=
  f_X8_agrees_80  0 σ
noncomputable def f_X8_agrees_25  (s0 : Int32) (σ : jM) : Option (Int32 × jM) :=
  gd (s0 = 0 ∨ s0 = 1) (some (s0, σ))
noncomputable def f_X8_agrees (a1 : Int32) (a2 : Int32) (σ : jM) : Option (Int32 × jM) :=
  gd (inb a1 40) ((if (rI σ 298 (Int32.toNatClampNeg a1)) = (-1) then gd (inb (a2 / 5) 27) (gd (inb (a2 - a2 / 5 * 5) 5) ((if (lg_cmp ((rL σ 320 (Int32.toNatClampNeg (a2 / 5))) &&& (rL σ 321 (Int32.toNatClampNeg (a2 - a2 / 5 * 5)))) 0) = 0 then bd (f_X8_agreesBy 0 a1 (rL σ 320 (Int32.toNatClampNeg (a2 / 5))) σ) (fun r14 σ15 => (if r14 = 0 then f_X8_agrees_79   σ15 else bd (f_X8_agreesBy 1 a1 (rL σ 321 (Int32.toNatClampNeg (a2 - a2 / 5 * 5))) σ15) (fun r18 σ19 => (if r18 = 0 then f_X8_agrees_79   σ19 else f_X8_agrees_80  1 σ19)))) else f_X8_agrees_79   σ))) else gd (inb a1 40) ((if (rI σ 298 (Int32.toNatClampNeg a1)) = a2 then f_X8_agrees_25  1 σ else f_X8_agrees_25  0 σ))))
set_option maxRecDepth 20000 in
set_option maxHeartbeats 4000000 in
theorem t_X8_agrees_80  (s0 : Int32) (σ : jM) (r : Int32 × jM)  (h : f_X8_agrees_80  s0 σ = some r) : J mi_X8_agrees 2 0 0 (jqI r) 80 [] [.int s0] (ms σ) := by
  unfold f_X8_agrees_80 at h
  obtain ⟨g6, h⟩ := gd_inv h
  exact J_ret (v := some (.int s0)) rfl ⟨dX8_agrees_80, Or.inr (Or.inl ⟨rfl, g6⟩)⟩ (jqI_mk h)
set_option maxRecDepth 20000 in
set_option maxHeartbeats 4000000 in
theorem t_X8_agrees_79   (σ : jM) (r : Int32 × jM)  (h : f_X8_agrees_79   σ = some r) : J mi_X8_agrees 2 0 0 (jqI r) 79 [] [] (ms σ) := by
  unfold f_X8_agrees_79 at h
  refine J_iconst (v := 0) dX8_agrees_79 (by decide) ?_
  exact t_X8_agrees_80  _ _ _  h
set_option maxRecDepth 20000 in
set_option maxHeartbeats 4000000 in
theorem t_X8_agrees_25  (s0 : Int32) (σ : jM) (r : Int32 × jM)  (h : f_X8_agrees_25  s0 σ = some r) : J mi_X8_agrees 2 0 0 (jqI r) 25 [] [.int s0] (ms σ) := by
  unfold f_X8_agrees_25 at h
  obtain ⟨g8, h⟩ := gd_inv h
  exact J_ret (v := some (.int s0)) rfl ⟨dX8_agrees_25, Or.inr (Or.inl ⟨rfl, g8⟩)⟩ (jqI_mk h)
set_option maxRecDepth 20000 in
set_option maxHeartbeats 4000000 in
theorem t_X8_agrees {a1 : Int32} {a2 : Int32} {σ : jM} {r : Int32 × jM}  (h : f_X8_agrees a1 a2 σ = some r) : J mi_X8_agrees 2 0 0 (jqI r) 0 [(0, .ref 296), (1, .int a1), (2, .int a2)] [] (ms σ) := by
  unfold f_X8_agrees at h
  refine J_aload_n 0 dX8_agrees_0 rfl ?_
  refine M_getR gf_X8_15_7 dX8_agrees_1 (g_296_2 _) k_296 n_296 ?_
  refine J_iload_n 1 dX8_agrees_4 rfl ?_
  obtain ⟨g9, h⟩ := gd_inv h
  refine M_iald dX8_agrees_5 a_298 n_298 g9 ?_
  refine J_iconst (v := (-1)) dX8_agrees_6 (by decide) ?_
  refine J_icmp_eq (tgt := 26) dX8_agrees_7 (by decide) (fun c10 => ?_) (fun c10 => ?_)
  · have h := (if_pos c10).symm.trans h
    refine J_aload_n 0 dX8_agrees_26 rfl ?_
    refine M_getR gf_X8_41_7 dX8_agrees_27 (g_296_14 _) k_296 n_296 ?_
    refine J_iload_n 2 dX8_agrees_30 rfl ?_
    refine J_iconst (v := 5) dX8_agrees_31 (by decide) ?_
    refine J_idiv dX8_agrees_32 (by decide) ?_
    obtain ⟨g11, h⟩ := gd_inv h
    refine M_lald dX8_agrees_33 a_320 n_320 g11 ?_
    refine J_lstore_n (i := 3) (ls' := [(3, .long (rL σ 320 (Int32.toNatClampNeg (a2 / 5)))), (0, .ref 296), (1, .int a1), (2, .int a2)]) dX8_agrees_34 rfl (by decide) rfl ?_
    refine J_aload_n 1 dX8_agrees_35 rfl ?_
    refine M_getR gf_X8_45_7 dX8_agrees_36 (g_296_15 _) k_296 n_296 ?_
    refine J_iload_n 3 dX8_agrees_39 rfl ?_
    refine J_iconst (v := 5) dX8_agrees_40 (by decide) ?_
    refine J_irem dX8_agrees_41 (by decide) ?_
    obtain ⟨g12, h⟩ := gd_inv h
    refine M_lald dX8_agrees_42 a_321 n_321 g12 ?_
    refine J_lstore (i := 5) (ls' := [(5, .long (rL σ 321 (Int32.toNatClampNeg (a2 - a2 / 5 * 5)))), (3, .long (rL σ 320 (Int32.toNatClampNeg (a2 / 5)))), (0, .ref 296), (1, .int a1), (2, .int a2)]) dX8_agrees_43 (by decide) rfl ?_
    refine J_lload_n 1 dX8_agrees_45 rfl ?_
    refine J_lload 0 dX8_agrees_46 rfl ?_
    refine J_land dX8_agrees_48 ?_
    refine J_lconst (v := 0) dX8_agrees_49 (by decide) ?_
    refine J_lcmp dX8_agrees_50 ?_
    refine J_if_ne (tgt := 79) dX8_agrees_51 (by decide) (fun c13 => ?_) (fun c13 => ?_)
    · have h := (if_neg c13).symm.trans h
      refine J_pick [] rfl ?_
      exact t_X8_agrees_79   _ _  h
    · have h := (if_pos c13).symm.trans h
      refine J_aload_n 2 dX8_agrees_54 rfl ?_
      refine J_iconst (v := 0) dX8_agrees_55 (by decide) ?_
      refine J_iload_n 3 dX8_agrees_56 rfl ?_
      refine J_lload_n 1 dX8_agrees_57 rfl ?_
      obtain ⟨r14, σ15, h16, h⟩ := bd_inv h
      refine M_callVI (d' := 1) (k := 296) (As := [.int 0, .int a1, .long (rL σ 320 (Int32.toNatClampNeg (a2 / 5)))]) (st := []) cv_X8_193 dX8_agrees_58 rfl (by decide) rfl (Nat.le_of_ble_eq_true rfl) (Nat.le_of_ble_eq_true rfl) (by decide) n_296 k_296 rfl rfl (t_X8_agreesBy  h16) ?_
      refine J_if_eq (tgt := 79) dX8_agrees_61 (by decide) (fun c17 => ?_) (fun c17 => ?_)
      · have h := (if_pos c17).symm.trans h
        refine J_pick [] rfl ?_
        exact t_X8_agrees_79   _ _  h
      · have h := (if_neg c17).symm.trans h
        refine J_aload_n 2 dX8_agrees_64 rfl ?_
        refine J_iconst (v := 1) dX8_agrees_65 (by decide) ?_
        refine J_iload_n 3 dX8_agrees_66 rfl ?_
        refine J_lload 0 dX8_agrees_67 rfl ?_
        obtain ⟨r18, σ19, h20, h⟩ := bd_inv h
        refine M_callVI (d' := 1) (k := 296) (As := [.int 1, .int a1, .long (rL σ 321 (Int32.toNatClampNeg (a2 - a2 / 5 * 5)))]) (st := []) cv_X8_193 dX8_agrees_69 rfl (by decide) rfl (Nat.le_of_ble_eq_true rfl) (Nat.le_of_ble_eq_true rfl) (by decide) n_296 k_296 rfl rfl (t_X8_agreesBy  h20) ?_
        refine J_if_eq (tgt := 79) dX8_agrees_72 (by decide) (fun c21 => ?_) (fun c21 => ?_)
        · have h := (if_pos c21).symm.trans h
          refine J_pick [] rfl ?_
          exact t_X8_agrees_79   _ _  h
        · have h := (if_neg c21).symm.trans h
          refine J_iconst (v := 1) dX8_agrees_75 (by decide) ?_
          refine J_goto (tgt := 80) dX8_agrees_76 (by decide) ?_
          refine J_pick [] rfl ?_
          exact t_X8_agrees_80  _ _ _  h
  · have h := (if_neg c10).symm.trans h
    refine J_aload_n 0 dX8_agrees_10 rfl ?_
    refine M_getR gf_X8_15_7 dX8_agrees_11 (g_296_2 _) k_296 n_296 ?_
    refine J_iload_n 1 dX8_agrees_14 rfl ?_
    obtain ⟨g22, h⟩ := gd_inv h
    refine M_iald dX8_agrees_15 a_298 n_298 g22 ?_
    refine J_iload_n 2 dX8_agrees_16 rfl ?_
    refine J_icmp_ne (tgt := 24) dX8_agrees_17 (by decide) (fun c23 => ?_) (fun c23 => ?_)
    · have h := (if_neg c23).symm.trans h
      refine J_iconst (v := 0) dX8_agrees_24 (by decide) ?_
      refine J_pick [] rfl ?_
      exact t_X8_agrees_25  _ _ _  h
    · have h := (if_pos c23).symm.trans h
      refine J_iconst (v := 1) dX8_agrees_20 (by decide) ?_
      refine J_goto (tgt := 25) dX8_agrees_21 (by decide) ?_
      refine J_pick [] rfl ?_
      exact t_X8_agrees_25  _ _ _  h
theorem dX11_isName_0 : decode cX11_isName 0 = .ok (.aload_n 0, 1) := by decide +kernel
theorem dX11_isName_1 : decode cX11_isName 1 = .ok (.getfield 19, 3) := by decide +kernel
theorem dX11_isName_4 : decode cX11_isName 4 = .ok (.iconst 1, 1) := by decide +kernel
theorem dX11_isName_5 : decode cX11_isName 5 = .ok (.if_icmp .lt 12, 3) := by decide +kernel
theorem dX11_isName_8 : decode cX11_isName 8 = .ok (.aload_n 0, 1) := by decide +kernel
theorem dX11_isName_9 : decode cX11_isName 9 = .ok (.getfield 19, 3) := by decide +kernel
theorem dX11_isName_12 : decode cX11_isName 12 = .ok (.bipush 8, 2) := by decide +kernel
theorem dX11_isName_14 : decode cX11_isName 14 = .ok (.if_icmp .le 5, 3) := by decide +kernel
theorem dX11_isName_17 : decode cX11_isName 17 = .ok (.iconst 0, 1) := by decide +kernel
theorem dX11_isName_18 : decode cX11_isName 18 = .ok (.ireturn, 1) := by decide +kernel
theorem dX11_isName_19 : decode cX11_isName 19 = .ok (.iconst 0, 1) := by decide +kernel
theorem dX11_isName_20 : decode cX11_isName 20 = .ok (.istore_n 1, 1) := by decide +kernel
theorem dX11_isName_21 : decode cX11_isName 21 = .ok (.iload_n 1, 1) := by decide +kernel
theorem dX11_isName_22 : decode cX11_isName 22 = .ok (.aload_n 0, 1) := by decide +kernel
theorem dX11_isName_23 : decode cX11_isName 23 = .ok (.getfield 19, 3) := by decide +kernel
theorem dX11_isName_26 : decode cX11_isName 26 = .ok (.if_icmp .ge 19, 3) := by decide +kernel
theorem dX11_isName_29 : decode cX11_isName 29 = .ok (.aload_n 0, 1) := by decide +kernel
theorem dX11_isName_30 : decode cX11_isName 30 = .ok (.iload_n 1, 1) := by decide +kernel
theorem dX11_isName_31 : decode cX11_isName 31 = .ok (.invokevirtual 22, 3) := by decide +kernel
theorem dX11_isName_34 : decode cX11_isName 34 = .ok (.ifCond .ne 5, 3) := by decide +kernel
theorem dX11_isName_37 : decode cX11_isName 37 = .ok (.iconst 0, 1) := by decide +kernel
theorem dX11_isName_38 : decode cX11_isName 38 = .ok (.ireturn, 1) := by decide +kernel
theorem dX11_isName_39 : decode cX11_isName 39 = .ok (.iinc 1 1, 3) := by decide +kernel
theorem dX11_isName_42 : decode cX11_isName 42 = .ok (.goto (-21), 3) := by decide +kernel
theorem dX11_isName_45 : decode cX11_isName 45 = .ok (.iconst 1, 1) := by decide +kernel
theorem dX11_isName_46 : decode cX11_isName 46 = .ok (.ireturn, 1) := by decide +kernel
noncomputable def f_X11_isName_17   (σ : jM) : Option (Int32 × jM) :=
  some (0, σ)
noncomputable def s_X11_isName_21  (rec21 : Int32 → jM → Option (Int32 × jM)) (l1 : Int32) (σ : jM) : Option (Int32 × jM) :=
  (if (rI σ 262 1) ≤ l1 then some (1, σ) else bd (f_X11_isLetterAt l1 σ) (fun r2 σ3 => (if r2 = 0 then some (0, σ3) else rec21 (l1 + 1) σ3)))
noncomputable def f_X11_isName_21  (n : Nat) : Int32 → jM → Option (Int32 × jM) := Nat.rec (motive := fun _ => Int32 → jM → Option (Int32 × jM)) (fun _ _ => none) (fun _ q => s_X11_isName_21  q) n
noncomputable def f_X11_isName  (σ : jM) : Option (Int32 × jM) :=
  (if (rI σ 262 1) < 1 then f_X11_isName_17   σ else (if (rI σ 262 1) ≤ 8 then f_X11_isName_21  Fu 0 σ else f_X11_isName_17   σ))
set_option maxRecDepth 20000 in
set_option maxHeartbeats 4000000 in
theorem t_X11_isName_17   (σ : jM) (r : Int32 × jM)  (h : f_X11_isName_17   σ = some r) : J mi_X11_isName 2 0 0 (jqI r) 17 [] [] (ms σ) := by
  unfold f_X11_isName_17 at h
  refine J_iconst (v := 0) dX11_isName_17 (by decide) ?_
  exact J_ret (v := some (.int 0)) rfl ⟨dX11_isName_18, Or.inr (Or.inl ⟨rfl, Or.inl rfl⟩)⟩ (jqI_mk h)
set_option maxRecDepth 20000 in
set_option maxHeartbeats 4000000 in
theorem t_X11_isName_21  : ∀ (n : Nat) (l1 : Int32) (σ : jM) (r : Int32 × jM), f_X11_isName_21  n l1 σ = some r → J mi_X11_isName 2 0 0 (jqI r) 21 [(0, .ref 262), (1, .int l1)] [] (ms σ) := by
  intro n
  induction n with
  | zero =>
    intro l1 σ r  h
    have h : (none : Option (Int32 × jM)) = some r := h
    cases h
  | succ n ih =>
    intro l1 σ r  h
    have h : s_X11_isName_21  (f_X11_isName_21  n) l1 σ = some r := h
    unfold s_X11_isName_21 at h
    refine J_iload_n 1 dX11_isName_21 rfl ?_
    refine J_aload_n 0 dX11_isName_22 rfl ?_
    refine M_getI gf_X11_19_10 dX11_isName_23 k_262 n_262 ?_
    refine J_icmp_ge (tgt := 45) dX11_isName_26 (by decide) (fun c6 => ?_) (fun c6 => ?_)
    · have h := (if_pos c6).symm.trans h
      refine J_iconst (v := 1) dX11_isName_45 (by decide) ?_
      exact J_ret (v := some (.int 1)) rfl ⟨dX11_isName_46, Or.inr (Or.inl ⟨rfl, Or.inr rfl⟩)⟩ (jqI_mk h)
    · have h := (if_neg c6).symm.trans h
      refine J_aload_n 0 dX11_isName_29 rfl ?_
      refine J_iload_n 1 dX11_isName_30 rfl ?_
      obtain ⟨r7, σ8, h9, h⟩ := bd_inv h
      refine M_callVI (d' := 1) (k := 262) (As := [.int l1]) (st := []) cv_X11_22 dX11_isName_31 rfl (by decide) rfl (Nat.le_of_ble_eq_true rfl) (Nat.le_of_ble_eq_true rfl) (by decide) n_262 k_262 rfl rfl (t_X11_isLetterAt  h9) ?_
      refine J_if_ne (tgt := 39) dX11_isName_34 (by decide) (fun c10 => ?_) (fun c10 => ?_)
      · have h := (if_neg c10).symm.trans h
        refine J_iinc (v := (l1 + 1)) (ls' := [(1, .int (l1 + 1)), (0, .ref 262)]) 1 dX11_isName_39 rfl rfl (by decide) rfl ?_
        refine J_goto (tgt := 21) dX11_isName_42 (by decide) ?_
        refine J_pick [1, 0] rfl ?_
        exact ih _ _ _  h
      · have h := (if_pos c10).symm.trans h
        refine J_iconst (v := 0) dX11_isName_37 (by decide) ?_
        exact J_ret (v := some (.int 0)) rfl ⟨dX11_isName_38, Or.inr (Or.inl ⟨rfl, Or.inl rfl⟩)⟩ (jqI_mk h)
set_option maxRecDepth 20000 in
set_option maxHeartbeats 4000000 in
theorem t_X11_isName  {σ : jM} {r : Int32 × jM}  (h : f_X11_isName  σ = some r) : J mi_X11_isName 2 0 0 (jqI r) 0 [(0, .ref 262)] [] (ms σ) := by
  unfold f_X11_isName at h
  refine J_aload_n 0 dX11_isName_0 rfl ?_
  refine M_getI gf_X11_19_10 dX11_isName_1 k_262 n_262 ?_
  refine J_iconst (v := 1) dX11_isName_4 (by decide) ?_
  refine J_icmp_lt (tgt := 17) dX11_isName_5 (by decide) (fun c11 => ?_) (fun c11 => ?_)
  · have h := (if_pos c11).symm.trans h
    refine J_pick [] rfl ?_
    exact t_X11_isName_17   _ _  h
  · have h := (if_neg c11).symm.trans h
    refine J_aload_n 0 dX11_isName_8 rfl ?_
    refine M_getI gf_X11_19_10 dX11_isName_9 k_262 n_262 ?_
    refine J_bipush (v := 8) dX11_isName_12 (by decide) ?_
    refine J_icmp_le (tgt := 19) dX11_isName_14 (by decide) (fun c12 => ?_) (fun c12 => ?_)
    · have h := (if_pos c12).symm.trans h
      refine J_iconst (v := 0) dX11_isName_19 (by decide) ?_
      refine J_istore_n (i := 1) (ls' := [(1, .int 0), (0, .ref 262)]) dX11_isName_20 rfl (by decide) rfl ?_
      refine J_pick [1, 0] rfl ?_
      exact t_X11_isName_21  _ _ _ _  h
    · have h := (if_neg c12).symm.trans h
      refine J_pick [] rfl ?_
      exact t_X11_isName_17   _ _  h
theorem dX11_clauseKind_0 : decode cX11_clauseKind 0 = .ok (.aload_n 0, 1) := by decide +kernel
theorem dX11_clauseKind_1 : decode cX11_clauseKind 1 = .ok (.ldc 82, 2) := by decide +kernel
theorem dX11_clauseKind_3 : decode cX11_clauseKind 3 = .ok (.invokevirtual 84, 3) := by decide +kernel
theorem dX11_clauseKind_6 : decode cX11_clauseKind 6 = .ok (.ifCond .eq 5, 3) := by decide +kernel
theorem dX11_clauseKind_9 : decode cX11_clauseKind 9 = .ok (.iconst 0, 1) := by decide +kernel
theorem dX11_clauseKind_10 : decode cX11_clauseKind 10 = .ok (.ireturn, 1) := by decide +kernel
theorem dX11_clauseKind_11 : decode cX11_clauseKind 11 = .ok (.aload_n 0, 1) := by decide +kernel
theorem dX11_clauseKind_12 : decode cX11_clauseKind 12 = .ok (.ldc 88, 2) := by decide +kernel
theorem dX11_clauseKind_14 : decode cX11_clauseKind 14 = .ok (.invokevirtual 84, 3) := by decide +kernel
theorem dX11_clauseKind_17 : decode cX11_clauseKind 17 = .ok (.ifCond .eq 5, 3) := by decide +kernel
theorem dX11_clauseKind_20 : decode cX11_clauseKind 20 = .ok (.iconst 1, 1) := by decide +kernel
theorem dX11_clauseKind_21 : decode cX11_clauseKind 21 = .ok (.ireturn, 1) := by decide +kernel
theorem dX11_clauseKind_22 : decode cX11_clauseKind 22 = .ok (.aload_n 0, 1) := by decide +kernel
theorem dX11_clauseKind_23 : decode cX11_clauseKind 23 = .ok (.ldc 90, 2) := by decide +kernel
theorem dX11_clauseKind_25 : decode cX11_clauseKind 25 = .ok (.invokevirtual 84, 3) := by decide +kernel
theorem dX11_clauseKind_28 : decode cX11_clauseKind 28 = .ok (.ifCond .eq 5, 3) := by decide +kernel
theorem dX11_clauseKind_31 : decode cX11_clauseKind 31 = .ok (.iconst 2, 1) := by decide +kernel
theorem dX11_clauseKind_32 : decode cX11_clauseKind 32 = .ok (.ireturn, 1) := by decide +kernel
theorem dX11_clauseKind_33 : decode cX11_clauseKind 33 = .ok (.aload_n 0, 1) := by decide +kernel
theorem dX11_clauseKind_34 : decode cX11_clauseKind 34 = .ok (.ldc 92, 2) := by decide +kernel
theorem dX11_clauseKind_36 : decode cX11_clauseKind 36 = .ok (.invokevirtual 84, 3) := by decide +kernel
theorem dX11_clauseKind_39 : decode cX11_clauseKind 39 = .ok (.ifCond .eq 7, 3) := by decide +kernel
theorem dX11_clauseKind_42 : decode cX11_clauseKind 42 = .ok (.iconst 3, 1) := by decide +kernel
theorem dX11_clauseKind_43 : decode cX11_clauseKind 43 = .ok (.goto 4, 3) := by decide +kernel
theorem dX11_clauseKind_46 : decode cX11_clauseKind 46 = .ok (.iconst (-1), 1) := by decide +kernel
theorem dX11_clauseKind_47 : decode cX11_clauseKind 47 = .ok (.ireturn, 1) := by decide +kernel
noncomputable def f_X11_clauseKind_47  (s0 : Int32) (σ : jM) : Option (Int32 × jM) :=
  some (s0, σ)
noncomputable def f_X11_clauseKind  (σ : jM) : Option (Int32 × jM) :=
  bd (f_X11_isWord 0 σ) (fun r1 σ2 => (if r1 = 0 then bd (f_X11_isWord 1 σ2) (fun r5 σ6 => (if r5 = 0 then bd (f_X11_isWord 2 σ6) (fun r9 σ10 => (if r9 = 0 then bd (f_X11_isWord 3 σ10) (fun r13 σ14 => (if r13 = 0 then f_X11_clauseKind_47  (-1) σ14 else f_X11_clauseKind_47  3 σ14)) else some (2, σ10))) else some (1, σ6))) else some (0, σ2)))
set_option maxRecDepth 20000 in
set_option maxHeartbeats 4000000 in
theorem t_X11_clauseKind_47  (s0 : Int32) (σ : jM) (r : Int32 × jM)  (h : f_X11_clauseKind_47  s0 σ = some r) : J mi_X11_clauseKind 7 0 0 (jqI r) 47 [] [.int s0] (ms σ) := by
  unfold f_X11_clauseKind_47 at h
  exact J_ret (v := some (.int s0)) rfl ⟨dX11_clauseKind_47, Or.inl rfl⟩ (jqI_mk h)
set_option maxRecDepth 20000 in
set_option maxHeartbeats 4000000 in
theorem t_X11_clauseKind  {σ : jM} {r : Int32 × jM}  (h : f_X11_clauseKind  σ = some r) : J mi_X11_clauseKind 7 0 0 (jqI r) 0 [(0, .ref 262)] [] (ms σ) := by
  unfold f_X11_clauseKind at h
  refine J_aload_n 0 dX11_clauseKind_0 rfl ?_
  refine M_ldcS (w := 0) (tx := "consonant") dX11_clauseKind_1 (by decide +kernel) ?_
  obtain ⟨r1, σ2, h3, h⟩ := bd_inv h
  refine M_callVI (d' := 6) (k := 262) (As := [.ref (1000000 + 0)]) (st := []) cv_X11_84 dX11_clauseKind_3 rfl (by decide) rfl (Nat.le_of_ble_eq_true rfl) (Nat.le_of_ble_eq_true rfl) (by decide) n_262 k_262 rfl rfl (t_X11_isWord (by decide) h3) ?_
  refine J_if_eq (tgt := 11) dX11_clauseKind_6 (by decide) (fun c4 => ?_) (fun c4 => ?_)
  · have h := (if_pos c4).symm.trans h
    refine J_aload_n 0 dX11_clauseKind_11 rfl ?_
    refine M_ldcS (w := 1) (tx := "vowel") dX11_clauseKind_12 (by decide +kernel) ?_
    obtain ⟨r5, σ6, h7, h⟩ := bd_inv h
    refine M_callVI (d' := 6) (k := 262) (As := [.ref (1000000 + 1)]) (st := []) cv_X11_84 dX11_clauseKind_14 rfl (by decide) rfl (Nat.le_of_ble_eq_true rfl) (Nat.le_of_ble_eq_true rfl) (by decide) n_262 k_262 rfl rfl (t_X11_isWord (by decide) h7) ?_
    refine J_if_eq (tgt := 22) dX11_clauseKind_17 (by decide) (fun c8 => ?_) (fun c8 => ?_)
    · have h := (if_pos c8).symm.trans h
      refine J_aload_n 0 dX11_clauseKind_22 rfl ?_
      refine M_ldcS (w := 2) (tx := "write") dX11_clauseKind_23 (by decide +kernel) ?_
      obtain ⟨r9, σ10, h11, h⟩ := bd_inv h
      refine M_callVI (d' := 6) (k := 262) (As := [.ref (1000000 + 2)]) (st := []) cv_X11_84 dX11_clauseKind_25 rfl (by decide) rfl (Nat.le_of_ble_eq_true rfl) (Nat.le_of_ble_eq_true rfl) (by decide) n_262 k_262 rfl rfl (t_X11_isWord (by decide) h11) ?_
      refine J_if_eq (tgt := 33) dX11_clauseKind_28 (by decide) (fun c12 => ?_) (fun c12 => ?_)
      · have h := (if_pos c12).symm.trans h
        refine J_aload_n 0 dX11_clauseKind_33 rfl ?_
        refine M_ldcS (w := 3) (tx := "drop") dX11_clauseKind_34 (by decide +kernel) ?_
        obtain ⟨r13, σ14, h15, h⟩ := bd_inv h
        refine M_callVI (d' := 6) (k := 262) (As := [.ref (1000000 + 3)]) (st := []) cv_X11_84 dX11_clauseKind_36 rfl (by decide) rfl (Nat.le_of_ble_eq_true rfl) (Nat.le_of_ble_eq_true rfl) (by decide) n_262 k_262 rfl rfl (t_X11_isWord (by decide) h15) ?_
        refine J_if_eq (tgt := 46) dX11_clauseKind_39 (by decide) (fun c16 => ?_) (fun c16 => ?_)
        · have h := (if_pos c16).symm.trans h
          refine J_iconst (v := (-1)) dX11_clauseKind_46 (by decide) ?_
          refine J_pick [] rfl ?_
          exact t_X11_clauseKind_47  _ _ _  h
        · have h := (if_neg c16).symm.trans h
          refine J_iconst (v := 3) dX11_clauseKind_42 (by decide) ?_
          refine J_goto (tgt := 47) dX11_clauseKind_43 (by decide) ?_
          refine J_pick [] rfl ?_
          exact t_X11_clauseKind_47  _ _ _  h
      · have h := (if_neg c12).symm.trans h
        refine J_iconst (v := 2) dX11_clauseKind_31 (by decide) ?_
        exact J_ret (v := some (.int 2)) rfl ⟨dX11_clauseKind_32, Or.inl rfl⟩ (jqI_mk h)
    · have h := (if_neg c8).symm.trans h
      refine J_iconst (v := 1) dX11_clauseKind_20 (by decide) ?_
      exact J_ret (v := some (.int 1)) rfl ⟨dX11_clauseKind_21, Or.inl rfl⟩ (jqI_mk h)
  · have h := (if_neg c4).symm.trans h
    refine J_iconst (v := 0) dX11_clauseKind_9 (by decide) ?_
    exact J_ret (v := some (.int 0)) rfl ⟨dX11_clauseKind_10, Or.inl rfl⟩ (jqI_mk h)
