theorem dX12_where_0 : decode cX12_where 0 = .ok (.aload_n 0, 1) := by decide +kernel
theorem dX12_where_1 : decode cX12_where 1 = .ok (.getfield 26, 3) := by decide +kernel
theorem dX12_where_4 : decode cX12_where 4 = .ok (.invokevirtual 175, 3) := by decide +kernel
theorem dX12_where_7 : decode cX12_where 7 = .ok (.ifCond .eq 11, 3) := by decide +kernel
theorem dX12_where_10 : decode cX12_where 10 = .ok (.aload_n 0, 1) := by decide +kernel
theorem dX12_where_11 : decode cX12_where 11 = .ok (.iload_n 1, 1) := by decide +kernel
theorem dX12_where_12 : decode cX12_where 12 = .ok (.invokevirtual 228, 3) := by decide +kernel
theorem dX12_where_15 : decode cX12_where 15 = .ok (.ifCond .ne 5, 3) := by decide +kernel
theorem dX12_where_18 : decode cX12_where 18 = .ok (.iconst (-1), 1) := by decide +kernel
theorem dX12_where_19 : decode cX12_where 19 = .ok (.ireturn, 1) := by decide +kernel
theorem dX12_where_20 : decode cX12_where 20 = .ok (.aload_n 0, 1) := by decide +kernel
theorem dX12_where_21 : decode cX12_where 21 = .ok (.getfield 53, 3) := by decide +kernel
theorem dX12_where_24 : decode cX12_where 24 = .ok (.iconst 0, 1) := by decide +kernel
theorem dX12_where_25 : decode cX12_where 25 = .ok (.invokevirtual 325, 3) := by decide +kernel
theorem dX12_where_28 : decode cX12_where 28 = .ok (.aload_n 0, 1) := by decide +kernel
theorem dX12_where_29 : decode cX12_where 29 = .ok (.getfield 53, 3) := by decide +kernel
theorem dX12_where_32 : decode cX12_where 32 = .ok (.aload_n 0, 1) := by decide +kernel
theorem dX12_where_33 : decode cX12_where 33 = .ok (.getfield 26, 3) := by decide +kernel
theorem dX12_where_36 : decode cX12_where 36 = .ok (.getfield 183, 3) := by decide +kernel
theorem dX12_where_39 : decode cX12_where 39 = .ok (.aload_n 0, 1) := by decide +kernel
theorem dX12_where_40 : decode cX12_where 40 = .ok (.getfield 26, 3) := by decide +kernel
theorem dX12_where_43 : decode cX12_where 43 = .ok (.getfield 71, 3) := by decide +kernel
theorem dX12_where_46 : decode cX12_where 46 = .ok (.invokevirtual 328, 3) := by decide +kernel
theorem dX12_where_49 : decode cX12_where 49 = .ok (.aload_n 0, 1) := by decide +kernel
theorem dX12_where_50 : decode cX12_where 50 = .ok (.getfield 26, 3) := by decide +kernel
theorem dX12_where_53 : decode cX12_where 53 = .ok (.iconst 0, 1) := by decide +kernel
theorem dX12_where_54 : decode cX12_where 54 = .ok (.putfield 71, 3) := by decide +kernel
theorem dX12_where_57 : decode cX12_where 57 = .ok (.aload_n 0, 1) := by decide +kernel
theorem dX12_where_58 : decode cX12_where 58 = .ok (.getfield 53, 3) := by decide +kernel
theorem dX12_where_61 : decode cX12_where 61 = .ok (.invokevirtual 359, 3) := by decide +kernel
theorem dX12_where_64 : decode cX12_where 64 = .ok (.ireturn, 1) := by decide +kernel
noncomputable def f_X12_where_18   (σ : jM) : Option (Int32 × jM) :=
  some ((-1), σ)
noncomputable def f_X12_where (a1 : Int32) (σ : jM) : Option (Int32 × jM) :=
  bd (f_X11_isName  σ) (fun r1 σ2 => (if r1 = 0 then f_X12_where_18   σ2 else bd (f_X12_seeGrid a1 σ2) (fun r5 σ6 => (if r5 = 0 then f_X12_where_18   σ6 else bd (f_X8_seatNames 0 σ6) (fun _ σ10 => bd (f_X8_seatNew 263 (rI σ10 262 1) σ10) (fun _ σ13 => bd (f_X8_tabletTellingMost  (wI σ13 262 1 0)) (fun r15 σ16 => some (r15, σ16))))))))
set_option maxRecDepth 20000 in
set_option maxHeartbeats 4000000 in
theorem t_X12_where_18   (σ : jM) (r : Int32 × jM)  (h : f_X12_where_18   σ = some r) : J mi_X12_where 17 0 0 (jqI r) 18 [] [] (ms σ) := by
  unfold f_X12_where_18 at h
  refine J_iconst (v := (-1)) dX12_where_18 (by decide) ?_
  exact J_ret (v := some (.int (-1))) rfl ⟨dX12_where_19, Or.inl rfl⟩ (jqI_mk h)
set_option maxRecDepth 20000 in
set_option maxHeartbeats 4000000 in
theorem t_X12_where {a1 : Int32} {σ : jM} {r : Int32 × jM}  (h : f_X12_where a1 σ = some r) : J mi_X12_where 17 0 0 (jqI r) 0 [(0, .ref 0), (1, .int a1)] [] (ms σ) := by
  unfold f_X12_where at h
  refine J_aload_n 0 dX12_where_0 rfl ?_
  refine M_getR gf_X12_26_11 dX12_where_1 (g_0_1 _) k_0 n_0 ?_
  obtain ⟨r1, σ2, h3, h⟩ := bd_inv h
  refine M_callVI (d' := 2) (k := 262) (As := []) (st := []) cv_X12_175 dX12_where_4 rfl (by decide) rfl (Nat.le_of_ble_eq_true rfl) (Nat.le_of_ble_eq_true rfl) (by decide) n_262 k_262 rfl rfl (t_X11_isName  h3) ?_
  refine J_if_eq (tgt := 18) dX12_where_7 (by decide) (fun c4 => ?_) (fun c4 => ?_)
  · have h := (if_pos c4).symm.trans h
    refine J_pick [] rfl ?_
    exact t_X12_where_18   _ _  h
  · have h := (if_neg c4).symm.trans h
    refine J_aload_n 0 dX12_where_10 rfl ?_
    refine J_iload_n 1 dX12_where_11 rfl ?_
    obtain ⟨r5, σ6, h7, h⟩ := bd_inv h
    refine M_callVI (d' := 7) (k := 0) (As := [.int a1]) (st := []) cv_X12_228 dX12_where_12 rfl (by decide) rfl (Nat.le_of_ble_eq_true rfl) (Nat.le_of_ble_eq_true rfl) (by decide) n_0 k_0 rfl rfl (t_X12_seeGrid  h7) ?_
    refine J_if_ne (tgt := 20) dX12_where_15 (by decide) (fun c8 => ?_) (fun c8 => ?_)
    · have h := (if_neg c8).symm.trans h
      refine J_aload_n 0 dX12_where_20 rfl ?_
      refine M_getR gf_X12_53_11 dX12_where_21 (g_0_4 _) k_0 n_0 ?_
      refine J_iconst (v := 0) dX12_where_24 (by decide) ?_
      obtain ⟨_, σ10, h11, h⟩ := bd_inv h
      refine M_callVV (d' := 4) (k := 296) (As := [.int 0]) (st := []) cv_X12_325 dX12_where_25 rfl (by decide) rfl (Nat.le_of_ble_eq_true rfl) (Nat.le_of_ble_eq_true rfl) (by decide) n_296 k_296 rfl rfl (t_X8_seatNames  h11) ?_
      refine J_aload_n 0 dX12_where_28 rfl ?_
      refine M_getR gf_X12_53_11 dX12_where_29 (g_0_4 _) k_0 n_0 ?_
      refine J_aload_n 0 dX12_where_32 rfl ?_
      refine M_getR gf_X12_26_11 dX12_where_33 (g_0_1 _) k_0 n_0 ?_
      refine M_getR gf_X12_183_10 dX12_where_36 (g_262_0 _) k_262 n_262 ?_
      refine J_aload_n 0 dX12_where_39 rfl ?_
      refine M_getR gf_X12_26_11 dX12_where_40 (g_0_1 _) k_0 n_0 ?_
      refine M_getI gf_X12_71_10 dX12_where_43 k_262 n_262 ?_
      obtain ⟨_, σ13, h14, h⟩ := bd_inv h
      refine M_callVV (d' := 4) (k := 296) (As := [.ref 263, .int (rI σ10 262 1)]) (st := []) cv_X12_328 dX12_where_46 rfl (by decide) rfl (Nat.le_of_ble_eq_true rfl) (Nat.le_of_ble_eq_true rfl) (by decide) n_296 k_296 rfl rfl (t_X8_seatNew ⟨congrArg Prod.fst a_263, n_263⟩ h14) ?_
      refine J_aload_n 0 dX12_where_49 rfl ?_
      refine M_getR gf_X12_26_11 dX12_where_50 (g_0_1 _) k_0 n_0 ?_
      refine J_iconst (v := 0) dX12_where_53 (by decide) ?_
      refine M_putI pf_X12_71_10 dX12_where_54 k_262 n_262 ⟨rfl, rfl⟩ ?_
      refine J_aload_n 0 dX12_where_57 rfl ?_
      refine M_getR gf_X12_53_11 dX12_where_58 (g_0_4 _) k_0 n_0 ?_
      obtain ⟨r15, σ16, h17, h⟩ := bd_inv h
      refine M_callVI (d' := 16) (k := 296) (As := []) (st := []) cv_X12_359 dX12_where_61 rfl (by decide) rfl (Nat.le_of_ble_eq_true rfl) (Nat.le_of_ble_eq_true rfl) (by decide) n_296 k_296 rfl rfl (t_X8_tabletTellingMost  h17) ?_
      exact J_ret (v := some (.int r15)) rfl ⟨dX12_where_64, Or.inl rfl⟩ (jqI_mk h)
    · have h := (if_pos c8).symm.trans h
      refine J_pick [] rfl ?_
      exact t_X12_where_18   _ _  h
theorem dX1_countWays_0 : decode cX1_countWays 0 = .ok (.aload_n 0, 1) := by decide +kernel
theorem dX1_countWays_1 : decode cX1_countWays 1 = .ok (.getfield 23, 3) := by decide +kernel
theorem dX1_countWays_4 : decode cX1_countWays 4 = .ok (.ifCond .ne 19, 3) := by decide +kernel
theorem dX1_countWays_7 : decode cX1_countWays 7 = .ok (.aload_n 0, 1) := by decide +kernel
theorem dX1_countWays_8 : decode cX1_countWays 8 = .ok (.iconst 1, 1) := by decide +kernel
theorem dX1_countWays_9 : decode cX1_countWays 9 = .ok (.putfield 23, 3) := by decide +kernel
theorem dX1_countWays_12 : decode cX1_countWays 12 = .ok (.aload_n 0, 1) := by decide +kernel
theorem dX1_countWays_13 : decode cX1_countWays 13 = .ok (.aload_n 0, 1) := by decide +kernel
theorem dX1_countWays_14 : decode cX1_countWays 14 = .ok (.getfield 19, 3) := by decide +kernel
theorem dX1_countWays_17 : decode cX1_countWays 17 = .ok (.invokevirtual 33, 3) := by decide +kernel
theorem dX1_countWays_20 : decode cX1_countWays 20 = .ok (.putfield 39, 3) := by decide +kernel
theorem dX1_countWays_23 : decode cX1_countWays 23 = .ok (.return_, 1) := by decide +kernel
noncomputable def f_X1_countWays_23   (σ : jM) : Option (Unit × jM) :=
  some ((), σ)
noncomputable def f_X1_countWays  (σ : jM) : Option (Unit × jM) :=
  (if (rI σ 322 5) = 0 then bd (f_X8_tallyWays  (wI σ 322 5 1)) (fun r2 σ3 => f_X1_countWays_23   (wI σ3 322 0 r2)) else f_X1_countWays_23   σ)
set_option maxRecDepth 20000 in
set_option maxHeartbeats 4000000 in
theorem t_X1_countWays_23   (σ : jM) (r : Unit × jM)  (h : f_X1_countWays_23   σ = some r) : J mi_X1_countWays 16 0 0 (jqV r) 23 [] [] (ms σ) := by
  unfold f_X1_countWays_23 at h
  exact J_ret (v := none) rfl ⟨dX1_countWays_23, rfl⟩ (jqV_mk h)
set_option maxRecDepth 20000 in
set_option maxHeartbeats 4000000 in
theorem t_X1_countWays  {σ : jM} {r : Unit × jM}  (h : f_X1_countWays  σ = some r) : J mi_X1_countWays 16 0 0 (jqV r) 0 [(0, .ref 322)] [] (ms σ) := by
  unfold f_X1_countWays at h
  refine J_aload_n 0 dX1_countWays_0 rfl ?_
  refine M_getI gf_X1_23_1 dX1_countWays_1 k_322 n_322 ?_
  refine J_if_ne (tgt := 23) dX1_countWays_4 (by decide) (fun c1 => ?_) (fun c1 => ?_)
  · have h := (if_neg c1).symm.trans h
    refine J_pick [] rfl ?_
    exact t_X1_countWays_23   _ _  h
  · have h := (if_pos c1).symm.trans h
    refine J_aload_n 0 dX1_countWays_7 rfl ?_
    refine J_iconst (v := 1) dX1_countWays_8 (by decide) ?_
    refine M_putI pf_X1_23_1 dX1_countWays_9 k_322 n_322 (jbool (Or.inr rfl)) ?_
    refine J_aload_n 0 dX1_countWays_12 rfl ?_
    refine J_aload_n 0 dX1_countWays_13 rfl ?_
    refine M_getR gf_X1_19_1 dX1_countWays_14 (g_322_4 _) k_322 n_322 ?_
    obtain ⟨r2, σ3, h4, h⟩ := bd_inv h
    refine M_callVI (d' := 15) (k := 296) (As := []) (st := [.ref 322]) cv_X1_33 dX1_countWays_17 rfl (by decide) rfl (Nat.le_of_ble_eq_true rfl) (Nat.le_of_ble_eq_true rfl) (by decide) n_296 k_296 rfl rfl (t_X8_tallyWays  h4) ?_
    refine M_putI pf_X1_39_1 dX1_countWays_20 k_322 n_322 ⟨rfl, rfl⟩ ?_
    refine J_pick [] rfl ?_
    exact t_X1_countWays_23   _ _  h
theorem dX1_findDoubt_0 : decode cX1_findDoubt 0 = .ok (.aload_n 0, 1) := by decide +kernel
theorem dX1_findDoubt_1 : decode cX1_findDoubt 1 = .ok (.getfield 27, 3) := by decide +kernel
theorem dX1_findDoubt_4 : decode cX1_findDoubt 4 = .ok (.ifCond .eq 4, 3) := by decide +kernel
theorem dX1_findDoubt_7 : decode cX1_findDoubt 7 = .ok (.return_, 1) := by decide +kernel
theorem dX1_findDoubt_8 : decode cX1_findDoubt 8 = .ok (.aload_n 0, 1) := by decide +kernel
theorem dX1_findDoubt_9 : decode cX1_findDoubt 9 = .ok (.iconst 1, 1) := by decide +kernel
theorem dX1_findDoubt_10 : decode cX1_findDoubt 10 = .ok (.putfield 27, 3) := by decide +kernel
theorem dX1_findDoubt_13 : decode cX1_findDoubt 13 = .ok (.iconst 0, 1) := by decide +kernel
theorem dX1_findDoubt_14 : decode cX1_findDoubt 14 = .ok (.istore_n 1, 1) := by decide +kernel
theorem dX1_findDoubt_15 : decode cX1_findDoubt 15 = .ok (.iconst 0, 1) := by decide +kernel
theorem dX1_findDoubt_16 : decode cX1_findDoubt 16 = .ok (.istore_n 2, 1) := by decide +kernel
theorem dX1_findDoubt_17 : decode cX1_findDoubt 17 = .ok (.iload_n 2, 1) := by decide +kernel
theorem dX1_findDoubt_18 : decode cX1_findDoubt 18 = .ok (.aload_n 0, 1) := by decide +kernel
theorem dX1_findDoubt_19 : decode cX1_findDoubt 19 = .ok (.getfield 15, 3) := by decide +kernel
theorem dX1_findDoubt_22 : decode cX1_findDoubt 22 = .ok (.getfield 70, 3) := by decide +kernel
theorem dX1_findDoubt_25 : decode cX1_findDoubt 25 = .ok (.if_icmp .ge 26, 3) := by decide +kernel
theorem dX1_findDoubt_28 : decode cX1_findDoubt 28 = .ok (.aload_n 0, 1) := by decide +kernel
theorem dX1_findDoubt_29 : decode cX1_findDoubt 29 = .ok (.getfield 15, 3) := by decide +kernel
theorem dX1_findDoubt_32 : decode cX1_findDoubt 32 = .ok (.iload_n 2, 1) := by decide +kernel
theorem dX1_findDoubt_33 : decode cX1_findDoubt 33 = .ok (.invokevirtual 75, 3) := by decide +kernel
theorem dX1_findDoubt_36 : decode cX1_findDoubt 36 = .ok (.ifCond .eq 9, 3) := by decide +kernel
theorem dX1_findDoubt_39 : decode cX1_findDoubt 39 = .ok (.iload_n 1, 1) := by decide +kernel
theorem dX1_findDoubt_40 : decode cX1_findDoubt 40 = .ok (.iconst 1, 1) := by decide +kernel
theorem dX1_findDoubt_41 : decode cX1_findDoubt 41 = .ok (.iload_n 2, 1) := by decide +kernel
theorem dX1_findDoubt_42 : decode cX1_findDoubt 42 = .ok (.ishl, 1) := by decide +kernel
theorem dX1_findDoubt_43 : decode cX1_findDoubt 43 = .ok (.ior, 1) := by decide +kernel
theorem dX1_findDoubt_44 : decode cX1_findDoubt 44 = .ok (.istore_n 1, 1) := by decide +kernel
theorem dX1_findDoubt_45 : decode cX1_findDoubt 45 = .ok (.iinc 2 1, 3) := by decide +kernel
theorem dX1_findDoubt_48 : decode cX1_findDoubt 48 = .ok (.goto (-31), 3) := by decide +kernel
theorem dX1_findDoubt_51 : decode cX1_findDoubt 51 = .ok (.aload_n 0, 1) := by decide +kernel
theorem dX1_findDoubt_52 : decode cX1_findDoubt 52 = .ok (.iload_n 1, 1) := by decide +kernel
theorem dX1_findDoubt_53 : decode cX1_findDoubt 53 = .ok (.putfield 79, 3) := by decide +kernel
theorem dX1_findDoubt_56 : decode cX1_findDoubt 56 = .ok (.iconst 0, 1) := by decide +kernel
theorem dX1_findDoubt_57 : decode cX1_findDoubt 57 = .ok (.istore_n 2, 1) := by decide +kernel
theorem dX1_findDoubt_58 : decode cX1_findDoubt 58 = .ok (.iload_n 2, 1) := by decide +kernel
theorem dX1_findDoubt_59 : decode cX1_findDoubt 59 = .ok (.iload_n 1, 1) := by decide +kernel
theorem dX1_findDoubt_60 : decode cX1_findDoubt 60 = .ok (.if_icmp .ge 57, 3) := by decide +kernel
theorem dX1_findDoubt_63 : decode cX1_findDoubt 63 = .ok (.iload_n 2, 1) := by decide +kernel
theorem dX1_findDoubt_64 : decode cX1_findDoubt 64 = .ok (.invokestatic 82, 3) := by decide +kernel
theorem dX1_findDoubt_67 : decode cX1_findDoubt 67 = .ok (.aload_n 0, 1) := by decide +kernel
theorem dX1_findDoubt_68 : decode cX1_findDoubt 68 = .ok (.getfield 79, 3) := by decide +kernel
theorem dX1_findDoubt_71 : decode cX1_findDoubt 71 = .ok (.invokestatic 82, 3) := by decide +kernel
theorem dX1_findDoubt_74 : decode cX1_findDoubt 74 = .ok (.if_icmp .ge 7, 3) := by decide +kernel
theorem dX1_findDoubt_77 : decode cX1_findDoubt 77 = .ok (.iconst 1, 1) := by decide +kernel
theorem dX1_findDoubt_78 : decode cX1_findDoubt 78 = .ok (.goto 4, 3) := by decide +kernel
theorem dX1_findDoubt_81 : decode cX1_findDoubt 81 = .ok (.iconst 0, 1) := by decide +kernel
theorem dX1_findDoubt_82 : decode cX1_findDoubt 82 = .ok (.istore_n 3, 1) := by decide +kernel
theorem dX1_findDoubt_83 : decode cX1_findDoubt 83 = .ok (.iload_n 3, 1) := by decide +kernel
theorem dX1_findDoubt_84 : decode cX1_findDoubt 84 = .ok (.ifCond .eq 27, 3) := by decide +kernel
theorem dX1_findDoubt_87 : decode cX1_findDoubt 87 = .ok (.iload_n 2, 1) := by decide +kernel
theorem dX1_findDoubt_88 : decode cX1_findDoubt 88 = .ok (.iload_n 1, 1) := by decide +kernel
theorem dX1_findDoubt_89 : decode cX1_findDoubt 89 = .ok (.iconst (-1), 1) := by decide +kernel
theorem dX1_findDoubt_90 : decode cX1_findDoubt 90 = .ok (.ixor, 1) := by decide +kernel
theorem dX1_findDoubt_91 : decode cX1_findDoubt 91 = .ok (.iand, 1) := by decide +kernel
theorem dX1_findDoubt_92 : decode cX1_findDoubt 92 = .ok (.ifCond .ne 19, 3) := by decide +kernel
theorem dX1_findDoubt_95 : decode cX1_findDoubt 95 = .ok (.aload_n 0, 1) := by decide +kernel
theorem dX1_findDoubt_96 : decode cX1_findDoubt 96 = .ok (.getfield 19, 3) := by decide +kernel
theorem dX1_findDoubt_99 : decode cX1_findDoubt 99 = .ok (.iload_n 2, 1) := by decide +kernel
theorem dX1_findDoubt_100 : decode cX1_findDoubt 100 = .ok (.invokevirtual 87, 3) := by decide +kernel
theorem dX1_findDoubt_103 : decode cX1_findDoubt 103 = .ok (.ifCond .eq 8, 3) := by decide +kernel
theorem dX1_findDoubt_106 : decode cX1_findDoubt 106 = .ok (.aload_n 0, 1) := by decide +kernel
theorem dX1_findDoubt_107 : decode cX1_findDoubt 107 = .ok (.iload_n 2, 1) := by decide +kernel
theorem dX1_findDoubt_108 : decode cX1_findDoubt 108 = .ok (.putfield 79, 3) := by decide +kernel
theorem dX1_findDoubt_111 : decode cX1_findDoubt 111 = .ok (.iinc 2 1, 3) := by decide +kernel
theorem dX1_findDoubt_114 : decode cX1_findDoubt 114 = .ok (.goto (-56), 3) := by decide +kernel
theorem dX1_findDoubt_117 : decode cX1_findDoubt 117 = .ok (.return_, 1) := by decide +kernel
noncomputable def f_X1_findDoubt_111 (rec58 : Int32 → Int32 → jM → Option (Unit × jM)) (l1 : Int32) (l2 : Int32) (σ : jM) : Option (Unit × jM) :=
  rec58 l1 (l2 + 1) σ
noncomputable def f_X1_findDoubt_82 (rec58 : Int32 → Int32 → jM → Option (Unit × jM)) (l1 : Int32) (l2 : Int32) (s0 : Int32) (σ : jM) : Option (Unit × jM) :=
  (if s0 = 0 then f_X1_findDoubt_111 rec58 l1 l2 σ else (if (l2 &&& (l1 ^^^ (-1))) = 0 then bd (f_X8_hasWayWithout l2 σ) (fun r3 σ4 => (if r3 = 0 then f_X1_findDoubt_111 rec58 l1 l2 σ4 else f_X1_findDoubt_111 rec58 l1 l2 (wI σ4 322 1 l2))) else f_X1_findDoubt_111 rec58 l1 l2 σ))
noncomputable def s_X1_findDoubt_58  (rec58 : Int32 → Int32 → jM → Option (Unit × jM)) (l1 : Int32) (l2 : Int32) (σ : jM) : Option (Unit × jM) :=
  (if l1 ≤ l2 then some ((), σ) else bd (f_J6_bitCount_0f7a4 l2 σ) (fun r14 σ15 => bd (f_J6_bitCount_0f7a4 (rI σ15 322 1) σ15) (fun r17 σ18 => (if r17 ≤ r14 then f_X1_findDoubt_82 rec58 l1 l2 0 σ18 else f_X1_findDoubt_82 rec58 l1 l2 1 σ18))))
noncomputable def f_X1_findDoubt_58  (n : Nat) : Int32 → Int32 → jM → Option (Unit × jM) := Nat.rec (motive := fun _ => Int32 → Int32 → jM → Option (Unit × jM)) (fun _ _ _ => none) (fun _ q => s_X1_findDoubt_58  q) n
noncomputable def f_X1_findDoubt_45 (rec17 : Int32 → Int32 → jM → Option (Unit × jM)) (l1 : Int32) (l2 : Int32) (σ : jM) : Option (Unit × jM) :=
  rec17 l1 (l2 + 1) σ
noncomputable def s_X1_findDoubt_17  (rec17 : Int32 → Int32 → jM → Option (Unit × jM)) (l1 : Int32) (l2 : Int32) (σ : jM) : Option (Unit × jM) :=
  (if (rI σ 3 8) ≤ l2 then f_X1_findDoubt_58  Fu l1 0 (wI σ 322 1 l1) else bd (f_X0_nameCounts l2 σ) (fun r30 σ31 => (if r30 = 0 then f_X1_findDoubt_45 rec17 l1 l2 σ31 else f_X1_findDoubt_45 rec17 (l1 ||| (1 <<< (l2 &&& 31))) l2 σ31)))
noncomputable def f_X1_findDoubt_17  (n : Nat) : Int32 → Int32 → jM → Option (Unit × jM) := Nat.rec (motive := fun _ => Int32 → Int32 → jM → Option (Unit × jM)) (fun _ _ _ => none) (fun _ q => s_X1_findDoubt_17  q) n
noncomputable def f_X1_findDoubt  (σ : jM) : Option (Unit × jM) :=
  (if (rI σ 322 6) = 0 then f_X1_findDoubt_17  Fu 0 0 (wI σ 322 6 1) else some ((), σ))
set_option maxRecDepth 20000 in
set_option maxHeartbeats 4000000 in
theorem t_X1_findDoubt_111 {rec58 : Int32 → Int32 → jM → Option (Unit × jM)} (hrec58 : ∀ (l1 : Int32) (l2 : Int32) (σ : jM) (r : Unit × jM), rec58 l1 l2 σ = some r → J mi_X1_findDoubt 16 0 0 (jqV r) 58 [(0, .ref 322), (1, .int l1), (2, .int l2)] [] (ms σ)) (l1 : Int32) (l2 : Int32) (σ : jM) (r : Unit × jM)  (h : f_X1_findDoubt_111 rec58 l1 l2 σ = some r) : J mi_X1_findDoubt 16 0 0 (jqV r) 111 [(0, .ref 322), (1, .int l1), (2, .int l2)] [] (ms σ) := by
  unfold f_X1_findDoubt_111 at h
  refine J_iinc (v := (l2 + 1)) (ls' := [(2, .int (l2 + 1)), (0, .ref 322), (1, .int l1)]) 2 dX1_findDoubt_111 rfl rfl (by decide) rfl ?_
  refine J_goto (tgt := 58) dX1_findDoubt_114 (by decide) ?_
  refine J_pick [1, 2, 0] rfl ?_
  exact hrec58 _ _ _ _  h
set_option maxRecDepth 20000 in
set_option maxHeartbeats 4000000 in
theorem t_X1_findDoubt_82 {rec58 : Int32 → Int32 → jM → Option (Unit × jM)} (hrec58 : ∀ (l1 : Int32) (l2 : Int32) (σ : jM) (r : Unit × jM), rec58 l1 l2 σ = some r → J mi_X1_findDoubt 16 0 0 (jqV r) 58 [(0, .ref 322), (1, .int l1), (2, .int l2)] [] (ms σ)) (l1 : Int32) (l2 : Int32) (s0 : Int32) (σ : jM) (r : Unit × jM)  (h : f_X1_findDoubt_82 rec58 l1 l2 s0 σ = some r) : J mi_X1_findDoubt 16 0 0 (jqV r) 82 [(0, .ref 322), (1, .int l1), (2, .int l2)] [.int s0] (ms σ) := by
  unfold f_X1_findDoubt_82 at h
  refine J_istore_n (i := 3) (ls' := [(3, .int s0), (0, .ref 322), (1, .int l1), (2, .int l2)]) dX1_findDoubt_82 rfl (by decide) rfl ?_
  refine J_iload_n 0 dX1_findDoubt_83 rfl ?_
  refine J_if_eq (tgt := 111) dX1_findDoubt_84 (by decide) (fun c7 => ?_) (fun c7 => ?_)
  · have h := (if_pos c7).symm.trans h
    refine J_pick [1, 2, 3] rfl ?_
    exact t_X1_findDoubt_111 hrec58 _ _ _ _  h
  · have h := (if_neg c7).symm.trans h
    refine J_iload_n 3 dX1_findDoubt_87 rfl ?_
    refine J_iload_n 2 dX1_findDoubt_88 rfl ?_
    refine J_iconst (v := (-1)) dX1_findDoubt_89 (by decide) ?_
    refine J_ixor dX1_findDoubt_90 ?_
    refine J_iand dX1_findDoubt_91 ?_
    refine J_if_ne (tgt := 111) dX1_findDoubt_92 (by decide) (fun c8 => ?_) (fun c8 => ?_)
    · have h := (if_neg c8).symm.trans h
      refine J_pick [1, 2, 3] rfl ?_
      exact t_X1_findDoubt_111 hrec58 _ _ _ _  h
    · have h := (if_pos c8).symm.trans h
      refine J_aload_n 1 dX1_findDoubt_95 rfl ?_
      refine M_getR gf_X1_19_1 dX1_findDoubt_96 (g_322_4 _) k_322 n_322 ?_
      refine J_iload_n 3 dX1_findDoubt_99 rfl ?_
      obtain ⟨r9, σ10, h11, h⟩ := bd_inv h
      refine M_callVI (d' := 15) (k := 296) (As := [.int l2]) (st := []) cv_X1_87 dX1_findDoubt_100 rfl (by decide) rfl (Nat.le_of_ble_eq_true rfl) (Nat.le_of_ble_eq_true rfl) (by decide) n_296 k_296 rfl rfl (t_X8_hasWayWithout  h11) ?_
      refine J_if_eq (tgt := 111) dX1_findDoubt_103 (by decide) (fun c12 => ?_) (fun c12 => ?_)
      · have h := (if_pos c12).symm.trans h
        refine J_pick [1, 2, 3] rfl ?_
        exact t_X1_findDoubt_111 hrec58 _ _ _ _  h
      · have h := (if_neg c12).symm.trans h
        refine J_aload_n 1 dX1_findDoubt_106 rfl ?_
        refine J_iload_n 3 dX1_findDoubt_107 rfl ?_
        refine M_putI pf_X1_79_1 dX1_findDoubt_108 k_322 n_322 ⟨rfl, rfl⟩ ?_
        refine J_pick [1, 2, 3] rfl ?_
        exact t_X1_findDoubt_111 hrec58 _ _ _ _  h
set_option maxRecDepth 20000 in
set_option maxHeartbeats 4000000 in
theorem t_X1_findDoubt_58  : ∀ (n : Nat) (l1 : Int32) (l2 : Int32) (σ : jM) (r : Unit × jM), f_X1_findDoubt_58  n l1 l2 σ = some r → J mi_X1_findDoubt 16 0 0 (jqV r) 58 [(0, .ref 322), (1, .int l1), (2, .int l2)] [] (ms σ) := by
  intro n
  induction n with
  | zero =>
    intro l1 l2 σ r  h
    have h : (none : Option (Unit × jM)) = some r := h
    cases h
  | succ n ih =>
    intro l1 l2 σ r  h
    have h : s_X1_findDoubt_58  (f_X1_findDoubt_58  n) l1 l2 σ = some r := h
    unfold s_X1_findDoubt_58 at h
    refine J_iload_n 2 dX1_findDoubt_58 rfl ?_
    refine J_iload_n 1 dX1_findDoubt_59 rfl ?_
    refine J_icmp_ge (tgt := 117) dX1_findDoubt_60 (by decide) (fun c21 => ?_) (fun c21 => ?_)
    · have h := (if_pos c21).symm.trans h
      exact J_ret (v := none) rfl ⟨dX1_findDoubt_117, rfl⟩ (jqV_mk h)
    · have h := (if_neg c21).symm.trans h
      refine J_iload_n 2 dX1_findDoubt_63 rfl ?_
      obtain ⟨r22, σ23, h24, h⟩ := bd_inv h
      refine M_callSI (d' := 1) (As := [.int l2]) (st := []) cs_X1_82 dX1_findDoubt_64 rfl (Nat.le_of_ble_eq_true rfl) (Nat.le_of_ble_eq_true rfl) (by decide) rfl rfl (t_J6_bitCount_0f7a4  h24) ?_
      refine J_aload_n 0 dX1_findDoubt_67 rfl ?_
      refine M_getI gf_X1_79_1 dX1_findDoubt_68 k_322 n_322 ?_
      obtain ⟨r25, σ26, h27, h⟩ := bd_inv h
      refine M_callSI (d' := 1) (As := [.int (rI σ23 322 1)]) (st := [.int r22]) cs_X1_82 dX1_findDoubt_71 rfl (Nat.le_of_ble_eq_true rfl) (Nat.le_of_ble_eq_true rfl) (by decide) rfl rfl (t_J6_bitCount_0f7a4  h27) ?_
      refine J_icmp_ge (tgt := 81) dX1_findDoubt_74 (by decide) (fun c28 => ?_) (fun c28 => ?_)
      · have h := (if_pos c28).symm.trans h
        refine J_iconst (v := 0) dX1_findDoubt_81 (by decide) ?_
        exact t_X1_findDoubt_82 ih _ _ _ _ _  h
      · have h := (if_neg c28).symm.trans h
        refine J_iconst (v := 1) dX1_findDoubt_77 (by decide) ?_
        refine J_goto (tgt := 82) dX1_findDoubt_78 (by decide) ?_
        exact t_X1_findDoubt_82 ih _ _ _ _ _  h
set_option maxRecDepth 20000 in
set_option maxHeartbeats 4000000 in
theorem t_X1_findDoubt_45 {rec17 : Int32 → Int32 → jM → Option (Unit × jM)} (hrec17 : ∀ (l1 : Int32) (l2 : Int32) (σ : jM) (r : Unit × jM), rec17 l1 l2 σ = some r → J mi_X1_findDoubt 16 0 0 (jqV r) 17 [(0, .ref 322), (1, .int l1), (2, .int l2)] [] (ms σ)) (l1 : Int32) (l2 : Int32) (σ : jM) (r : Unit × jM)  (h : f_X1_findDoubt_45 rec17 l1 l2 σ = some r) : J mi_X1_findDoubt 16 0 0 (jqV r) 45 [(0, .ref 322), (1, .int l1), (2, .int l2)] [] (ms σ) := by
  unfold f_X1_findDoubt_45 at h
  refine J_iinc (v := (l2 + 1)) (ls' := [(2, .int (l2 + 1)), (0, .ref 322), (1, .int l1)]) 2 dX1_findDoubt_45 rfl rfl (by decide) rfl ?_
  refine J_goto (tgt := 17) dX1_findDoubt_48 (by decide) ?_
  refine J_pick [1, 2, 0] rfl ?_
  exact hrec17 _ _ _ _  h
set_option maxRecDepth 20000 in
set_option maxHeartbeats 4000000 in
theorem t_X1_findDoubt_17  : ∀ (n : Nat) (l1 : Int32) (l2 : Int32) (σ : jM) (r : Unit × jM), f_X1_findDoubt_17  n l1 l2 σ = some r → J mi_X1_findDoubt 16 0 0 (jqV r) 17 [(0, .ref 322), (1, .int l1), (2, .int l2)] [] (ms σ) := by
  intro n
  induction n with
  | zero =>
    intro l1 l2 σ r  h
    have h : (none : Option (Unit × jM)) = some r := h
    cases h
  | succ n ih =>
    intro l1 l2 σ r  h
    have h : s_X1_findDoubt_17  (f_X1_findDoubt_17  n) l1 l2 σ = some r := h
    unfold s_X1_findDoubt_17 at h
    refine J_iload_n 2 dX1_findDoubt_17 rfl ?_
    refine J_aload_n 0 dX1_findDoubt_18 rfl ?_
    refine M_getR gf_X1_15_1 dX1_findDoubt_19 (g_322_3 _) k_322 n_322 ?_
    refine M_getI gf_X1_70_0 dX1_findDoubt_22 k_3 n_3 ?_
    refine J_icmp_ge (tgt := 51) dX1_findDoubt_25 (by decide) (fun c34 => ?_) (fun c34 => ?_)
    · have h := (if_pos c34).symm.trans h
      refine J_aload_n 0 dX1_findDoubt_51 rfl ?_
      refine J_iload_n 1 dX1_findDoubt_52 rfl ?_
      refine M_putI pf_X1_79_1 dX1_findDoubt_53 k_322 n_322 ⟨rfl, rfl⟩ ?_
      refine J_iconst (v := 0) dX1_findDoubt_56 (by decide) ?_
      refine J_istore_n (i := 2) (ls' := [(2, .int 0), (0, .ref 322), (1, .int l1)]) dX1_findDoubt_57 rfl (by decide) rfl ?_
      refine J_pick [1, 2, 0] rfl ?_
      exact t_X1_findDoubt_58  _ _ _ _ _  h
    · have h := (if_neg c34).symm.trans h
      refine J_aload_n 0 dX1_findDoubt_28 rfl ?_
      refine M_getR gf_X1_15_1 dX1_findDoubt_29 (g_322_3 _) k_322 n_322 ?_
      refine J_iload_n 2 dX1_findDoubt_32 rfl ?_
      obtain ⟨r35, σ36, h37, h⟩ := bd_inv h
      refine M_callVI (d' := 3) (k := 3) (As := [.int l2]) (st := []) cv_X1_75 dX1_findDoubt_33 rfl (by decide) rfl (Nat.le_of_ble_eq_true rfl) (Nat.le_of_ble_eq_true rfl) (by decide) n_3 k_3 rfl rfl (t_X0_nameCounts  h37) ?_
      refine J_if_eq (tgt := 45) dX1_findDoubt_36 (by decide) (fun c38 => ?_) (fun c38 => ?_)
      · have h := (if_pos c38).symm.trans h
        exact t_X1_findDoubt_45 ih _ _ _ _  h
      · have h := (if_neg c38).symm.trans h
        refine J_iload_n 1 dX1_findDoubt_39 rfl ?_
        refine J_iconst (v := 1) dX1_findDoubt_40 (by decide) ?_
        refine J_iload_n 2 dX1_findDoubt_41 rfl ?_
        refine J_ishl dX1_findDoubt_42 ?_
        refine J_ior dX1_findDoubt_43 ?_
        refine J_istore_n (i := 1) (ls' := [(1, .int (l1 ||| (1 <<< (l2 &&& 31)))), (0, .ref 322), (2, .int l2)]) dX1_findDoubt_44 rfl (by decide) rfl ?_
        refine J_pick [1, 0, 2] rfl ?_
        exact t_X1_findDoubt_45 ih _ _ _ _  h
set_option maxRecDepth 20000 in
set_option maxHeartbeats 4000000 in
theorem t_X1_findDoubt  {σ : jM} {r : Unit × jM}  (h : f_X1_findDoubt  σ = some r) : J mi_X1_findDoubt 16 0 0 (jqV r) 0 [(0, .ref 322)] [] (ms σ) := by
  unfold f_X1_findDoubt at h
  refine J_aload_n 0 dX1_findDoubt_0 rfl ?_
  refine M_getI gf_X1_27_1 dX1_findDoubt_1 k_322 n_322 ?_
  refine J_if_eq (tgt := 8) dX1_findDoubt_4 (by decide) (fun c39 => ?_) (fun c39 => ?_)
  · have h := (if_pos c39).symm.trans h
    refine J_aload_n 0 dX1_findDoubt_8 rfl ?_
    refine J_iconst (v := 1) dX1_findDoubt_9 (by decide) ?_
    refine M_putI pf_X1_27_1 dX1_findDoubt_10 k_322 n_322 (jbool (Or.inr rfl)) ?_
    refine J_iconst (v := 0) dX1_findDoubt_13 (by decide) ?_
    refine J_istore_n (i := 1) (ls' := [(1, .int 0), (0, .ref 322)]) dX1_findDoubt_14 rfl (by decide) rfl ?_
    refine J_iconst (v := 0) dX1_findDoubt_15 (by decide) ?_
    refine J_istore_n (i := 2) (ls' := [(2, .int 0), (1, .int 0), (0, .ref 322)]) dX1_findDoubt_16 rfl (by decide) rfl ?_
    refine J_pick [2, 1, 0] rfl ?_
    exact t_X1_findDoubt_17  _ _ _ _ _  h
  · have h := (if_neg c39).symm.trans h
    exact J_ret (v := none) rfl ⟨dX1_findDoubt_7, rfl⟩ (jqV_mk h)
theorem dX8_rowsForNew_0 : decode cX8_rowsForNew 0 = .ok (.iconst 0, 1) := by decide +kernel
theorem dX8_rowsForNew_1 : decode cX8_rowsForNew 1 = .ok (.istore_n 1, 1) := by decide +kernel
theorem dX8_rowsForNew_2 : decode cX8_rowsForNew 2 = .ok (.iconst 0, 1) := by decide +kernel
theorem dX8_rowsForNew_3 : decode cX8_rowsForNew 3 = .ok (.istore_n 2, 1) := by decide +kernel
theorem dX8_rowsForNew_4 : decode cX8_rowsForNew 4 = .ok (.iload_n 2, 1) := by decide +kernel
theorem dX8_rowsForNew_5 : decode cX8_rowsForNew 5 = .ok (.aload_n 0, 1) := by decide +kernel
theorem dX8_rowsForNew_6 : decode cX8_rowsForNew 6 = .ok (.getfield 48, 3) := by decide +kernel
theorem dX8_rowsForNew_9 : decode cX8_rowsForNew 9 = .ok (.getfield 122, 3) := by decide +kernel
theorem dX8_rowsForNew_12 : decode cX8_rowsForNew 12 = .ok (.if_icmp .ge 28, 3) := by decide +kernel
theorem dX8_rowsForNew_15 : decode cX8_rowsForNew 15 = .ok (.aload_n 0, 1) := by decide +kernel
theorem dX8_rowsForNew_16 : decode cX8_rowsForNew 16 = .ok (.getfield 48, 3) := by decide +kernel
theorem dX8_rowsForNew_19 : decode cX8_rowsForNew 19 = .ok (.iload_n 2, 1) := by decide +kernel
theorem dX8_rowsForNew_20 : decode cX8_rowsForNew 20 = .ok (.invokevirtual 125, 3) := by decide +kernel
theorem dX8_rowsForNew_23 : decode cX8_rowsForNew 23 = .ok (.ifCond .eq 11, 3) := by decide +kernel
theorem dX8_rowsForNew_26 : decode cX8_rowsForNew 26 = .ok (.iload_n 1, 1) := by decide +kernel
theorem dX8_rowsForNew_27 : decode cX8_rowsForNew 27 = .ok (.aload_n 0, 1) := by decide +kernel
theorem dX8_rowsForNew_28 : decode cX8_rowsForNew 28 = .ok (.iload_n 2, 1) := by decide +kernel
theorem dX8_rowsForNew_29 : decode cX8_rowsForNew 29 = .ok (.invokevirtual 132, 3) := by decide +kernel
theorem dX8_rowsForNew_32 : decode cX8_rowsForNew 32 = .ok (.iadd, 1) := by decide +kernel
theorem dX8_rowsForNew_33 : decode cX8_rowsForNew 33 = .ok (.istore_n 1, 1) := by decide +kernel
theorem dX8_rowsForNew_34 : decode cX8_rowsForNew 34 = .ok (.iinc 2 1, 3) := by decide +kernel
theorem dX8_rowsForNew_37 : decode cX8_rowsForNew 37 = .ok (.goto (-33), 3) := by decide +kernel
theorem dX8_rowsForNew_40 : decode cX8_rowsForNew 40 = .ok (.iload_n 1, 1) := by decide +kernel
theorem dX8_rowsForNew_41 : decode cX8_rowsForNew 41 = .ok (.ireturn, 1) := by decide +kernel
noncomputable def f_X8_rowsForNew_34 (rec4 : Int32 → Int32 → jM → Option (Int32 × jM)) (l1 : Int32) (l2 : Int32) (σ : jM) : Option (Int32 × jM) :=
  rec4 l1 (l2 + 1) σ
noncomputable def s_X8_rowsForNew_4  (rec4 : Int32 → Int32 → jM → Option (Int32 × jM)) (l1 : Int32) (l2 : Int32) (σ : jM) : Option (Int32 × jM) :=
  (if (rI σ 3 2) ≤ l2 then some (l1, σ) else bd (f_X0_tabletCounts l2 σ) (fun r2 σ3 => (if r2 = 0 then f_X8_rowsForNew_34 rec4 l1 l2 σ3 else bd (f_X8_rowsForNewAt l2 σ3) (fun r6 σ7 => f_X8_rowsForNew_34 rec4 (l1 + r6) l2 σ7))))
noncomputable def f_X8_rowsForNew_4  (n : Nat) : Int32 → Int32 → jM → Option (Int32 × jM) := Nat.rec (motive := fun _ => Int32 → Int32 → jM → Option (Int32 × jM)) (fun _ _ _ => none) (fun _ q => s_X8_rowsForNew_4  q) n
noncomputable def f_X8_rowsForNew  (σ : jM) : Option (Int32 × jM) :=
  f_X8_rowsForNew_4  Fu 0 0 σ
set_option maxRecDepth 20000 in
set_option maxHeartbeats 4000000 in
theorem t_X8_rowsForNew_34 {rec4 : Int32 → Int32 → jM → Option (Int32 × jM)} (hrec4 : ∀ (l1 : Int32) (l2 : Int32) (σ : jM) (r : Int32 × jM), rec4 l1 l2 σ = some r → J mi_X8_rowsForNew 16 0 0 (jqI r) 4 [(0, .ref 296), (1, .int l1), (2, .int l2)] [] (ms σ)) (l1 : Int32) (l2 : Int32) (σ : jM) (r : Int32 × jM)  (h : f_X8_rowsForNew_34 rec4 l1 l2 σ = some r) : J mi_X8_rowsForNew 16 0 0 (jqI r) 34 [(0, .ref 296), (1, .int l1), (2, .int l2)] [] (ms σ) := by
  unfold f_X8_rowsForNew_34 at h
  refine J_iinc (v := (l2 + 1)) (ls' := [(2, .int (l2 + 1)), (0, .ref 296), (1, .int l1)]) 2 dX8_rowsForNew_34 rfl rfl (by decide) rfl ?_
  refine J_goto (tgt := 4) dX8_rowsForNew_37 (by decide) ?_
  refine J_pick [1, 2, 0] rfl ?_
  exact hrec4 _ _ _ _  h
set_option maxRecDepth 20000 in
set_option maxHeartbeats 4000000 in
theorem t_X8_rowsForNew_4  : ∀ (n : Nat) (l1 : Int32) (l2 : Int32) (σ : jM) (r : Int32 × jM), f_X8_rowsForNew_4  n l1 l2 σ = some r → J mi_X8_rowsForNew 16 0 0 (jqI r) 4 [(0, .ref 296), (1, .int l1), (2, .int l2)] [] (ms σ) := by
  intro n
  induction n with
  | zero =>
    intro l1 l2 σ r  h
    have h : (none : Option (Int32 × jM)) = some r := h
    cases h
  | succ n ih =>
    intro l1 l2 σ r  h
    have h : s_X8_rowsForNew_4  (f_X8_rowsForNew_4  n) l1 l2 σ = some r := h
    unfold s_X8_rowsForNew_4 at h
    refine J_iload_n 2 dX8_rowsForNew_4 rfl ?_
    refine J_aload_n 0 dX8_rowsForNew_5 rfl ?_
    refine M_getR gf_X8_48_7 dX8_rowsForNew_6 (g_296_3 _) k_296 n_296 ?_
    refine M_getI gf_X8_122_0 dX8_rowsForNew_9 k_3 n_3 ?_
    refine J_icmp_ge (tgt := 40) dX8_rowsForNew_12 (by decide) (fun c9 => ?_) (fun c9 => ?_)
    · have h := (if_pos c9).symm.trans h
      refine J_iload_n 1 dX8_rowsForNew_40 rfl ?_
      exact J_ret (v := some (.int l1)) rfl ⟨dX8_rowsForNew_41, Or.inl rfl⟩ (jqI_mk h)
    · have h := (if_neg c9).symm.trans h
      refine J_aload_n 0 dX8_rowsForNew_15 rfl ?_
      refine M_getR gf_X8_48_7 dX8_rowsForNew_16 (g_296_3 _) k_296 n_296 ?_
      refine J_iload_n 2 dX8_rowsForNew_19 rfl ?_
      obtain ⟨r10, σ11, h12, h⟩ := bd_inv h
      refine M_callVI (d' := 2) (k := 3) (As := [.int l2]) (st := []) cv_X8_125 dX8_rowsForNew_20 rfl (by decide) rfl (Nat.le_of_ble_eq_true rfl) (Nat.le_of_ble_eq_true rfl) (by decide) n_3 k_3 rfl rfl (t_X0_tabletCounts  h12) ?_
      refine J_if_eq (tgt := 34) dX8_rowsForNew_23 (by decide) (fun c13 => ?_) (fun c13 => ?_)
      · have h := (if_pos c13).symm.trans h
        exact t_X8_rowsForNew_34 ih _ _ _ _  h
      · have h := (if_neg c13).symm.trans h
        refine J_iload_n 1 dX8_rowsForNew_26 rfl ?_
        refine J_aload_n 0 dX8_rowsForNew_27 rfl ?_
        refine J_iload_n 2 dX8_rowsForNew_28 rfl ?_
        obtain ⟨r14, σ15, h16, h⟩ := bd_inv h
        refine M_callVI (d' := 15) (k := 296) (As := [.int l2]) (st := [.int l1]) cv_X8_132 dX8_rowsForNew_29 rfl (by decide) rfl (Nat.le_of_ble_eq_true rfl) (Nat.le_of_ble_eq_true rfl) (by decide) n_296 k_296 rfl rfl (t_X8_rowsForNewAt  h16) ?_
        refine J_iadd dX8_rowsForNew_32 ?_
        refine J_istore_n (i := 1) (ls' := [(1, .int (l1 + r14)), (0, .ref 296), (2, .int l2)]) dX8_rowsForNew_33 rfl (by decide) rfl ?_
        refine J_pick [1, 0, 2] rfl ?_
        exact t_X8_rowsForNew_34 ih _ _ _ _  h
set_option maxRecDepth 20000 in
set_option maxHeartbeats 4000000 in
theorem t_X8_rowsForNew  {σ : jM} {r : Int32 × jM}  (h : f_X8_rowsForNew  σ = some r) : J mi_X8_rowsForNew 16 0 0 (jqI r) 0 [(0, .ref 296)] [] (ms σ) := by
  unfold f_X8_rowsForNew at h
  refine J_iconst (v := 0) dX8_rowsForNew_0 (by decide) ?_
  refine J_istore_n (i := 1) (ls' := [(1, .int 0), (0, .ref 296)]) dX8_rowsForNew_1 rfl (by decide) rfl ?_
  refine J_iconst (v := 0) dX8_rowsForNew_2 (by decide) ?_
  refine J_istore_n (i := 2) (ls' := [(2, .int 0), (1, .int 0), (0, .ref 296)]) dX8_rowsForNew_3 rfl (by decide) rfl ?_
  refine J_pick [2, 1, 0] rfl ?_
  exact t_X8_rowsForNew_4  _ _ _ _ _  h
theorem dX11_readRules_0 : decode cX11_readRules 0 = .ok (.aload_n 0, 1) := by decide +kernel
theorem dX11_readRules_1 : decode cX11_readRules 1 = .ok (.invokevirtual 26, 3) := by decide +kernel
theorem dX11_readRules_4 : decode cX11_readRules 4 = .ok (.iconst 0, 1) := by decide +kernel
theorem dX11_readRules_5 : decode cX11_readRules 5 = .ok (.istore_n 2, 1) := by decide +kernel
theorem dX11_readRules_6 : decode cX11_readRules 6 = .ok (.iload_n 2, 1) := by decide +kernel
theorem dX11_readRules_7 : decode cX11_readRules 7 = .ok (.bipush 12, 2) := by decide +kernel
theorem dX11_readRules_9 : decode cX11_readRules 9 = .ok (.if_icmp .gt 92, 3) := by decide +kernel
theorem dX11_readRules_12 : decode cX11_readRules 12 = .ok (.aload_n 0, 1) := by decide +kernel
theorem dX11_readRules_13 : decode cX11_readRules 13 = .ok (.getfield 29, 3) := by decide +kernel
theorem dX11_readRules_16 : decode cX11_readRules 16 = .ok (.ifCond .ne 10, 3) := by decide +kernel
theorem dX11_readRules_19 : decode cX11_readRules 19 = .ok (.aload_n 1, 1) := by decide +kernel
theorem dX11_readRules_20 : decode cX11_readRules 20 = .ok (.iload_n 2, 1) := by decide +kernel
theorem dX11_readRules_21 : decode cX11_readRules 21 = .ok (.putfield 66, 3) := by decide +kernel
theorem dX11_readRules_24 : decode cX11_readRules 24 = .ok (.iconst 1, 1) := by decide +kernel
theorem dX11_readRules_25 : decode cX11_readRules 25 = .ok (.ireturn, 1) := by decide +kernel
theorem dX11_readRules_26 : decode cX11_readRules 26 = .ok (.aload_n 0, 1) := by decide +kernel
theorem dX11_readRules_27 : decode cX11_readRules 27 = .ok (.invokevirtual 71, 3) := by decide +kernel
theorem dX11_readRules_30 : decode cX11_readRules 30 = .ok (.istore_n 3, 1) := by decide +kernel
theorem dX11_readRules_31 : decode cX11_readRules 31 = .ok (.iload_n 3, 1) := by decide +kernel
theorem dX11_readRules_32 : decode cX11_readRules 32 = .ok (.iconst (-1), 1) := by decide +kernel
theorem dX11_readRules_33 : decode cX11_readRules 33 = .ok (.if_icmp .ne 9, 3) := by decide +kernel
theorem dX11_readRules_36 : decode cX11_readRules 36 = .ok (.aload_n 0, 1) := by decide +kernel
theorem dX11_readRules_37 : decode cX11_readRules 37 = .ok (.iconst 1, 1) := by decide +kernel
theorem dX11_readRules_38 : decode cX11_readRules 38 = .ok (.invokevirtual 41, 3) := by decide +kernel
theorem dX11_readRules_41 : decode cX11_readRules 41 = .ok (.ireturn, 1) := by decide +kernel
theorem dX11_readRules_42 : decode cX11_readRules 42 = .ok (.iload_n 2, 1) := by decide +kernel
theorem dX11_readRules_43 : decode cX11_readRules 43 = .ok (.bipush 12, 2) := by decide +kernel
theorem dX11_readRules_45 : decode cX11_readRules 45 = .ok (.if_icmp .ne 9, 3) := by decide +kernel
theorem dX11_readRules_48 : decode cX11_readRules 48 = .ok (.aload_n 0, 1) := by decide +kernel
theorem dX11_readRules_49 : decode cX11_readRules 49 = .ok (.iconst 3, 1) := by decide +kernel
theorem dX11_readRules_50 : decode cX11_readRules 50 = .ok (.invokevirtual 41, 3) := by decide +kernel
theorem dX11_readRules_53 : decode cX11_readRules 53 = .ok (.ireturn, 1) := by decide +kernel
theorem dX11_readRules_54 : decode cX11_readRules 54 = .ok (.aload_n 1, 1) := by decide +kernel
theorem dX11_readRules_55 : decode cX11_readRules 55 = .ok (.getfield 75, 3) := by decide +kernel
theorem dX11_readRules_58 : decode cX11_readRules 58 = .ok (.iload_n 2, 1) := by decide +kernel
theorem dX11_readRules_59 : decode cX11_readRules 59 = .ok (.iload_n 3, 1) := by decide +kernel
theorem dX11_readRules_60 : decode cX11_readRules 60 = .ok (.iastore, 1) := by decide +kernel
theorem dX11_readRules_61 : decode cX11_readRules 61 = .ok (.aload_n 0, 1) := by decide +kernel
theorem dX11_readRules_62 : decode cX11_readRules 62 = .ok (.invokevirtual 54, 3) := by decide +kernel
theorem dX11_readRules_65 : decode cX11_readRules 65 = .ok (.aload_n 0, 1) := by decide +kernel
theorem dX11_readRules_66 : decode cX11_readRules 66 = .ok (.aload_n 1, 1) := by decide +kernel
theorem dX11_readRules_67 : decode cX11_readRules 67 = .ok (.iload_n 2, 1) := by decide +kernel
theorem dX11_readRules_68 : decode cX11_readRules 68 = .ok (.invokevirtual 78, 3) := by decide +kernel
theorem dX11_readRules_71 : decode cX11_readRules 71 = .ok (.ifCond .ne 5, 3) := by decide +kernel
theorem dX11_readRules_74 : decode cX11_readRules 74 = .ok (.iconst 0, 1) := by decide +kernel
theorem dX11_readRules_75 : decode cX11_readRules 75 = .ok (.ireturn, 1) := by decide +kernel
theorem dX11_readRules_76 : decode cX11_readRules 76 = .ok (.aload_n 0, 1) := by decide +kernel
theorem dX11_readRules_77 : decode cX11_readRules 77 = .ok (.bipush 59, 2) := by decide +kernel
theorem dX11_readRules_79 : decode cX11_readRules 79 = .ok (.invokevirtual 48, 3) := by decide +kernel
theorem dX11_readRules_82 : decode cX11_readRules 82 = .ok (.ifCond .ne 9, 3) := by decide +kernel
theorem dX11_readRules_85 : decode cX11_readRules 85 = .ok (.aload_n 0, 1) := by decide +kernel
theorem dX11_readRules_86 : decode cX11_readRules 86 = .ok (.iconst 1, 1) := by decide +kernel
theorem dX11_readRules_87 : decode cX11_readRules 87 = .ok (.invokevirtual 41, 3) := by decide +kernel
theorem dX11_readRules_90 : decode cX11_readRules 90 = .ok (.ireturn, 1) := by decide +kernel
theorem dX11_readRules_91 : decode cX11_readRules 91 = .ok (.aload_n 0, 1) := by decide +kernel
theorem dX11_readRules_92 : decode cX11_readRules 92 = .ok (.invokevirtual 54, 3) := by decide +kernel
theorem dX11_readRules_95 : decode cX11_readRules 95 = .ok (.iinc 2 1, 3) := by decide +kernel
theorem dX11_readRules_98 : decode cX11_readRules 98 = .ok (.goto (-92), 3) := by decide +kernel
theorem dX11_readRules_101 : decode cX11_readRules 101 = .ok (.iconst 0, 1) := by decide +kernel
theorem dX11_readRules_102 : decode cX11_readRules 102 = .ok (.ireturn, 1) := by decide +kernel
noncomputable def s_X11_readRules_6  (rec6 : Nat → Int32 → jM → Option (Int32 × jM)) (l1 : Nat) (l2 : Int32) (σ : jM) : Option (Int32 × jM) :=
  (if 12 < l2 then some (0, σ) else (if (rI σ 262 4) = 0 then some (1, wI σ (rulX l1) 1 l2) else bd (f_X11_clauseKind  σ) (fun r4 σ5 => (if r4 = (-1) then bd (f_X11_fault 1 σ5) (fun r32 σ33 => gd (r32 = 0 ∨ r32 = 1) (some (r32, σ33))) else (if l2 = 12 then bd (f_X11_fault 3 σ5) (fun r28 σ29 => gd (r28 = 0 ∨ r28 = 1) (some (r28, σ29))) else gd (inb l2 12) (bd (f_X11_advance  (wI σ5 (rulX l1 + 1) (Int32.toNatClampNeg l2) r4)) (fun _ σ11 => bd (f_X11_readClause l1 l2 σ11) (fun r13 σ14 => (if r13 = 0 then some (0, σ14) else bd (f_X11_isByte 59 σ14) (fun r17 σ18 => (if r17 = 0 then bd (f_X11_fault 1 σ18) (fun r24 σ25 => gd (r24 = 0 ∨ r24 = 1) (some (r24, σ25))) else bd (f_X11_advance  σ18) (fun _ σ22 => rec6 l1 (l2 + 1) σ22))))))))))))
noncomputable def f_X11_readRules_6  (n : Nat) : Nat → Int32 → jM → Option (Int32 × jM) := Nat.rec (motive := fun _ => Nat → Int32 → jM → Option (Int32 × jM)) (fun _ _ _ => none) (fun _ q => s_X11_readRules_6  q) n
noncomputable def f_X11_readRules (a1 : Nat) (σ : jM) : Option (Int32 × jM) :=
  bd (f_X11_begin  σ) (fun _ σ71 => f_X11_readRules_6  Fu a1 0 σ71)
set_option maxRecDepth 20000 in
set_option maxHeartbeats 4000000 in
theorem t_X11_readRules_6  : ∀ (n : Nat) (l1 : Nat) (l2 : Int32) (σ : jM) (r : Int32 × jM), f_X11_readRules_6  n l1 l2 σ = some r → J mi_X11_readRules 10 0 0 (jqI r) 6 [(0, .ref 262), (1, .ref (rulX l1)), (2, .int l2)] [] (ms σ) := by
  intro n
  induction n with
  | zero =>
    intro l1 l2 σ r  h
    have h : (none : Option (Int32 × jM)) = some r := h
    cases h
  | succ n ih =>
    intro l1 l2 σ r  h
    have h : s_X11_readRules_6  (f_X11_readRules_6  n) l1 l2 σ = some r := h
    unfold s_X11_readRules_6 at h
    refine J_iload_n 2 dX11_readRules_6 rfl ?_
    refine J_bipush (v := 12) dX11_readRules_7 (by decide) ?_
    refine J_icmp_gt (tgt := 101) dX11_readRules_9 (by decide) (fun c36 => ?_) (fun c36 => ?_)
    · have h := (if_pos c36).symm.trans h
      refine J_iconst (v := 0) dX11_readRules_101 (by decide) ?_
      exact J_ret (v := some (.int 0)) rfl ⟨dX11_readRules_102, Or.inr (Or.inl ⟨rfl, Or.inl rfl⟩)⟩ (jqI_mk h)
    · have h := (if_neg c36).symm.trans h
      refine J_aload_n 0 dX11_readRules_12 rfl ?_
      refine M_getI gf_X11_29_10 dX11_readRules_13 k_262 n_262 ?_
      refine J_if_ne (tgt := 26) dX11_readRules_16 (by decide) (fun c37 => ?_) (fun c37 => ?_)
      · have h := (if_neg c37).symm.trans h
        refine J_aload_n 0 dX11_readRules_26 rfl ?_
        obtain ⟨r38, σ39, h40, h⟩ := bd_inv h
        refine M_callVI (d' := 7) (k := 262) (As := []) (st := []) cv_X11_71 dX11_readRules_27 rfl (by decide) rfl (Nat.le_of_ble_eq_true rfl) (Nat.le_of_ble_eq_true rfl) (by decide) n_262 k_262 rfl rfl (t_X11_clauseKind  h40) ?_
        refine J_istore_n (i := 3) (ls' := [(3, .int r38), (0, .ref 262), (1, .ref (rulX l1)), (2, .int l2)]) dX11_readRules_30 rfl (by decide) rfl ?_
        refine J_iload_n 0 dX11_readRules_31 rfl ?_
        refine J_iconst (v := (-1)) dX11_readRules_32 (by decide) ?_
        refine J_icmp_ne (tgt := 42) dX11_readRules_33 (by decide) (fun c41 => ?_) (fun c41 => ?_)
        · have h := (if_neg c41).symm.trans h
          refine J_iload_n 3 dX11_readRules_42 rfl ?_
          refine J_bipush (v := 12) dX11_readRules_43 (by decide) ?_
          refine J_icmp_ne (tgt := 54) dX11_readRules_45 (by decide) (fun c42 => ?_) (fun c42 => ?_)
          · have h := (if_neg c42).symm.trans h
            refine J_aload_n 2 dX11_readRules_54 rfl ?_
            refine M_getR gf_X11_75_6 dX11_readRules_55 (gg_rul2 _ l1) (kk_rul l1) (nn_rul l1) ?_
            refine J_iload_n 3 dX11_readRules_58 rfl ?_
            refine J_iload_n 0 dX11_readRules_59 rfl ?_
            obtain ⟨g43, h⟩ := gd_inv h
            refine M_iast dX11_readRules_60 (aa_rul2 l1) (nna_rul2 l1) g43 ?_
            refine J_aload_n 1 dX11_readRules_61 rfl ?_
            obtain ⟨_, σ45, h46, h⟩ := bd_inv h
            refine M_callVV (d' := 3) (k := 262) (As := []) (st := []) cv_X11_54 dX11_readRules_62 rfl (by decide) rfl (Nat.le_of_ble_eq_true rfl) (Nat.le_of_ble_eq_true rfl) (by decide) n_262 k_262 rfl rfl (t_X11_advance  h46) ?_
            refine J_aload_n 1 dX11_readRules_65 rfl ?_
            refine J_aload_n 2 dX11_readRules_66 rfl ?_
            refine J_iload_n 3 dX11_readRules_67 rfl ?_
            obtain ⟨r47, σ48, h49, h⟩ := bd_inv h
            refine M_callVI (d' := 9) (k := 262) (As := [.ref (rulX l1), .int l2]) (st := []) cv_X11_78 dX11_readRules_68 rfl (by decide) rfl (Nat.le_of_ble_eq_true rfl) (Nat.le_of_ble_eq_true rfl) (by decide) n_262 k_262 rfl rfl (t_X11_readClause  h49) ?_
            refine J_if_ne (tgt := 76) dX11_readRules_71 (by decide) (fun c50 => ?_) (fun c50 => ?_)
            · have h := (if_neg c50).symm.trans h
              refine J_aload_n 1 dX11_readRules_76 rfl ?_
              refine J_bipush (v := 59) dX11_readRules_77 (by decide) ?_
              obtain ⟨r51, σ52, h53, h⟩ := bd_inv h
              refine M_callVI (d' := 1) (k := 262) (As := [.int 59]) (st := []) cv_X11_48 dX11_readRules_79 rfl (by decide) rfl (Nat.le_of_ble_eq_true rfl) (Nat.le_of_ble_eq_true rfl) (by decide) n_262 k_262 rfl rfl (t_X11_isByte  h53) ?_
              refine J_if_ne (tgt := 91) dX11_readRules_82 (by decide) (fun c54 => ?_) (fun c54 => ?_)
              · have h := (if_neg c54).symm.trans h
                refine J_aload_n 1 dX11_readRules_91 rfl ?_
                obtain ⟨_, σ56, h57, h⟩ := bd_inv h
                refine M_callVV (d' := 3) (k := 262) (As := []) (st := []) cv_X11_54 dX11_readRules_92 rfl (by decide) rfl (Nat.le_of_ble_eq_true rfl) (Nat.le_of_ble_eq_true rfl) (by decide) n_262 k_262 rfl rfl (t_X11_advance  h57) ?_
                refine J_iinc (v := (l2 + 1)) (ls' := [(2, .int (l2 + 1)), (3, .int r38), (0, .ref 262), (1, .ref (rulX l1))]) 3 dX11_readRules_95 rfl rfl (by decide) rfl ?_
                refine J_goto (tgt := 6) dX11_readRules_98 (by decide) ?_
                refine J_pick [2, 3, 0] rfl ?_
                exact ih _ _ _ _  h
              · have h := (if_pos c54).symm.trans h
                refine J_aload_n 1 dX11_readRules_85 rfl ?_
                refine J_iconst (v := 1) dX11_readRules_86 (by decide) ?_
                obtain ⟨r58, σ59, h60, h⟩ := bd_inv h
                refine M_callVI (d' := 1) (k := 262) (As := [.int 1]) (st := []) cv_X11_41 dX11_readRules_87 rfl (by decide) rfl (Nat.le_of_ble_eq_true rfl) (Nat.le_of_ble_eq_true rfl) (by decide) n_262 k_262 rfl rfl (t_X11_fault  h60) ?_
                obtain ⟨g61, h⟩ := gd_inv h
                exact J_ret (v := some (.int r58)) rfl ⟨dX11_readRules_90, Or.inr (Or.inl ⟨rfl, g61⟩)⟩ (jqI_mk h)
            · have h := (if_pos c50).symm.trans h
              refine J_iconst (v := 0) dX11_readRules_74 (by decide) ?_
              exact J_ret (v := some (.int 0)) rfl ⟨dX11_readRules_75, Or.inr (Or.inl ⟨rfl, Or.inl rfl⟩)⟩ (jqI_mk h)
          · have h := (if_pos c42).symm.trans h
            refine J_aload_n 1 dX11_readRules_48 rfl ?_
            refine J_iconst (v := 3) dX11_readRules_49 (by decide) ?_
            obtain ⟨r62, σ63, h64, h⟩ := bd_inv h
            refine M_callVI (d' := 1) (k := 262) (As := [.int 3]) (st := []) cv_X11_41 dX11_readRules_50 rfl (by decide) rfl (Nat.le_of_ble_eq_true rfl) (Nat.le_of_ble_eq_true rfl) (by decide) n_262 k_262 rfl rfl (t_X11_fault  h64) ?_
            obtain ⟨g65, h⟩ := gd_inv h
            exact J_ret (v := some (.int r62)) rfl ⟨dX11_readRules_53, Or.inr (Or.inl ⟨rfl, g65⟩)⟩ (jqI_mk h)
        · have h := (if_pos c41).symm.trans h
          refine J_aload_n 1 dX11_readRules_36 rfl ?_
          refine J_iconst (v := 1) dX11_readRules_37 (by decide) ?_
          obtain ⟨r66, σ67, h68, h⟩ := bd_inv h
          refine M_callVI (d' := 1) (k := 262) (As := [.int 1]) (st := []) cv_X11_41 dX11_readRules_38 rfl (by decide) rfl (Nat.le_of_ble_eq_true rfl) (Nat.le_of_ble_eq_true rfl) (by decide) n_262 k_262 rfl rfl (t_X11_fault  h68) ?_
          obtain ⟨g69, h⟩ := gd_inv h
          exact J_ret (v := some (.int r66)) rfl ⟨dX11_readRules_41, Or.inr (Or.inl ⟨rfl, g69⟩)⟩ (jqI_mk h)
      · have h := (if_pos c37).symm.trans h
        refine J_aload_n 1 dX11_readRules_19 rfl ?_
        refine J_iload_n 2 dX11_readRules_20 rfl ?_
        refine M_putI pf_X11_66_6 dX11_readRules_21 (kk_rul l1) (nn_rul l1) ⟨rfl, rfl⟩ ?_
        refine J_iconst (v := 1) dX11_readRules_24 (by decide) ?_
        exact J_ret (v := some (.int 1)) rfl ⟨dX11_readRules_25, Or.inr (Or.inl ⟨rfl, Or.inr rfl⟩)⟩ (jqI_mk h)
set_option maxRecDepth 20000 in
set_option maxHeartbeats 4000000 in
theorem t_X11_readRules {a1 : Nat} {σ : jM} {r : Int32 × jM}  (h : f_X11_readRules a1 σ = some r) : J mi_X11_readRules 10 0 0 (jqI r) 0 [(0, .ref 262), (1, .ref (rulX a1))] [] (ms σ) := by
  unfold f_X11_readRules at h
  refine J_aload_n 0 dX11_readRules_0 rfl ?_
  obtain ⟨_, σ71, h72, h⟩ := bd_inv h
  refine M_callVV (d' := 4) (k := 262) (As := []) (st := []) cv_X11_26 dX11_readRules_1 rfl (by decide) rfl (Nat.le_of_ble_eq_true rfl) (Nat.le_of_ble_eq_true rfl) (by decide) n_262 k_262 rfl rfl (t_X11_begin  h72) ?_
  refine J_iconst (v := 0) dX11_readRules_4 (by decide) ?_
  refine J_istore_n (i := 2) (ls' := [(2, .int 0), (0, .ref 262), (1, .ref (rulX a1))]) dX11_readRules_5 rfl (by decide) rfl ?_
  refine J_pick [1, 2, 0] rfl ?_
  exact t_X11_readRules_6  _ _ _ _ _  h
theorem dX12_rules_0 : decode cX12_rules 0 = .ok (.aload_n 0, 1) := by decide +kernel
theorem dX12_rules_1 : decode cX12_rules 1 = .ok (.getfield 19, 3) := by decide +kernel
theorem dX12_rules_4 : decode cX12_rules 4 = .ok (.getfield 100, 3) := by decide +kernel
theorem dX12_rules_7 : decode cX12_rules 7 = .ok (.istore_n 1, 1) := by decide +kernel
theorem dX12_rules_8 : decode cX12_rules 8 = .ok (.iload_n 1, 1) := by decide +kernel
theorem dX12_rules_9 : decode cX12_rules 9 = .ok (.bipush 10, 2) := by decide +kernel
theorem dX12_rules_11 : decode cX12_rules 11 = .ok (.if_icmp .lt 5, 3) := by decide +kernel
theorem dX12_rules_14 : decode cX12_rules 14 = .ok (.iconst (-1), 1) := by decide +kernel
theorem dX12_rules_15 : decode cX12_rules 15 = .ok (.ireturn, 1) := by decide +kernel
theorem dX12_rules_16 : decode cX12_rules 16 = .ok (.aload_n 0, 1) := by decide +kernel
theorem dX12_rules_17 : decode cX12_rules 17 = .ok (.getfield 19, 3) := by decide +kernel
theorem dX12_rules_20 : decode cX12_rules 20 = .ok (.getfield 103, 3) := by decide +kernel
theorem dX12_rules_23 : decode cX12_rules 23 = .ok (.iload_n 1, 1) := by decide +kernel
theorem dX12_rules_24 : decode cX12_rules 24 = .ok (.aaload, 1) := by decide +kernel
theorem dX12_rules_25 : decode cX12_rules 25 = .ok (.astore_n 2, 1) := by decide +kernel
theorem dX12_rules_26 : decode cX12_rules 26 = .ok (.aload_n 0, 1) := by decide +kernel
theorem dX12_rules_27 : decode cX12_rules 27 = .ok (.getfield 26, 3) := by decide +kernel
theorem dX12_rules_30 : decode cX12_rules 30 = .ok (.aload_n 2, 1) := by decide +kernel
theorem dX12_rules_31 : decode cX12_rules 31 = .ok (.invokevirtual 107, 3) := by decide +kernel
theorem dX12_rules_34 : decode cX12_rules 34 = .ok (.istore_n 3, 1) := by decide +kernel
theorem dX12_rules_35 : decode cX12_rules 35 = .ok (.aload_n 0, 1) := by decide +kernel
theorem dX12_rules_36 : decode cX12_rules 36 = .ok (.getfield 26, 3) := by decide +kernel
theorem dX12_rules_39 : decode cX12_rules 39 = .ok (.iconst 0, 1) := by decide +kernel
theorem dX12_rules_40 : decode cX12_rules 40 = .ok (.putfield 71, 3) := by decide +kernel
theorem dX12_rules_43 : decode cX12_rules 43 = .ok (.iload_n 3, 1) := by decide +kernel
theorem dX12_rules_44 : decode cX12_rules 44 = .ok (.ifCond .ne 13, 3) := by decide +kernel
theorem dX12_rules_47 : decode cX12_rules 47 = .ok (.iconst (-1), 1) := by decide +kernel
theorem dX12_rules_48 : decode cX12_rules 48 = .ok (.aload_n 0, 1) := by decide +kernel
theorem dX12_rules_49 : decode cX12_rules 49 = .ok (.getfield 26, 3) := by decide +kernel
theorem dX12_rules_52 : decode cX12_rules 52 = .ok (.getfield 89, 3) := by decide +kernel
theorem dX12_rules_55 : decode cX12_rules 55 = .ok (.isub, 1) := by decide +kernel
theorem dX12_rules_56 : decode cX12_rules 56 = .ok (.ireturn, 1) := by decide +kernel
theorem dX12_rules_57 : decode cX12_rules 57 = .ok (.aload_n 2, 1) := by decide +kernel
theorem dX12_rules_58 : decode cX12_rules 58 = .ok (.aload_n 0, 1) := by decide +kernel
theorem dX12_rules_59 : decode cX12_rules 59 = .ok (.getfield 19, 3) := by decide +kernel
theorem dX12_rules_62 : decode cX12_rules 62 = .ok (.getfield 66, 3) := by decide +kernel
theorem dX12_rules_65 : decode cX12_rules 65 = .ok (.putfield 111, 3) := by decide +kernel
theorem dX12_rules_68 : decode cX12_rules 68 = .ok (.aload_n 0, 1) := by decide +kernel
theorem dX12_rules_69 : decode cX12_rules 69 = .ok (.getfield 19, 3) := by decide +kernel
theorem dX12_rules_72 : decode cX12_rules 72 = .ok (.dup, 1) := by decide +kernel
theorem dX12_rules_73 : decode cX12_rules 73 = .ok (.getfield 100, 3) := by decide +kernel
theorem dX12_rules_76 : decode cX12_rules 76 = .ok (.iconst 1, 1) := by decide +kernel
theorem dX12_rules_77 : decode cX12_rules 77 = .ok (.iadd, 1) := by decide +kernel
theorem dX12_rules_78 : decode cX12_rules 78 = .ok (.putfield 100, 3) := by decide +kernel
theorem dX12_rules_81 : decode cX12_rules 81 = .ok (.aload_n 0, 1) := by decide +kernel
theorem dX12_rules_82 : decode cX12_rules 82 = .ok (.invokevirtual 97, 3) := by decide +kernel
theorem dX12_rules_85 : decode cX12_rules 85 = .ok (.aload_n 2, 1) := by decide +kernel
theorem dX12_rules_86 : decode cX12_rules 86 = .ok (.getfield 116, 3) := by decide +kernel
theorem dX12_rules_89 : decode cX12_rules 89 = .ok (.ireturn, 1) := by decide +kernel
noncomputable def f_X12_rules  (σ : jM) : Option (Int32 × jM) :=
  (if (rI σ 3 4) < 10 then gd (inb (rI σ 3 4) 10) (bd (f_X11_readRules (Int32.toNatClampNeg (rI σ 3 4)) σ) (fun r4 σ5 => (if r4 = 0 then some (((-1) - (rI (wI σ5 262 1 0) 262 2)), wI σ5 262 1 0) else bd (f_X12_forgetView  (wI (wI (wI σ5 262 1 0) (rulX (Int32.toNatClampNeg (rI σ 3 4))) 0 (rI (wI σ5 262 1 0) 3 0)) 3 4 ((rI (wI (wI σ5 262 1 0) (rulX (Int32.toNatClampNeg (rI σ 3 4))) 0 (rI (wI σ5 262 1 0) 3 0)) 3 4) + 1))) (fun _ σ9 => some ((rI σ9 (rulX (Int32.toNatClampNeg (rI σ 3 4))) 1), σ9))))) else some ((-1), σ))
set_option maxRecDepth 20000 in
set_option maxHeartbeats 4000000 in
theorem t_X12_rules  {σ : jM} {r : Int32 × jM}  (h : f_X12_rules  σ = some r) : J mi_X12_rules 11 0 0 (jqI r) 0 [(0, .ref 0)] [] (ms σ) := by
  unfold f_X12_rules at h
  refine J_aload_n 0 dX12_rules_0 rfl ?_
  refine M_getR gf_X12_19_11 dX12_rules_1 (g_0_0 _) k_0 n_0 ?_
  refine M_getI gf_X12_100_0 dX12_rules_4 k_3 n_3 ?_
  refine J_istore_n (i := 1) (ls' := [(1, .int (rI σ 3 4)), (0, .ref 0)]) dX12_rules_7 rfl (by decide) rfl ?_
  refine J_iload_n 0 dX12_rules_8 rfl ?_
  refine J_bipush (v := 10) dX12_rules_9 (by decide) ?_
  refine J_icmp_lt (tgt := 16) dX12_rules_11 (by decide) (fun c2 => ?_) (fun c2 => ?_)
  · have h := (if_pos c2).symm.trans h
    refine J_aload_n 1 dX12_rules_16 rfl ?_
    refine M_getR gf_X12_19_11 dX12_rules_17 (g_0_0 _) k_0 n_0 ?_
    refine M_getR gf_X12_103_0 dX12_rules_20 (g_3_3 _) k_3 n_3 ?_
    refine J_iload_n 0 dX12_rules_23 rfl ?_
    obtain ⟨g3, h⟩ := gd_inv h
    refine M_aald dX12_rules_24 a_5 (by decide) n_5 g3 (r_rul _ g3.2) ?_
    refine J_astore_n (i := 2) (ls' := [(2, .ref (rulX (Int32.toNatClampNeg (rI σ 3 4)))), (1, .int (rI σ 3 4)), (0, .ref 0)]) dX12_rules_25 rfl (by decide) rfl ?_
    refine J_aload_n 2 dX12_rules_26 rfl ?_
    refine M_getR gf_X12_26_11 dX12_rules_27 (g_0_1 _) k_0 n_0 ?_
    refine J_aload_n 0 dX12_rules_30 rfl ?_
    obtain ⟨r4, σ5, h6, h⟩ := bd_inv h
    refine M_callVI (d' := 10) (k := 262) (As := [.ref (rulX (Int32.toNatClampNeg (rI σ 3 4)))]) (st := []) cv_X12_107 dX12_rules_31 rfl (by decide) rfl (Nat.le_of_ble_eq_true rfl) (Nat.le_of_ble_eq_true rfl) (by decide) n_262 k_262 rfl rfl (t_X11_readRules  h6) ?_
    refine J_istore_n (i := 3) (ls' := [(3, .int r4), (2, .ref (rulX (Int32.toNatClampNeg (rI σ 3 4)))), (1, .int (rI σ 3 4)), (0, .ref 0)]) dX12_rules_34 rfl (by decide) rfl ?_
    refine J_aload_n 3 dX12_rules_35 rfl ?_
    refine M_getR gf_X12_26_11 dX12_rules_36 (g_0_1 _) k_0 n_0 ?_
    refine J_iconst (v := 0) dX12_rules_39 (by decide) ?_
    refine M_putI pf_X12_71_10 dX12_rules_40 k_262 n_262 ⟨rfl, rfl⟩ ?_
    refine J_iload_n 0 dX12_rules_43 rfl ?_
    refine J_if_ne (tgt := 57) dX12_rules_44 (by decide) (fun c7 => ?_) (fun c7 => ?_)
    · have h := (if_neg c7).symm.trans h
      refine J_aload_n 1 dX12_rules_57 rfl ?_
      refine J_aload_n 3 dX12_rules_58 rfl ?_
      refine M_getR gf_X12_19_11 dX12_rules_59 (g_0_0 _) k_0 n_0 ?_
      refine M_getI gf_X12_66_0 dX12_rules_62 k_3 n_3 ?_
      refine M_putI pf_X12_111_6 dX12_rules_65 (kk_rul (Int32.toNatClampNeg (rI σ 3 4))) (nn_rul (Int32.toNatClampNeg (rI σ 3 4))) ⟨rfl, rfl⟩ ?_
      refine J_aload_n 3 dX12_rules_68 rfl ?_
      refine M_getR gf_X12_19_11 dX12_rules_69 (g_0_0 _) k_0 n_0 ?_
      refine J_dup dX12_rules_72 rfl ?_
      refine M_getI gf_X12_100_0 dX12_rules_73 k_3 n_3 ?_
      refine J_iconst (v := 1) dX12_rules_76 (by decide) ?_
      refine J_iadd dX12_rules_77 ?_
      refine M_putI pf_X12_100_0 dX12_rules_78 k_3 n_3 ⟨rfl, rfl⟩ ?_
      refine J_aload_n 3 dX12_rules_81 rfl ?_
      obtain ⟨_, σ9, h10, h⟩ := bd_inv h
      refine M_callVV (d' := 1) (k := 0) (As := []) (st := []) cv_X12_97 dX12_rules_82 rfl (by decide) rfl (Nat.le_of_ble_eq_true rfl) (Nat.le_of_ble_eq_true rfl) (by decide) n_0 k_0 rfl rfl (t_X12_forgetView  h10) ?_
      refine J_aload_n 1 dX12_rules_85 rfl ?_
      refine M_getI gf_X12_116_6 dX12_rules_86 (kk_rul (Int32.toNatClampNeg (rI σ 3 4))) (nn_rul (Int32.toNatClampNeg (rI σ 3 4))) ?_
      exact J_ret (v := some (.int (rI σ9 (rulX (Int32.toNatClampNeg (rI σ 3 4))) 1))) rfl ⟨dX12_rules_89, Or.inl rfl⟩ (jqI_mk h)
    · have h := (if_pos c7).symm.trans h
      refine J_iconst (v := (-1)) dX12_rules_47 (by decide) ?_
      refine J_aload_n 3 dX12_rules_48 rfl ?_
      refine M_getR gf_X12_26_11 dX12_rules_49 (g_0_1 _) k_0 n_0 ?_
      refine M_getI gf_X12_89_10 dX12_rules_52 k_262 n_262 ?_
      refine J_isub dX12_rules_55 ?_
      exact J_ret (v := some (.int ((-1) - (rI (wI σ5 262 1 0) 262 2)))) rfl ⟨dX12_rules_56, Or.inl rfl⟩ (jqI_mk h)
  · have h := (if_neg c2).symm.trans h
    refine J_iconst (v := (-1)) dX12_rules_14 (by decide) ?_
    exact J_ret (v := some (.int (-1))) rfl ⟨dX12_rules_15, Or.inl rfl⟩ (jqI_mk h)
theorem dX12_ways_0 : decode cX12_ways 0 = .ok (.aload_n 0, 1) := by decide +kernel
theorem dX12_ways_1 : decode cX12_ways 1 = .ok (.iload_n 1, 1) := by decide +kernel
theorem dX12_ways_2 : decode cX12_ways 2 = .ok (.invokevirtual 228, 3) := by decide +kernel
theorem dX12_ways_5 : decode cX12_ways 5 = .ok (.ifCond .ne 5, 3) := by decide +kernel
theorem dX12_ways_8 : decode cX12_ways 8 = .ok (.iconst (-1), 1) := by decide +kernel
theorem dX12_ways_9 : decode cX12_ways 9 = .ok (.ireturn, 1) := by decide +kernel
theorem dX12_ways_10 : decode cX12_ways 10 = .ok (.aload_n 0, 1) := by decide +kernel
theorem dX12_ways_11 : decode cX12_ways 11 = .ok (.getfield 62, 3) := by decide +kernel
theorem dX12_ways_14 : decode cX12_ways 14 = .ok (.invokevirtual 291, 3) := by decide +kernel
theorem dX12_ways_17 : decode cX12_ways 17 = .ok (.aload_n 0, 1) := by decide +kernel
theorem dX12_ways_18 : decode cX12_ways 18 = .ok (.getfield 62, 3) := by decide +kernel
theorem dX12_ways_21 : decode cX12_ways 21 = .ok (.getfield 294, 3) := by decide +kernel
theorem dX12_ways_24 : decode cX12_ways 24 = .ok (.ireturn, 1) := by decide +kernel
noncomputable def f_X12_ways (a1 : Int32) (σ : jM) : Option (Int32 × jM) :=
  bd (f_X12_seeGrid a1 σ) (fun r1 σ2 => (if r1 = 0 then some ((-1), σ2) else bd (f_X1_countWays  σ2) (fun _ σ6 => some ((rI σ6 322 0), σ6))))
set_option maxRecDepth 20000 in
set_option maxHeartbeats 4000000 in
theorem t_X12_ways {a1 : Int32} {σ : jM} {r : Int32 × jM}  (h : f_X12_ways a1 σ = some r) : J mi_X12_ways 17 0 0 (jqI r) 0 [(0, .ref 0), (1, .int a1)] [] (ms σ) := by
  unfold f_X12_ways at h
  refine J_aload_n 0 dX12_ways_0 rfl ?_
  refine J_iload_n 1 dX12_ways_1 rfl ?_
  obtain ⟨r1, σ2, h3, h⟩ := bd_inv h
  refine M_callVI (d' := 7) (k := 0) (As := [.int a1]) (st := []) cv_X12_228 dX12_ways_2 rfl (by decide) rfl (Nat.le_of_ble_eq_true rfl) (Nat.le_of_ble_eq_true rfl) (by decide) n_0 k_0 rfl rfl (t_X12_seeGrid  h3) ?_
  refine J_if_ne (tgt := 10) dX12_ways_5 (by decide) (fun c4 => ?_) (fun c4 => ?_)
  · have h := (if_neg c4).symm.trans h
    refine J_aload_n 0 dX12_ways_10 rfl ?_
    refine M_getR gf_X12_62_11 dX12_ways_11 (g_0_5 _) k_0 n_0 ?_
    obtain ⟨_, σ6, h7, h⟩ := bd_inv h
    refine M_callVV (d' := 16) (k := 322) (As := []) (st := []) cv_X12_291 dX12_ways_14 rfl (by decide) rfl (Nat.le_of_ble_eq_true rfl) (Nat.le_of_ble_eq_true rfl) (by decide) n_322 k_322 rfl rfl (t_X1_countWays  h7) ?_
    refine J_aload_n 0 dX12_ways_17 rfl ?_
    refine M_getR gf_X12_62_11 dX12_ways_18 (g_0_5 _) k_0 n_0 ?_
    refine M_getI gf_X12_294_1 dX12_ways_21 k_322 n_322 ?_
    exact J_ret (v := some (.int (rI σ6 322 0))) rfl ⟨dX12_ways_24, Or.inl rfl⟩ (jqI_mk h)
  · have h := (if_pos c4).symm.trans h
    refine J_iconst (v := (-1)) dX12_ways_8 (by decide) ?_
    exact J_ret (v := some (.int (-1))) rfl ⟨dX12_ways_9, Or.inl rfl⟩ (jqI_mk h)
theorem dX12_forced_0 : decode cX12_forced 0 = .ok (.iload_n 2, 1) := by decide +kernel
theorem dX12_forced_1 : decode cX12_forced 1 = .ok (.invokestatic 144, 3) := by decide +kernel
theorem dX12_forced_4 : decode cX12_forced 4 = .ok (.ifCond .eq 11, 3) := by decide +kernel
theorem dX12_forced_7 : decode cX12_forced 7 = .ok (.aload_n 0, 1) := by decide +kernel
theorem dX12_forced_8 : decode cX12_forced 8 = .ok (.iload_n 1, 1) := by decide +kernel
theorem dX12_forced_9 : decode cX12_forced 9 = .ok (.invokevirtual 228, 3) := by decide +kernel
theorem dX12_forced_12 : decode cX12_forced 12 = .ok (.ifCond .ne 5, 3) := by decide +kernel
theorem dX12_forced_15 : decode cX12_forced 15 = .ok (.iconst (-1), 1) := by decide +kernel
theorem dX12_forced_16 : decode cX12_forced 16 = .ok (.ireturn, 1) := by decide +kernel
theorem dX12_forced_17 : decode cX12_forced 17 = .ok (.aload_n 0, 1) := by decide +kernel
theorem dX12_forced_18 : decode cX12_forced 18 = .ok (.getfield 62, 3) := by decide +kernel
theorem dX12_forced_21 : decode cX12_forced 21 = .ok (.invokevirtual 291, 3) := by decide +kernel
theorem dX12_forced_24 : decode cX12_forced 24 = .ok (.aload_n 0, 1) := by decide +kernel
theorem dX12_forced_25 : decode cX12_forced 25 = .ok (.getfield 62, 3) := by decide +kernel
theorem dX12_forced_28 : decode cX12_forced 28 = .ok (.aload_n 0, 1) := by decide +kernel
theorem dX12_forced_29 : decode cX12_forced 29 = .ok (.getfield 19, 3) := by decide +kernel
theorem dX12_forced_32 : decode cX12_forced 32 = .ok (.getfield 205, 3) := by decide +kernel
theorem dX12_forced_35 : decode cX12_forced 35 = .ok (.iload_n 2, 1) := by decide +kernel
theorem dX12_forced_36 : decode cX12_forced 36 = .ok (.iaload, 1) := by decide +kernel
theorem dX12_forced_37 : decode cX12_forced 37 = .ok (.invokevirtual 306, 3) := by decide +kernel
theorem dX12_forced_40 : decode cX12_forced 40 = .ok (.ireturn, 1) := by decide +kernel
noncomputable def f_X12_forced_15   (σ : jM) : Option (Int32 × jM) :=
  some ((-1), σ)
noncomputable def f_X12_forced (a1 : Int32) (a2 : Int32) (σ : jM) : Option (Int32 × jM) :=
  bd (f_X12_isSign a2 σ) (fun r2 σ3 => (if r2 = 0 then f_X12_forced_15   σ3 else bd (f_X12_seeGrid a1 σ3) (fun r6 σ7 => (if r6 = 0 then f_X12_forced_15   σ7 else bd (f_X1_countWays  σ7) (fun _ σ11 => gd (inb a2 40) (bd (f_X1_forcedCell (rI σ11 18 (Int32.toNatClampNeg a2)) σ11) (fun r14 σ15 => some (r14, σ15))))))))
set_option maxRecDepth 20000 in
set_option maxHeartbeats 4000000 in
theorem t_X12_forced_15   (σ : jM) (r : Int32 × jM)  (h : f_X12_forced_15   σ = some r) : J mi_X12_forced 17 0 0 (jqI r) 15 [] [] (ms σ) := by
  unfold f_X12_forced_15 at h
  refine J_iconst (v := (-1)) dX12_forced_15 (by decide) ?_
  exact J_ret (v := some (.int (-1))) rfl ⟨dX12_forced_16, Or.inl rfl⟩ (jqI_mk h)
set_option maxRecDepth 20000 in
set_option maxHeartbeats 4000000 in
theorem t_X12_forced {a1 : Int32} {a2 : Int32} {σ : jM} {r : Int32 × jM}  (h : f_X12_forced a1 a2 σ = some r) : J mi_X12_forced 17 0 0 (jqI r) 0 [(0, .ref 0), (1, .int a1), (2, .int a2)] [] (ms σ) := by
  unfold f_X12_forced at h
  refine J_iload_n 2 dX12_forced_0 rfl ?_
  obtain ⟨r2, σ3, h4, h⟩ := bd_inv h
  refine M_callSI (d' := 1) (As := [.int a2]) (st := []) cs_X12_144 dX12_forced_1 rfl (Nat.le_of_ble_eq_true rfl) (Nat.le_of_ble_eq_true rfl) (by decide) rfl rfl (t_X12_isSign  h4) ?_
  refine J_if_eq (tgt := 15) dX12_forced_4 (by decide) (fun c5 => ?_) (fun c5 => ?_)
  · have h := (if_pos c5).symm.trans h
    refine J_pick [] rfl ?_
    exact t_X12_forced_15   _ _  h
  · have h := (if_neg c5).symm.trans h
    refine J_aload_n 0 dX12_forced_7 rfl ?_
    refine J_iload_n 1 dX12_forced_8 rfl ?_
    obtain ⟨r6, σ7, h8, h⟩ := bd_inv h
    refine M_callVI (d' := 7) (k := 0) (As := [.int a1]) (st := []) cv_X12_228 dX12_forced_9 rfl (by decide) rfl (Nat.le_of_ble_eq_true rfl) (Nat.le_of_ble_eq_true rfl) (by decide) n_0 k_0 rfl rfl (t_X12_seeGrid  h8) ?_
    refine J_if_ne (tgt := 17) dX12_forced_12 (by decide) (fun c9 => ?_) (fun c9 => ?_)
    · have h := (if_neg c9).symm.trans h
      refine J_aload_n 0 dX12_forced_17 rfl ?_
      refine M_getR gf_X12_62_11 dX12_forced_18 (g_0_5 _) k_0 n_0 ?_
      obtain ⟨_, σ11, h12, h⟩ := bd_inv h
      refine M_callVV (d' := 16) (k := 322) (As := []) (st := []) cv_X12_291 dX12_forced_21 rfl (by decide) rfl (Nat.le_of_ble_eq_true rfl) (Nat.le_of_ble_eq_true rfl) (by decide) n_322 k_322 rfl rfl (t_X1_countWays  h12) ?_
      refine J_aload_n 0 dX12_forced_24 rfl ?_
      refine M_getR gf_X12_62_11 dX12_forced_25 (g_0_5 _) k_0 n_0 ?_
      refine J_aload_n 0 dX12_forced_28 rfl ?_
      refine M_getR gf_X12_19_11 dX12_forced_29 (g_0_0 _) k_0 n_0 ?_
      refine M_getR gf_X12_205_0 dX12_forced_32 (g_3_11 _) k_3 n_3 ?_
      refine J_iload_n 2 dX12_forced_35 rfl ?_
      obtain ⟨g13, h⟩ := gd_inv h
      refine M_iald dX12_forced_36 a_18 n_18 g13 ?_
      obtain ⟨r14, σ15, h16, h⟩ := bd_inv h
      refine M_callVI (d' := 3) (k := 322) (As := [.int (rI σ11 18 (Int32.toNatClampNeg a2))]) (st := []) cv_X12_306 dX12_forced_37 rfl (by decide) rfl (Nat.le_of_ble_eq_true rfl) (Nat.le_of_ble_eq_true rfl) (by decide) n_322 k_322 rfl rfl (t_X1_forcedCell  h16) ?_
      exact J_ret (v := some (.int r14)) rfl ⟨dX12_forced_40, Or.inl rfl⟩ (jqI_mk h)
    · have h := (if_pos c9).symm.trans h
      refine J_pick [] rfl ?_
      exact t_X12_forced_15   _ _  h
theorem dX12_reads_0 : decode cX12_reads 0 = .ok (.aload_n 0, 1) := by decide +kernel
theorem dX12_reads_1 : decode cX12_reads 1 = .ok (.getfield 19, 3) := by decide +kernel
theorem dX12_reads_4 : decode cX12_reads 4 = .ok (.iload_n 2, 1) := by decide +kernel
theorem dX12_reads_5 : decode cX12_reads 5 = .ok (.iload_n 3, 1) := by decide +kernel
theorem dX12_reads_6 : decode cX12_reads 6 = .ok (.invokevirtual 208, 3) := by decide +kernel
theorem dX12_reads_9 : decode cX12_reads 9 = .ok (.ifCond .eq 11, 3) := by decide +kernel
theorem dX12_reads_12 : decode cX12_reads 12 = .ok (.aload_n 0, 1) := by decide +kernel
theorem dX12_reads_13 : decode cX12_reads 13 = .ok (.iload_n 1, 1) := by decide +kernel
theorem dX12_reads_14 : decode cX12_reads 14 = .ok (.invokevirtual 228, 3) := by decide +kernel
theorem dX12_reads_17 : decode cX12_reads 17 = .ok (.ifCond .ne 5, 3) := by decide +kernel
theorem dX12_reads_20 : decode cX12_reads 20 = .ok (.iconst (-1), 1) := by decide +kernel
theorem dX12_reads_21 : decode cX12_reads 21 = .ok (.ireturn, 1) := by decide +kernel
theorem dX12_reads_22 : decode cX12_reads 22 = .ok (.aload_n 0, 1) := by decide +kernel
theorem dX12_reads_23 : decode cX12_reads 23 = .ok (.getfield 62, 3) := by decide +kernel
theorem dX12_reads_26 : decode cX12_reads 26 = .ok (.invokevirtual 291, 3) := by decide +kernel
theorem dX12_reads_29 : decode cX12_reads 29 = .ok (.aload_n 0, 1) := by decide +kernel
theorem dX12_reads_30 : decode cX12_reads 30 = .ok (.getfield 19, 3) := by decide +kernel
theorem dX12_reads_33 : decode cX12_reads 33 = .ok (.getfield 81, 3) := by decide +kernel
theorem dX12_reads_36 : decode cX12_reads 36 = .ok (.iload_n 2, 1) := by decide +kernel
theorem dX12_reads_37 : decode cX12_reads 37 = .ok (.aaload, 1) := by decide +kernel
theorem dX12_reads_38 : decode cX12_reads 38 = .ok (.astore 4, 2) := by decide +kernel
theorem dX12_reads_40 : decode cX12_reads 40 = .ok (.aload_n 0, 1) := by decide +kernel
theorem dX12_reads_41 : decode cX12_reads 41 = .ok (.iconst 0, 1) := by decide +kernel
theorem dX12_reads_42 : decode cX12_reads 42 = .ok (.putfield 309, 3) := by decide +kernel
theorem dX12_reads_45 : decode cX12_reads 45 = .ok (.iconst 0, 1) := by decide +kernel
theorem dX12_reads_46 : decode cX12_reads 46 = .ok (.istore 5, 2) := by decide +kernel
theorem dX12_reads_48 : decode cX12_reads 48 = .ok (.iload 5, 2) := by decide +kernel
theorem dX12_reads_50 : decode cX12_reads 50 = .ok (.aload 4, 2) := by decide +kernel
theorem dX12_reads_52 : decode cX12_reads 52 = .ok (.getfield 219, 3) := by decide +kernel
theorem dX12_reads_55 : decode cX12_reads 55 = .ok (.iload_n 3, 1) := by decide +kernel
theorem dX12_reads_56 : decode cX12_reads 56 = .ok (.iaload, 1) := by decide +kernel
theorem dX12_reads_57 : decode cX12_reads 57 = .ok (.if_icmp .ge 50, 3) := by decide +kernel
theorem dX12_reads_60 : decode cX12_reads 60 = .ok (.aload 4, 2) := by decide +kernel
theorem dX12_reads_62 : decode cX12_reads 62 = .ok (.iload_n 3, 1) := by decide +kernel
theorem dX12_reads_63 : decode cX12_reads 63 = .ok (.iload 5, 2) := by decide +kernel
theorem dX12_reads_65 : decode cX12_reads 65 = .ok (.invokevirtual 224, 3) := by decide +kernel
theorem dX12_reads_68 : decode cX12_reads 68 = .ok (.istore 6, 2) := by decide +kernel
theorem dX12_reads_70 : decode cX12_reads 70 = .ok (.aload_n 0, 1) := by decide +kernel
theorem dX12_reads_71 : decode cX12_reads 71 = .ok (.iload 6, 2) := by decide +kernel
theorem dX12_reads_73 : decode cX12_reads 73 = .ok (.iconst (-1), 1) := by decide +kernel
theorem dX12_reads_74 : decode cX12_reads 74 = .ok (.if_icmp .ne 7, 3) := by decide +kernel
theorem dX12_reads_77 : decode cX12_reads 77 = .ok (.iconst (-1), 1) := by decide +kernel
theorem dX12_reads_78 : decode cX12_reads 78 = .ok (.goto 20, 3) := by decide +kernel
theorem dX12_reads_81 : decode cX12_reads 81 = .ok (.aload_n 0, 1) := by decide +kernel
theorem dX12_reads_82 : decode cX12_reads 82 = .ok (.getfield 62, 3) := by decide +kernel
theorem dX12_reads_85 : decode cX12_reads 85 = .ok (.aload_n 0, 1) := by decide +kernel
theorem dX12_reads_86 : decode cX12_reads 86 = .ok (.getfield 19, 3) := by decide +kernel
theorem dX12_reads_89 : decode cX12_reads 89 = .ok (.getfield 205, 3) := by decide +kernel
theorem dX12_reads_92 : decode cX12_reads 92 = .ok (.iload 6, 2) := by decide +kernel
theorem dX12_reads_94 : decode cX12_reads 94 = .ok (.iaload, 1) := by decide +kernel
theorem dX12_reads_95 : decode cX12_reads 95 = .ok (.invokevirtual 306, 3) := by decide +kernel
theorem dX12_reads_98 : decode cX12_reads 98 = .ok (.invokevirtual 312, 3) := by decide +kernel
theorem dX12_reads_101 : decode cX12_reads 101 = .ok (.iinc 5 1, 3) := by decide +kernel
theorem dX12_reads_104 : decode cX12_reads 104 = .ok (.goto (-56), 3) := by decide +kernel
theorem dX12_reads_107 : decode cX12_reads 107 = .ok (.aload_n 0, 1) := by decide +kernel
theorem dX12_reads_108 : decode cX12_reads 108 = .ok (.getfield 309, 3) := by decide +kernel
theorem dX12_reads_111 : decode cX12_reads 111 = .ok (.ireturn, 1) := by decide +kernel
noncomputable def f_X12_reads_20   (σ : jM) : Option (Int32 × jM) :=
  some ((-1), σ)
noncomputable def f_X12_reads_98 (rec48 : Int32 → Nat → Int32 → jM → Option (Int32 × jM)) (l3 : Int32) (l4 : Nat) (l5 : Int32) (s1 : Int32) (σ : jM) : Option (Int32 × jM) :=
  bd (f_X12_writeCell s1 σ) (fun _ σ5 => rec48 l3 l4 (l5 + 1) σ5)
noncomputable def s_X12_reads_48  (rec48 : Int32 → Nat → Int32 → jM → Option (Int32 × jM)) (l3 : Int32) (l4 : Nat) (l5 : Int32) (σ : jM) : Option (Int32 × jM) :=
  gd (inb l3 8) ((if (rI σ (tabX l4 + 1) (Int32.toNatClampNeg l3)) ≤ l5 then some ((rI σ 0 7), σ) else bd (f_X10_signAt l4 l3 l5 σ) (fun r12 σ13 => (if r12 = (-1) then f_X12_reads_98 rec48 l3 l4 l5 (-1) σ13 else gd (inb r12 40) (bd (f_X1_forcedCell (rI σ13 18 (Int32.toNatClampNeg r12)) σ13) (fun r17 σ18 => f_X12_reads_98 rec48 l3 l4 l5 r17 σ18))))))
noncomputable def f_X12_reads_48  (n : Nat) : Int32 → Nat → Int32 → jM → Option (Int32 × jM) := Nat.rec (motive := fun _ => Int32 → Nat → Int32 → jM → Option (Int32 × jM)) (fun _ _ _ _ => none) (fun _ q => s_X12_reads_48  q) n
noncomputable def f_X12_reads (a1 : Int32) (a2 : Int32) (a3 : Int32) (σ : jM) : Option (Int32 × jM) :=
  bd (f_X0_hasWord a2 a3 σ) (fun r30 σ31 => (if r30 = 0 then f_X12_reads_20   σ31 else bd (f_X12_seeGrid a1 σ31) (fun r34 σ35 => (if r34 = 0 then f_X12_reads_20   σ35 else bd (f_X1_countWays  σ35) (fun _ σ39 => gd (inb a2 24) (f_X12_reads_48  Fu a3 (Int32.toNatClampNeg a2) 0 (wI σ39 0 7 0)))))))
set_option maxRecDepth 20000 in
set_option maxHeartbeats 4000000 in
theorem t_X12_reads_20   (σ : jM) (r : Int32 × jM)  (h : f_X12_reads_20   σ = some r) : J mi_X12_reads 17 0 0 (jqI r) 20 [] [] (ms σ) := by
  unfold f_X12_reads_20 at h
  refine J_iconst (v := (-1)) dX12_reads_20 (by decide) ?_
  exact J_ret (v := some (.int (-1))) rfl ⟨dX12_reads_21, Or.inl rfl⟩ (jqI_mk h)
set_option maxRecDepth 20000 in
set_option maxHeartbeats 4000000 in
theorem t_X12_reads_98 {rec48 : Int32 → Nat → Int32 → jM → Option (Int32 × jM)} (hrec48 : ∀ (l3 : Int32) (l4 : Nat) (l5 : Int32) (σ : jM) (r : Int32 × jM), l4 < 24 → rec48 l3 l4 l5 σ = some r → J mi_X12_reads 17 0 0 (jqI r) 48 [(0, .ref 0), (3, .int l3), (4, .ref (tabX l4)), (5, .int l5)] [] (ms σ)) (l3 : Int32) (l4 : Nat) (l5 : Int32) (s1 : Int32) (σ : jM) (r : Int32 × jM) (hl4 : l4 < 24) (h : f_X12_reads_98 rec48 l3 l4 l5 s1 σ = some r) : J mi_X12_reads 17 0 0 (jqI r) 98 [(0, .ref 0), (3, .int l3), (4, .ref (tabX l4)), (5, .int l5)] [.int s1, .ref 0] (ms σ) := by
  unfold f_X12_reads_98 at h
  obtain ⟨_, σ8, h9, h⟩ := bd_inv h
  refine M_callVV (d' := 6) (k := 0) (As := [.int s1]) (st := []) cv_X12_312 dX12_reads_98 rfl (by decide) rfl (Nat.le_of_ble_eq_true rfl) (Nat.le_of_ble_eq_true rfl) (by decide) n_0 k_0 rfl rfl (t_X12_writeCell  h9) ?_
  refine J_iinc (v := (l5 + 1)) (ls' := [(5, .int (l5 + 1)), (0, .ref 0), (3, .int l3), (4, .ref (tabX l4))]) 3 dX12_reads_101 rfl rfl (by decide) rfl ?_
  refine J_goto (tgt := 48) dX12_reads_104 (by decide) ?_
  refine J_pick [1, 2, 3, 0] rfl ?_
  exact hrec48 _ _ _ _ _ hl4 h
set_option maxRecDepth 20000 in
set_option maxHeartbeats 4000000 in
theorem t_X12_reads_48  : ∀ (n : Nat) (l3 : Int32) (l4 : Nat) (l5 : Int32) (σ : jM) (r : Int32 × jM), l4 < 24 → f_X12_reads_48  n l3 l4 l5 σ = some r → J mi_X12_reads 17 0 0 (jqI r) 48 [(0, .ref 0), (3, .int l3), (4, .ref (tabX l4)), (5, .int l5)] [] (ms σ) := by
  intro n
  induction n with
  | zero =>
    intro l3 l4 l5 σ r hl4 h
    have h : (none : Option (Int32 × jM)) = some r := h
    cases h
  | succ n ih =>
    intro l3 l4 l5 σ r hl4 h
    have h : s_X12_reads_48  (f_X12_reads_48  n) l3 l4 l5 σ = some r := h
    unfold s_X12_reads_48 at h
    refine J_iload 3 dX12_reads_48 rfl ?_
    refine J_aload 2 dX12_reads_50 rfl ?_
    refine M_getR gf_X12_219_9 dX12_reads_52 (g_tab3 _ hl4) (k_tab hl4) (n_tab hl4) ?_
    refine J_iload_n 1 dX12_reads_55 rfl ?_
    obtain ⟨g20, h⟩ := gd_inv h
    refine M_iald dX12_reads_56 (a_tab3 hl4) (na_tab3 hl4) g20 ?_
    refine J_icmp_ge (tgt := 107) dX12_reads_57 (by decide) (fun c21 => ?_) (fun c21 => ?_)
    · have h := (if_pos c21).symm.trans h
      refine J_aload_n 0 dX12_reads_107 rfl ?_
      refine M_getI gf_X12_309_11 dX12_reads_108 k_0 n_0 ?_
      exact J_ret (v := some (.int (rI σ 0 7))) rfl ⟨dX12_reads_111, Or.inl rfl⟩ (jqI_mk h)
    · have h := (if_neg c21).symm.trans h
      refine J_aload 2 dX12_reads_60 rfl ?_
      refine J_iload_n 1 dX12_reads_62 rfl ?_
      refine J_iload 3 dX12_reads_63 rfl ?_
      obtain ⟨r22, σ23, h24, h⟩ := bd_inv h
      refine M_callVI (d' := 1) (k := (tabX l4)) (As := [.int l3, .int l5]) (st := []) cv_X12_224 dX12_reads_65 rfl (by decide) rfl (Nat.le_of_ble_eq_true rfl) (Nat.le_of_ble_eq_true rfl) (by decide) (n_tab hl4) (k_tab hl4) rfl rfl (t_X10_signAt hl4 h24) ?_
      refine J_istore (i := 6) (ls' := [(6, .int r22), (0, .ref 0), (3, .int l3), (4, .ref (tabX l4)), (5, .int l5)]) dX12_reads_68 (by decide) rfl ?_
      refine J_aload_n 1 dX12_reads_70 rfl ?_
      refine J_iload 0 dX12_reads_71 rfl ?_
      refine J_iconst (v := (-1)) dX12_reads_73 (by decide) ?_
      refine J_icmp_ne (tgt := 81) dX12_reads_74 (by decide) (fun c25 => ?_) (fun c25 => ?_)
      · have h := (if_neg c25).symm.trans h
        refine J_aload_n 1 dX12_reads_81 rfl ?_
        refine M_getR gf_X12_62_11 dX12_reads_82 (g_0_5 _) k_0 n_0 ?_
        refine J_aload_n 1 dX12_reads_85 rfl ?_
        refine M_getR gf_X12_19_11 dX12_reads_86 (g_0_0 _) k_0 n_0 ?_
        refine M_getR gf_X12_205_0 dX12_reads_89 (g_3_11 _) k_3 n_3 ?_
        refine J_iload 0 dX12_reads_92 rfl ?_
        obtain ⟨g26, h⟩ := gd_inv h
        refine M_iald dX12_reads_94 a_18 n_18 g26 ?_
        obtain ⟨r27, σ28, h29, h⟩ := bd_inv h
        refine M_callVI (d' := 3) (k := 322) (As := [.int (rI σ23 18 (Int32.toNatClampNeg r22))]) (st := [.ref 0]) cv_X12_306 dX12_reads_95 rfl (by decide) rfl (Nat.le_of_ble_eq_true rfl) (Nat.le_of_ble_eq_true rfl) (by decide) n_322 k_322 rfl rfl (t_X1_forcedCell  h29) ?_
        refine J_pick [1, 2, 3, 4] rfl ?_
        exact t_X12_reads_98 ih _ _ _ _ _ _ hl4 h
      · have h := (if_pos c25).symm.trans h
        refine J_iconst (v := (-1)) dX12_reads_77 (by decide) ?_
        refine J_goto (tgt := 98) dX12_reads_78 (by decide) ?_
        refine J_pick [1, 2, 3, 4] rfl ?_
        exact t_X12_reads_98 ih _ _ _ _ _ _ hl4 h
set_option maxRecDepth 20000 in
set_option maxHeartbeats 4000000 in
theorem t_X12_reads {a1 : Int32} {a2 : Int32} {a3 : Int32} {σ : jM} {r : Int32 × jM}  (h : f_X12_reads a1 a2 a3 σ = some r) : J mi_X12_reads 17 0 0 (jqI r) 0 [(0, .ref 0), (1, .int a1), (2, .int a2), (3, .int a3)] [] (ms σ) := by
  unfold f_X12_reads at h
  refine J_aload_n 0 dX12_reads_0 rfl ?_
  refine M_getR gf_X12_19_11 dX12_reads_1 (g_0_0 _) k_0 n_0 ?_
  refine J_iload_n 2 dX12_reads_4 rfl ?_
  refine J_iload_n 3 dX12_reads_5 rfl ?_
  obtain ⟨r30, σ31, h32, h⟩ := bd_inv h
  refine M_callVI (d' := 2) (k := 3) (As := [.int a2, .int a3]) (st := []) cv_X12_208 dX12_reads_6 rfl (by decide) rfl (Nat.le_of_ble_eq_true rfl) (Nat.le_of_ble_eq_true rfl) (by decide) n_3 k_3 rfl rfl (t_X0_hasWord  h32) ?_
  refine J_if_eq (tgt := 20) dX12_reads_9 (by decide) (fun c33 => ?_) (fun c33 => ?_)
  · have h := (if_pos c33).symm.trans h
    refine J_pick [] rfl ?_
    exact t_X12_reads_20   _ _  h
  · have h := (if_neg c33).symm.trans h
    refine J_aload_n 0 dX12_reads_12 rfl ?_
    refine J_iload_n 1 dX12_reads_13 rfl ?_
    obtain ⟨r34, σ35, h36, h⟩ := bd_inv h
    refine M_callVI (d' := 7) (k := 0) (As := [.int a1]) (st := []) cv_X12_228 dX12_reads_14 rfl (by decide) rfl (Nat.le_of_ble_eq_true rfl) (Nat.le_of_ble_eq_true rfl) (by decide) n_0 k_0 rfl rfl (t_X12_seeGrid  h36) ?_
    refine J_if_ne (tgt := 22) dX12_reads_17 (by decide) (fun c37 => ?_) (fun c37 => ?_)
    · have h := (if_neg c37).symm.trans h
      refine J_aload_n 0 dX12_reads_22 rfl ?_
      refine M_getR gf_X12_62_11 dX12_reads_23 (g_0_5 _) k_0 n_0 ?_
      obtain ⟨_, σ39, h40, h⟩ := bd_inv h
      refine M_callVV (d' := 16) (k := 322) (As := []) (st := []) cv_X12_291 dX12_reads_26 rfl (by decide) rfl (Nat.le_of_ble_eq_true rfl) (Nat.le_of_ble_eq_true rfl) (by decide) n_322 k_322 rfl rfl (t_X1_countWays  h40) ?_
      refine J_aload_n 0 dX12_reads_29 rfl ?_
      refine M_getR gf_X12_19_11 dX12_reads_30 (g_0_0 _) k_0 n_0 ?_
      refine M_getR gf_X12_81_0 dX12_reads_33 (g_3_1 _) k_3 n_3 ?_
      refine J_iload_n 2 dX12_reads_36 rfl ?_
      obtain ⟨g41, h⟩ := gd_inv h
      refine M_aald dX12_reads_37 a_4 (by decide) n_4 g41 (r_tab _ g41.2) ?_
      refine J_astore (i := 4) (ls' := [(4, .ref (tabX (Int32.toNatClampNeg a2))), (0, .ref 0), (1, .int a1), (2, .int a2), (3, .int a3)]) dX12_reads_38 (by decide) rfl ?_
      refine J_aload_n 1 dX12_reads_40 rfl ?_
      refine J_iconst (v := 0) dX12_reads_41 (by decide) ?_
      refine M_putI pf_X12_309_11 dX12_reads_42 k_0 n_0 ⟨rfl, rfl⟩ ?_
      refine J_iconst (v := 0) dX12_reads_45 (by decide) ?_
      refine J_istore (i := 5) (ls' := [(5, .int 0), (4, .ref (tabX (Int32.toNatClampNeg a2))), (0, .ref 0), (1, .int a1), (2, .int a2), (3, .int a3)]) dX12_reads_46 (by decide) rfl ?_
      refine J_pick [2, 5, 1, 0] rfl ?_
      exact t_X12_reads_48  _ _ _ _ _ _ g41.2 h
    · have h := (if_pos c37).symm.trans h
      refine J_pick [] rfl ?_
      exact t_X12_reads_20   _ _  h
theorem dX12_settles_0 : decode cX12_settles 0 = .ok (.iload_n 2, 1) := by decide +kernel
theorem dX12_settles_1 : decode cX12_settles 1 = .ok (.ifCond .lt 16, 3) := by decide +kernel
theorem dX12_settles_4 : decode cX12_settles 4 = .ok (.iload_n 2, 1) := by decide +kernel
theorem dX12_settles_5 : decode cX12_settles 5 = .ok (.iconst 1, 1) := by decide +kernel
theorem dX12_settles_6 : decode cX12_settles 6 = .ok (.if_icmp .gt 11, 3) := by decide +kernel
theorem dX12_settles_9 : decode cX12_settles 9 = .ok (.aload_n 0, 1) := by decide +kernel
theorem dX12_settles_10 : decode cX12_settles 10 = .ok (.iload_n 1, 1) := by decide +kernel
theorem dX12_settles_11 : decode cX12_settles 11 = .ok (.invokevirtual 228, 3) := by decide +kernel
theorem dX12_settles_14 : decode cX12_settles 14 = .ok (.ifCond .ne 5, 3) := by decide +kernel
theorem dX12_settles_17 : decode cX12_settles 17 = .ok (.iconst (-1), 1) := by decide +kernel
theorem dX12_settles_18 : decode cX12_settles 18 = .ok (.ireturn, 1) := by decide +kernel
theorem dX12_settles_19 : decode cX12_settles 19 = .ok (.aload_n 0, 1) := by decide +kernel
theorem dX12_settles_20 : decode cX12_settles 20 = .ok (.getfield 62, 3) := by decide +kernel
theorem dX12_settles_23 : decode cX12_settles 23 = .ok (.invokevirtual 291, 3) := by decide +kernel
theorem dX12_settles_26 : decode cX12_settles 26 = .ok (.aload_n 0, 1) := by decide +kernel
theorem dX12_settles_27 : decode cX12_settles 27 = .ok (.getfield 62, 3) := by decide +kernel
theorem dX12_settles_30 : decode cX12_settles 30 = .ok (.getfield 294, 3) := by decide +kernel
theorem dX12_settles_33 : decode cX12_settles 33 = .ok (.ifCond .ne 5, 3) := by decide +kernel
theorem dX12_settles_36 : decode cX12_settles 36 = .ok (.iconst (-1), 1) := by decide +kernel
theorem dX12_settles_37 : decode cX12_settles 37 = .ok (.ireturn, 1) := by decide +kernel
theorem dX12_settles_38 : decode cX12_settles 38 = .ok (.aload_n 0, 1) := by decide +kernel
theorem dX12_settles_39 : decode cX12_settles 39 = .ok (.getfield 62, 3) := by decide +kernel
theorem dX12_settles_42 : decode cX12_settles 42 = .ok (.invokevirtual 315, 3) := by decide +kernel
theorem dX12_settles_45 : decode cX12_settles 45 = .ok (.istore_n 3, 1) := by decide +kernel
theorem dX12_settles_46 : decode cX12_settles 46 = .ok (.iload_n 2, 1) := by decide +kernel
theorem dX12_settles_47 : decode cX12_settles 47 = .ok (.ifCond .ne 7, 3) := by decide +kernel
theorem dX12_settles_50 : decode cX12_settles 50 = .ok (.iload_n 3, 1) := by decide +kernel
theorem dX12_settles_51 : decode cX12_settles 51 = .ok (.goto 11, 3) := by decide +kernel
theorem dX12_settles_54 : decode cX12_settles 54 = .ok (.aload_n 0, 1) := by decide +kernel
theorem dX12_settles_55 : decode cX12_settles 55 = .ok (.getfield 62, 3) := by decide +kernel
theorem dX12_settles_58 : decode cX12_settles 58 = .ok (.iload_n 3, 1) := by decide +kernel
theorem dX12_settles_59 : decode cX12_settles 59 = .ok (.invokevirtual 319, 3) := by decide +kernel
theorem dX12_settles_62 : decode cX12_settles 62 = .ok (.ireturn, 1) := by decide +kernel
noncomputable def f_X12_settles_17   (σ : jM) : Option (Int32 × jM) :=
  some ((-1), σ)
noncomputable def f_X12_settles_62  (s0 : Int32) (σ : jM) : Option (Int32 × jM) :=
  some (s0, σ)
noncomputable def f_X12_settles (a1 : Int32) (a2 : Int32) (σ : jM) : Option (Int32 × jM) :=
  (if a2 < 0 then f_X12_settles_17   σ else (if 1 < a2 then f_X12_settles_17   σ else bd (f_X12_seeGrid a1 σ) (fun r3 σ4 => (if r3 = 0 then f_X12_settles_17   σ4 else bd (f_X1_countWays  σ4) (fun _ σ8 => (if (rI σ8 322 0) = 0 then some ((-1), σ8) else bd (f_X1_settlingSign  σ8) (fun r11 σ12 => (if a2 = 0 then f_X12_settles_62  r11 σ12 else bd (f_X1_mostAgreeing r11 σ12) (fun r15 σ16 => f_X12_settles_62  r15 σ16)))))))))
set_option maxRecDepth 20000 in
set_option maxHeartbeats 4000000 in
theorem t_X12_settles_17   (σ : jM) (r : Int32 × jM)  (h : f_X12_settles_17   σ = some r) : J mi_X12_settles 17 0 0 (jqI r) 17 [] [] (ms σ) := by
  unfold f_X12_settles_17 at h
  refine J_iconst (v := (-1)) dX12_settles_17 (by decide) ?_
  exact J_ret (v := some (.int (-1))) rfl ⟨dX12_settles_18, Or.inl rfl⟩ (jqI_mk h)
set_option maxRecDepth 20000 in
set_option maxHeartbeats 4000000 in
theorem t_X12_settles_62  (s0 : Int32) (σ : jM) (r : Int32 × jM)  (h : f_X12_settles_62  s0 σ = some r) : J mi_X12_settles 17 0 0 (jqI r) 62 [] [.int s0] (ms σ) := by
  unfold f_X12_settles_62 at h
  exact J_ret (v := some (.int s0)) rfl ⟨dX12_settles_62, Or.inl rfl⟩ (jqI_mk h)
set_option maxRecDepth 20000 in
set_option maxHeartbeats 4000000 in
theorem t_X12_settles {a1 : Int32} {a2 : Int32} {σ : jM} {r : Int32 × jM}  (h : f_X12_settles a1 a2 σ = some r) : J mi_X12_settles 17 0 0 (jqI r) 0 [(0, .ref 0), (1, .int a1), (2, .int a2)] [] (ms σ) := by
  unfold f_X12_settles at h
  refine J_iload_n 2 dX12_settles_0 rfl ?_
  refine J_if_lt (tgt := 17) dX12_settles_1 (by decide) (fun c1 => ?_) (fun c1 => ?_)
  · have h := (if_pos c1).symm.trans h
    refine J_pick [] rfl ?_
    exact t_X12_settles_17   _ _  h
  · have h := (if_neg c1).symm.trans h
    refine J_iload_n 2 dX12_settles_4 rfl ?_
    refine J_iconst (v := 1) dX12_settles_5 (by decide) ?_
    refine J_icmp_gt (tgt := 17) dX12_settles_6 (by decide) (fun c2 => ?_) (fun c2 => ?_)
    · have h := (if_pos c2).symm.trans h
      refine J_pick [] rfl ?_
      exact t_X12_settles_17   _ _  h
    · have h := (if_neg c2).symm.trans h
      refine J_aload_n 0 dX12_settles_9 rfl ?_
      refine J_iload_n 1 dX12_settles_10 rfl ?_
      obtain ⟨r3, σ4, h5, h⟩ := bd_inv h
      refine M_callVI (d' := 7) (k := 0) (As := [.int a1]) (st := []) cv_X12_228 dX12_settles_11 rfl (by decide) rfl (Nat.le_of_ble_eq_true rfl) (Nat.le_of_ble_eq_true rfl) (by decide) n_0 k_0 rfl rfl (t_X12_seeGrid  h5) ?_
      refine J_if_ne (tgt := 19) dX12_settles_14 (by decide) (fun c6 => ?_) (fun c6 => ?_)
      · have h := (if_neg c6).symm.trans h
        refine J_aload_n 0 dX12_settles_19 rfl ?_
        refine M_getR gf_X12_62_11 dX12_settles_20 (g_0_5 _) k_0 n_0 ?_
        obtain ⟨_, σ8, h9, h⟩ := bd_inv h
        refine M_callVV (d' := 16) (k := 322) (As := []) (st := []) cv_X12_291 dX12_settles_23 rfl (by decide) rfl (Nat.le_of_ble_eq_true rfl) (Nat.le_of_ble_eq_true rfl) (by decide) n_322 k_322 rfl rfl (t_X1_countWays  h9) ?_
        refine J_aload_n 0 dX12_settles_26 rfl ?_
        refine M_getR gf_X12_62_11 dX12_settles_27 (g_0_5 _) k_0 n_0 ?_
        refine M_getI gf_X12_294_1 dX12_settles_30 k_322 n_322 ?_
        refine J_if_ne (tgt := 38) dX12_settles_33 (by decide) (fun c10 => ?_) (fun c10 => ?_)
        · have h := (if_neg c10).symm.trans h
          refine J_aload_n 0 dX12_settles_38 rfl ?_
          refine M_getR gf_X12_62_11 dX12_settles_39 (g_0_5 _) k_0 n_0 ?_
          obtain ⟨r11, σ12, h13, h⟩ := bd_inv h
          refine M_callVI (d' := 3) (k := 322) (As := []) (st := []) cv_X12_315 dX12_settles_42 rfl (by decide) rfl (Nat.le_of_ble_eq_true rfl) (Nat.le_of_ble_eq_true rfl) (by decide) n_322 k_322 rfl rfl (t_X1_settlingSign  h13) ?_
          refine J_istore_n (i := 3) (ls' := [(3, .int r11), (0, .ref 0), (1, .int a1), (2, .int a2)]) dX12_settles_45 rfl (by decide) rfl ?_
          refine J_iload_n 3 dX12_settles_46 rfl ?_
          refine J_if_ne (tgt := 54) dX12_settles_47 (by decide) (fun c14 => ?_) (fun c14 => ?_)
          · have h := (if_neg c14).symm.trans h
            refine J_aload_n 1 dX12_settles_54 rfl ?_
            refine M_getR gf_X12_62_11 dX12_settles_55 (g_0_5 _) k_0 n_0 ?_
            refine J_iload_n 0 dX12_settles_58 rfl ?_
            obtain ⟨r15, σ16, h17, h⟩ := bd_inv h
            refine M_callVI (d' := 2) (k := 322) (As := [.int r11]) (st := []) cv_X12_319 dX12_settles_59 rfl (by decide) rfl (Nat.le_of_ble_eq_true rfl) (Nat.le_of_ble_eq_true rfl) (by decide) n_322 k_322 rfl rfl (t_X1_mostAgreeing  h17) ?_
            refine J_pick [] rfl ?_
            exact t_X12_settles_62  _ _ _  h
          · have h := (if_pos c14).symm.trans h
            refine J_iload_n 0 dX12_settles_50 rfl ?_
            refine J_goto (tgt := 62) dX12_settles_51 (by decide) ?_
            refine J_pick [] rfl ?_
            exact t_X12_settles_62  _ _ _  h
        · have h := (if_pos c10).symm.trans h
          refine J_iconst (v := (-1)) dX12_settles_36 (by decide) ?_
          exact J_ret (v := some (.int (-1))) rfl ⟨dX12_settles_37, Or.inl rfl⟩ (jqI_mk h)
      · have h := (if_pos c6).symm.trans h
        refine J_pick [] rfl ?_
        exact t_X12_settles_17   _ _  h
theorem dX12_fits_0 : decode cX12_fits 0 = .ok (.aload_n 0, 1) := by decide +kernel
theorem dX12_fits_1 : decode cX12_fits 1 = .ok (.getfield 26, 3) := by decide +kernel
theorem dX12_fits_4 : decode cX12_fits 4 = .ok (.invokevirtual 175, 3) := by decide +kernel
theorem dX12_fits_7 : decode cX12_fits 7 = .ok (.ifCond .eq 11, 3) := by decide +kernel
theorem dX12_fits_10 : decode cX12_fits 10 = .ok (.aload_n 0, 1) := by decide +kernel
theorem dX12_fits_11 : decode cX12_fits 11 = .ok (.iload_n 1, 1) := by decide +kernel
theorem dX12_fits_12 : decode cX12_fits 12 = .ok (.invokevirtual 228, 3) := by decide +kernel
theorem dX12_fits_15 : decode cX12_fits 15 = .ok (.ifCond .ne 5, 3) := by decide +kernel
theorem dX12_fits_18 : decode cX12_fits 18 = .ok (.iconst (-1), 1) := by decide +kernel
theorem dX12_fits_19 : decode cX12_fits 19 = .ok (.ireturn, 1) := by decide +kernel
theorem dX12_fits_20 : decode cX12_fits 20 = .ok (.aload_n 0, 1) := by decide +kernel
theorem dX12_fits_21 : decode cX12_fits 21 = .ok (.getfield 53, 3) := by decide +kernel
theorem dX12_fits_24 : decode cX12_fits 24 = .ok (.iconst 0, 1) := by decide +kernel
theorem dX12_fits_25 : decode cX12_fits 25 = .ok (.invokevirtual 325, 3) := by decide +kernel
theorem dX12_fits_28 : decode cX12_fits 28 = .ok (.aload_n 0, 1) := by decide +kernel
theorem dX12_fits_29 : decode cX12_fits 29 = .ok (.getfield 53, 3) := by decide +kernel
theorem dX12_fits_32 : decode cX12_fits 32 = .ok (.aload_n 0, 1) := by decide +kernel
theorem dX12_fits_33 : decode cX12_fits 33 = .ok (.getfield 26, 3) := by decide +kernel
theorem dX12_fits_36 : decode cX12_fits 36 = .ok (.getfield 183, 3) := by decide +kernel
theorem dX12_fits_39 : decode cX12_fits 39 = .ok (.aload_n 0, 1) := by decide +kernel
theorem dX12_fits_40 : decode cX12_fits 40 = .ok (.getfield 26, 3) := by decide +kernel
theorem dX12_fits_43 : decode cX12_fits 43 = .ok (.getfield 71, 3) := by decide +kernel
theorem dX12_fits_46 : decode cX12_fits 46 = .ok (.invokevirtual 328, 3) := by decide +kernel
theorem dX12_fits_49 : decode cX12_fits 49 = .ok (.aload_n 0, 1) := by decide +kernel
theorem dX12_fits_50 : decode cX12_fits 50 = .ok (.getfield 26, 3) := by decide +kernel
theorem dX12_fits_53 : decode cX12_fits 53 = .ok (.iconst 0, 1) := by decide +kernel
theorem dX12_fits_54 : decode cX12_fits 54 = .ok (.putfield 71, 3) := by decide +kernel
theorem dX12_fits_57 : decode cX12_fits 57 = .ok (.aload_n 0, 1) := by decide +kernel
theorem dX12_fits_58 : decode cX12_fits 58 = .ok (.getfield 53, 3) := by decide +kernel
theorem dX12_fits_61 : decode cX12_fits 61 = .ok (.invokevirtual 336, 3) := by decide +kernel
theorem dX12_fits_64 : decode cX12_fits 64 = .ok (.ireturn, 1) := by decide +kernel
noncomputable def f_X12_fits_18   (σ : jM) : Option (Int32 × jM) :=
  some ((-1), σ)
noncomputable def f_X12_fits (a1 : Int32) (σ : jM) : Option (Int32 × jM) :=
  bd (f_X11_isName  σ) (fun r1 σ2 => (if r1 = 0 then f_X12_fits_18   σ2 else bd (f_X12_seeGrid a1 σ2) (fun r5 σ6 => (if r5 = 0 then f_X12_fits_18   σ6 else bd (f_X8_seatNames 0 σ6) (fun _ σ10 => bd (f_X8_seatNew 263 (rI σ10 262 1) σ10) (fun _ σ13 => bd (f_X8_rowsForNew  (wI σ13 262 1 0)) (fun r15 σ16 => some (r15, σ16))))))))
set_option maxRecDepth 20000 in
set_option maxHeartbeats 4000000 in
theorem t_X12_fits_18   (σ : jM) (r : Int32 × jM)  (h : f_X12_fits_18   σ = some r) : J mi_X12_fits 17 0 0 (jqI r) 18 [] [] (ms σ) := by
  unfold f_X12_fits_18 at h
  refine J_iconst (v := (-1)) dX12_fits_18 (by decide) ?_
  exact J_ret (v := some (.int (-1))) rfl ⟨dX12_fits_19, Or.inl rfl⟩ (jqI_mk h)
set_option maxRecDepth 20000 in
set_option maxHeartbeats 4000000 in
theorem t_X12_fits {a1 : Int32} {σ : jM} {r : Int32 × jM}  (h : f_X12_fits a1 σ = some r) : J mi_X12_fits 17 0 0 (jqI r) 0 [(0, .ref 0), (1, .int a1)] [] (ms σ) := by
  unfold f_X12_fits at h
  refine J_aload_n 0 dX12_fits_0 rfl ?_
  refine M_getR gf_X12_26_11 dX12_fits_1 (g_0_1 _) k_0 n_0 ?_
  obtain ⟨r1, σ2, h3, h⟩ := bd_inv h
  refine M_callVI (d' := 2) (k := 262) (As := []) (st := []) cv_X12_175 dX12_fits_4 rfl (by decide) rfl (Nat.le_of_ble_eq_true rfl) (Nat.le_of_ble_eq_true rfl) (by decide) n_262 k_262 rfl rfl (t_X11_isName  h3) ?_
  refine J_if_eq (tgt := 18) dX12_fits_7 (by decide) (fun c4 => ?_) (fun c4 => ?_)
  · have h := (if_pos c4).symm.trans h
    refine J_pick [] rfl ?_
    exact t_X12_fits_18   _ _  h
  · have h := (if_neg c4).symm.trans h
    refine J_aload_n 0 dX12_fits_10 rfl ?_
    refine J_iload_n 1 dX12_fits_11 rfl ?_
    obtain ⟨r5, σ6, h7, h⟩ := bd_inv h
    refine M_callVI (d' := 7) (k := 0) (As := [.int a1]) (st := []) cv_X12_228 dX12_fits_12 rfl (by decide) rfl (Nat.le_of_ble_eq_true rfl) (Nat.le_of_ble_eq_true rfl) (by decide) n_0 k_0 rfl rfl (t_X12_seeGrid  h7) ?_
    refine J_if_ne (tgt := 20) dX12_fits_15 (by decide) (fun c8 => ?_) (fun c8 => ?_)
    · have h := (if_neg c8).symm.trans h
      refine J_aload_n 0 dX12_fits_20 rfl ?_
      refine M_getR gf_X12_53_11 dX12_fits_21 (g_0_4 _) k_0 n_0 ?_
      refine J_iconst (v := 0) dX12_fits_24 (by decide) ?_
      obtain ⟨_, σ10, h11, h⟩ := bd_inv h
      refine M_callVV (d' := 4) (k := 296) (As := [.int 0]) (st := []) cv_X12_325 dX12_fits_25 rfl (by decide) rfl (Nat.le_of_ble_eq_true rfl) (Nat.le_of_ble_eq_true rfl) (by decide) n_296 k_296 rfl rfl (t_X8_seatNames  h11) ?_
      refine J_aload_n 0 dX12_fits_28 rfl ?_
      refine M_getR gf_X12_53_11 dX12_fits_29 (g_0_4 _) k_0 n_0 ?_
      refine J_aload_n 0 dX12_fits_32 rfl ?_
      refine M_getR gf_X12_26_11 dX12_fits_33 (g_0_1 _) k_0 n_0 ?_
      refine M_getR gf_X12_183_10 dX12_fits_36 (g_262_0 _) k_262 n_262 ?_
      refine J_aload_n 0 dX12_fits_39 rfl ?_
      refine M_getR gf_X12_26_11 dX12_fits_40 (g_0_1 _) k_0 n_0 ?_
      refine M_getI gf_X12_71_10 dX12_fits_43 k_262 n_262 ?_
      obtain ⟨_, σ13, h14, h⟩ := bd_inv h
      refine M_callVV (d' := 4) (k := 296) (As := [.ref 263, .int (rI σ10 262 1)]) (st := []) cv_X12_328 dX12_fits_46 rfl (by decide) rfl (Nat.le_of_ble_eq_true rfl) (Nat.le_of_ble_eq_true rfl) (by decide) n_296 k_296 rfl rfl (t_X8_seatNew ⟨congrArg Prod.fst a_263, n_263⟩ h14) ?_
      refine J_aload_n 0 dX12_fits_49 rfl ?_
      refine M_getR gf_X12_26_11 dX12_fits_50 (g_0_1 _) k_0 n_0 ?_
      refine J_iconst (v := 0) dX12_fits_53 (by decide) ?_
      refine M_putI pf_X12_71_10 dX12_fits_54 k_262 n_262 ⟨rfl, rfl⟩ ?_
      refine J_aload_n 0 dX12_fits_57 rfl ?_
      refine M_getR gf_X12_53_11 dX12_fits_58 (g_0_4 _) k_0 n_0 ?_
      obtain ⟨r15, σ16, h17, h⟩ := bd_inv h
      refine M_callVI (d' := 16) (k := 296) (As := []) (st := []) cv_X12_336 dX12_fits_61 rfl (by decide) rfl (Nat.le_of_ble_eq_true rfl) (Nat.le_of_ble_eq_true rfl) (by decide) n_296 k_296 rfl rfl (t_X8_rowsForNew  h17) ?_
      exact J_ret (v := some (.int r15)) rfl ⟨dX12_fits_64, Or.inl rfl⟩ (jqI_mk h)
    · have h := (if_pos c8).symm.trans h
      refine J_pick [] rfl ?_
      exact t_X12_fits_18   _ _  h
