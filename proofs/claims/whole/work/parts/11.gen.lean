theorem dX5_hear_0 : decode cX5_hear 0 = .ok (.aload_n 0, 1) := by decide +kernel
theorem dX5_hear_1 : decode cX5_hear 1 = .ok (.getfield 15, 3) := by decide +kernel
theorem dX5_hear_4 : decode cX5_hear 4 = .ok (.aload_n 0, 1) := by decide +kernel
theorem dX5_hear_5 : decode cX5_hear 5 = .ok (.getfield 40, 3) := by decide +kernel
theorem dX5_hear_8 : decode cX5_hear 8 = .ok (.iload_n 1, 1) := by decide +kernel
theorem dX5_hear_9 : decode cX5_hear 9 = .ok (.iastore, 1) := by decide +kernel
theorem dX5_hear_10 : decode cX5_hear 10 = .ok (.aload_n 0, 1) := by decide +kernel
theorem dX5_hear_11 : decode cX5_hear 11 = .ok (.getfield 18, 3) := by decide +kernel
theorem dX5_hear_14 : decode cX5_hear 14 = .ok (.aload_n 0, 1) := by decide +kernel
theorem dX5_hear_15 : decode cX5_hear 15 = .ok (.getfield 40, 3) := by decide +kernel
theorem dX5_hear_18 : decode cX5_hear 18 = .ok (.iload_n 2, 1) := by decide +kernel
theorem dX5_hear_19 : decode cX5_hear 19 = .ok (.iastore, 1) := by decide +kernel
theorem dX5_hear_20 : decode cX5_hear 20 = .ok (.aload_n 0, 1) := by decide +kernel
theorem dX5_hear_21 : decode cX5_hear 21 = .ok (.getfield 21, 3) := by decide +kernel
theorem dX5_hear_24 : decode cX5_hear 24 = .ok (.aload_n 0, 1) := by decide +kernel
theorem dX5_hear_25 : decode cX5_hear 25 = .ok (.getfield 40, 3) := by decide +kernel
theorem dX5_hear_28 : decode cX5_hear 28 = .ok (.iload_n 3, 1) := by decide +kernel
theorem dX5_hear_29 : decode cX5_hear 29 = .ok (.iload 4, 2) := by decide +kernel
theorem dX5_hear_31 : decode cX5_hear 31 = .ok (.invokestatic 44, 3) := by decide +kernel
theorem dX5_hear_34 : decode cX5_hear 34 = .ok (.iastore, 1) := by decide +kernel
theorem dX5_hear_35 : decode cX5_hear 35 = .ok (.aload_n 0, 1) := by decide +kernel
theorem dX5_hear_36 : decode cX5_hear 36 = .ok (.getfield 24, 3) := by decide +kernel
theorem dX5_hear_39 : decode cX5_hear 39 = .ok (.aload_n 0, 1) := by decide +kernel
theorem dX5_hear_40 : decode cX5_hear 40 = .ok (.getfield 40, 3) := by decide +kernel
theorem dX5_hear_43 : decode cX5_hear 43 = .ok (.iload_n 3, 1) := by decide +kernel
theorem dX5_hear_44 : decode cX5_hear 44 = .ok (.iload 4, 2) := by decide +kernel
theorem dX5_hear_46 : decode cX5_hear 46 = .ok (.invokestatic 50, 3) := by decide +kernel
theorem dX5_hear_49 : decode cX5_hear 49 = .ok (.iastore, 1) := by decide +kernel
theorem dX5_hear_50 : decode cX5_hear 50 = .ok (.aload_n 0, 1) := by decide +kernel
theorem dX5_hear_51 : decode cX5_hear 51 = .ok (.getfield 27, 3) := by decide +kernel
theorem dX5_hear_54 : decode cX5_hear 54 = .ok (.aload_n 0, 1) := by decide +kernel
theorem dX5_hear_55 : decode cX5_hear 55 = .ok (.getfield 40, 3) := by decide +kernel
theorem dX5_hear_58 : decode cX5_hear 58 = .ok (.iload 5, 2) := by decide +kernel
theorem dX5_hear_60 : decode cX5_hear 60 = .ok (.iastore, 1) := by decide +kernel
theorem dX5_hear_61 : decode cX5_hear 61 = .ok (.aload_n 0, 1) := by decide +kernel
theorem dX5_hear_62 : decode cX5_hear 62 = .ok (.dup, 1) := by decide +kernel
theorem dX5_hear_63 : decode cX5_hear 63 = .ok (.getfield 40, 3) := by decide +kernel
theorem dX5_hear_66 : decode cX5_hear 66 = .ok (.iconst 1, 1) := by decide +kernel
theorem dX5_hear_67 : decode cX5_hear 67 = .ok (.iadd, 1) := by decide +kernel
theorem dX5_hear_68 : decode cX5_hear 68 = .ok (.putfield 40, 3) := by decide +kernel
theorem dX5_hear_71 : decode cX5_hear 71 = .ok (.return_, 1) := by decide +kernel
noncomputable def f_X5_hear (a1 : Int32) (a2 : Int32) (a3 : Int32) (a4 : Int32) (a5 : Int32) (σ : jM) : Option (Unit × jM) :=
  gd (inb (rI σ 8 1) 200) (gd (inb (rI (wI σ 10 (Int32.toNatClampNeg (rI σ 8 1)) a1) 8 1) 200) (gd (inb (rI (wI (wI σ 10 (Int32.toNatClampNeg (rI σ 8 1)) a1) 11 (Int32.toNatClampNeg (rI (wI σ 10 (Int32.toNatClampNeg (rI σ 8 1)) a1) 8 1)) a2) 8 1) 200) (gd (inb (rI (wI (wI (wI σ 10 (Int32.toNatClampNeg (rI σ 8 1)) a1) 11 (Int32.toNatClampNeg (rI (wI σ 10 (Int32.toNatClampNeg (rI σ 8 1)) a1) 8 1)) a2) 12 (Int32.toNatClampNeg (rI (wI (wI σ 10 (Int32.toNatClampNeg (rI σ 8 1)) a1) 11 (Int32.toNatClampNeg (rI (wI σ 10 (Int32.toNatClampNeg (rI σ 8 1)) a1) 8 1)) a2) 8 1)) (if a4 < a3 then a4 else a3)) 8 1) 200) (gd (inb (rI (wI (wI (wI (wI σ 10 (Int32.toNatClampNeg (rI σ 8 1)) a1) 11 (Int32.toNatClampNeg (rI (wI σ 10 (Int32.toNatClampNeg (rI σ 8 1)) a1) 8 1)) a2) 12 (Int32.toNatClampNeg (rI (wI (wI σ 10 (Int32.toNatClampNeg (rI σ 8 1)) a1) 11 (Int32.toNatClampNeg (rI (wI σ 10 (Int32.toNatClampNeg (rI σ 8 1)) a1) 8 1)) a2) 8 1)) (if a4 < a3 then a4 else a3)) 13 (Int32.toNatClampNeg (rI (wI (wI (wI σ 10 (Int32.toNatClampNeg (rI σ 8 1)) a1) 11 (Int32.toNatClampNeg (rI (wI σ 10 (Int32.toNatClampNeg (rI σ 8 1)) a1) 8 1)) a2) 12 (Int32.toNatClampNeg (rI (wI (wI σ 10 (Int32.toNatClampNeg (rI σ 8 1)) a1) 11 (Int32.toNatClampNeg (rI (wI σ 10 (Int32.toNatClampNeg (rI σ 8 1)) a1) 8 1)) a2) 8 1)) (if a4 < a3 then a4 else a3)) 8 1)) (if a3 < a4 then a4 else a3)) 8 1) 200) (some ((), wI (wI (wI (wI (wI (wI σ 10 (Int32.toNatClampNeg (rI σ 8 1)) a1) 11 (Int32.toNatClampNeg (rI (wI σ 10 (Int32.toNatClampNeg (rI σ 8 1)) a1) 8 1)) a2) 12 (Int32.toNatClampNeg (rI (wI (wI σ 10 (Int32.toNatClampNeg (rI σ 8 1)) a1) 11 (Int32.toNatClampNeg (rI (wI σ 10 (Int32.toNatClampNeg (rI σ 8 1)) a1) 8 1)) a2) 8 1)) (if a4 < a3 then a4 else a3)) 13 (Int32.toNatClampNeg (rI (wI (wI (wI σ 10 (Int32.toNatClampNeg (rI σ 8 1)) a1) 11 (Int32.toNatClampNeg (rI (wI σ 10 (Int32.toNatClampNeg (rI σ 8 1)) a1) 8 1)) a2) 12 (Int32.toNatClampNeg (rI (wI (wI σ 10 (Int32.toNatClampNeg (rI σ 8 1)) a1) 11 (Int32.toNatClampNeg (rI (wI σ 10 (Int32.toNatClampNeg (rI σ 8 1)) a1) 8 1)) a2) 8 1)) (if a4 < a3 then a4 else a3)) 8 1)) (if a3 < a4 then a4 else a3)) 14 (Int32.toNatClampNeg (rI (wI (wI (wI (wI σ 10 (Int32.toNatClampNeg (rI σ 8 1)) a1) 11 (Int32.toNatClampNeg (rI (wI σ 10 (Int32.toNatClampNeg (rI σ 8 1)) a1) 8 1)) a2) 12 (Int32.toNatClampNeg (rI (wI (wI σ 10 (Int32.toNatClampNeg (rI σ 8 1)) a1) 11 (Int32.toNatClampNeg (rI (wI σ 10 (Int32.toNatClampNeg (rI σ 8 1)) a1) 8 1)) a2) 8 1)) (if a4 < a3 then a4 else a3)) 13 (Int32.toNatClampNeg (rI (wI (wI (wI σ 10 (Int32.toNatClampNeg (rI σ 8 1)) a1) 11 (Int32.toNatClampNeg (rI (wI σ 10 (Int32.toNatClampNeg (rI σ 8 1)) a1) 8 1)) a2) 12 (Int32.toNatClampNeg (rI (wI (wI σ 10 (Int32.toNatClampNeg (rI σ 8 1)) a1) 11 (Int32.toNatClampNeg (rI (wI σ 10 (Int32.toNatClampNeg (rI σ 8 1)) a1) 8 1)) a2) 8 1)) (if a4 < a3 then a4 else a3)) 8 1)) (if a3 < a4 then a4 else a3)) 8 1)) a5) 8 1 ((rI (wI (wI (wI (wI (wI σ 10 (Int32.toNatClampNeg (rI σ 8 1)) a1) 11 (Int32.toNatClampNeg (rI (wI σ 10 (Int32.toNatClampNeg (rI σ 8 1)) a1) 8 1)) a2) 12 (Int32.toNatClampNeg (rI (wI (wI σ 10 (Int32.toNatClampNeg (rI σ 8 1)) a1) 11 (Int32.toNatClampNeg (rI (wI σ 10 (Int32.toNatClampNeg (rI σ 8 1)) a1) 8 1)) a2) 8 1)) (if a4 < a3 then a4 else a3)) 13 (Int32.toNatClampNeg (rI (wI (wI (wI σ 10 (Int32.toNatClampNeg (rI σ 8 1)) a1) 11 (Int32.toNatClampNeg (rI (wI σ 10 (Int32.toNatClampNeg (rI σ 8 1)) a1) 8 1)) a2) 12 (Int32.toNatClampNeg (rI (wI (wI σ 10 (Int32.toNatClampNeg (rI σ 8 1)) a1) 11 (Int32.toNatClampNeg (rI (wI σ 10 (Int32.toNatClampNeg (rI σ 8 1)) a1) 8 1)) a2) 8 1)) (if a4 < a3 then a4 else a3)) 8 1)) (if a3 < a4 then a4 else a3)) 14 (Int32.toNatClampNeg (rI (wI (wI (wI (wI σ 10 (Int32.toNatClampNeg (rI σ 8 1)) a1) 11 (Int32.toNatClampNeg (rI (wI σ 10 (Int32.toNatClampNeg (rI σ 8 1)) a1) 8 1)) a2) 12 (Int32.toNatClampNeg (rI (wI (wI σ 10 (Int32.toNatClampNeg (rI σ 8 1)) a1) 11 (Int32.toNatClampNeg (rI (wI σ 10 (Int32.toNatClampNeg (rI σ 8 1)) a1) 8 1)) a2) 8 1)) (if a4 < a3 then a4 else a3)) 13 (Int32.toNatClampNeg (rI (wI (wI (wI σ 10 (Int32.toNatClampNeg (rI σ 8 1)) a1) 11 (Int32.toNatClampNeg (rI (wI σ 10 (Int32.toNatClampNeg (rI σ 8 1)) a1) 8 1)) a2) 12 (Int32.toNatClampNeg (rI (wI (wI σ 10 (Int32.toNatClampNeg (rI σ 8 1)) a1) 11 (Int32.toNatClampNeg (rI (wI σ 10 (Int32.toNatClampNeg (rI σ 8 1)) a1) 8 1)) a2) 8 1)) (if a4 < a3 then a4 else a3)) 8 1)) (if a3 < a4 then a4 else a3)) 8 1)) a5) 8 1) + 1)))))))
set_option maxRecDepth 20000 in
set_option maxHeartbeats 4000000 in
theorem t_X5_hear {a1 : Int32} {a2 : Int32} {a3 : Int32} {a4 : Int32} {a5 : Int32} {σ : jM} {r : Unit × jM}  (h : f_X5_hear a1 a2 a3 a4 a5 σ = some r) : J mi_X5_hear 2 0 0 (jqV r) 0 [(0, .ref 8), (1, .int a1), (2, .int a2), (3, .int a3), (4, .int a4), (5, .int a5)] [] (ms σ) := by
  unfold f_X5_hear at h
  refine J_aload_n 0 dX5_hear_0 rfl ?_
  refine M_getR gf_X5_15_4 dX5_hear_1 (g_8_2 _) k_8 n_8 ?_
  refine J_aload_n 0 dX5_hear_4 rfl ?_
  refine M_getI gf_X5_40_4 dX5_hear_5 k_8 n_8 ?_
  refine J_iload_n 1 dX5_hear_8 rfl ?_
  obtain ⟨g6, h⟩ := gd_inv h
  refine M_iast dX5_hear_9 a_10 n_10 g6 ?_
  refine J_aload_n 0 dX5_hear_10 rfl ?_
  refine M_getR gf_X5_18_4 dX5_hear_11 (g_8_3 _) k_8 n_8 ?_
  refine J_aload_n 0 dX5_hear_14 rfl ?_
  refine M_getI gf_X5_40_4 dX5_hear_15 k_8 n_8 ?_
  refine J_iload_n 2 dX5_hear_18 rfl ?_
  obtain ⟨g7, h⟩ := gd_inv h
  refine M_iast dX5_hear_19 a_11 n_11 g7 ?_
  refine J_aload_n 0 dX5_hear_20 rfl ?_
  refine M_getR gf_X5_21_4 dX5_hear_21 (g_8_4 _) k_8 n_8 ?_
  refine J_aload_n 0 dX5_hear_24 rfl ?_
  refine M_getI gf_X5_40_4 dX5_hear_25 k_8 n_8 ?_
  refine J_iload_n 3 dX5_hear_28 rfl ?_
  refine J_iload 4 dX5_hear_29 rfl ?_
  refine J_min mm_X5_44 dX5_hear_31 (Nat.le_of_ble_eq_true rfl) (by decide) ?_
  obtain ⟨g8, h⟩ := gd_inv h
  refine M_iast dX5_hear_34 a_12 n_12 g8 ?_
  refine J_aload_n 0 dX5_hear_35 rfl ?_
  refine M_getR gf_X5_24_4 dX5_hear_36 (g_8_5 _) k_8 n_8 ?_
  refine J_aload_n 0 dX5_hear_39 rfl ?_
  refine M_getI gf_X5_40_4 dX5_hear_40 k_8 n_8 ?_
  refine J_iload_n 3 dX5_hear_43 rfl ?_
  refine J_iload 4 dX5_hear_44 rfl ?_
  refine J_max mm_X5_50 dX5_hear_46 (Nat.le_of_ble_eq_true rfl) (by decide) ?_
  obtain ⟨g9, h⟩ := gd_inv h
  refine M_iast dX5_hear_49 a_13 n_13 g9 ?_
  refine J_aload_n 0 dX5_hear_50 rfl ?_
  refine M_getR gf_X5_27_4 dX5_hear_51 (g_8_6 _) k_8 n_8 ?_
  refine J_aload_n 0 dX5_hear_54 rfl ?_
  refine M_getI gf_X5_40_4 dX5_hear_55 k_8 n_8 ?_
  refine J_iload 5 dX5_hear_58 rfl ?_
  obtain ⟨g10, h⟩ := gd_inv h
  refine M_iast dX5_hear_60 a_14 n_14 g10 ?_
  refine J_aload_n 0 dX5_hear_61 rfl ?_
  refine J_dup dX5_hear_62 rfl ?_
  refine M_getI gf_X5_40_4 dX5_hear_63 k_8 n_8 ?_
  refine J_iconst (v := 1) dX5_hear_66 (by decide) ?_
  refine J_iadd dX5_hear_67 ?_
  refine M_putI pf_X5_40_4 dX5_hear_68 k_8 n_8 ⟨rfl, rfl⟩ ?_
  exact J_ret (v := none) rfl ⟨dX5_hear_71, rfl⟩ (jqV_mk h)
theorem dX5_weigh_0 : decode cX5_weigh 0 = .ok (.iconst 1, 1) := by decide +kernel
theorem dX5_weigh_1 : decode cX5_weigh 1 = .ok (.iload_n 2, 1) := by decide +kernel
theorem dX5_weigh_2 : decode cX5_weigh 2 = .ok (.ishl, 1) := by decide +kernel
theorem dX5_weigh_3 : decode cX5_weigh 3 = .ok (.istore 4, 2) := by decide +kernel
theorem dX5_weigh_5 : decode cX5_weigh 5 = .ok (.aload_n 0, 1) := by decide +kernel
theorem dX5_weigh_6 : decode cX5_weigh 6 = .ok (.getfield 30, 3) := by decide +kernel
theorem dX5_weigh_9 : decode cX5_weigh 9 = .ok (.iload_n 1, 1) := by decide +kernel
theorem dX5_weigh_10 : decode cX5_weigh 10 = .ok (.iaload, 1) := by decide +kernel
theorem dX5_weigh_11 : decode cX5_weigh 11 = .ok (.iload 4, 2) := by decide +kernel
theorem dX5_weigh_13 : decode cX5_weigh 13 = .ok (.iand, 1) := by decide +kernel
theorem dX5_weigh_14 : decode cX5_weigh 14 = .ok (.ifCond .eq 4, 3) := by decide +kernel
theorem dX5_weigh_17 : decode cX5_weigh 17 = .ok (.return_, 1) := by decide +kernel
theorem dX5_weigh_18 : decode cX5_weigh 18 = .ok (.aload_n 0, 1) := by decide +kernel
theorem dX5_weigh_19 : decode cX5_weigh 19 = .ok (.getfield 30, 3) := by decide +kernel
theorem dX5_weigh_22 : decode cX5_weigh 22 = .ok (.iload_n 1, 1) := by decide +kernel
theorem dX5_weigh_23 : decode cX5_weigh 23 = .ok (.dup2, 1) := by decide +kernel
theorem dX5_weigh_24 : decode cX5_weigh 24 = .ok (.iaload, 1) := by decide +kernel
theorem dX5_weigh_25 : decode cX5_weigh 25 = .ok (.iload 4, 2) := by decide +kernel
theorem dX5_weigh_27 : decode cX5_weigh 27 = .ok (.ior, 1) := by decide +kernel
theorem dX5_weigh_28 : decode cX5_weigh 28 = .ok (.iastore, 1) := by decide +kernel
theorem dX5_weigh_29 : decode cX5_weigh 29 = .ok (.iload_n 3, 1) := by decide +kernel
theorem dX5_weigh_30 : decode cX5_weigh 30 = .ok (.iconst 1, 1) := by decide +kernel
theorem dX5_weigh_31 : decode cX5_weigh 31 = .ok (.if_icmp .ne 21, 3) := by decide +kernel
theorem dX5_weigh_34 : decode cX5_weigh 34 = .ok (.aload_n 0, 1) := by decide +kernel
theorem dX5_weigh_35 : decode cX5_weigh 35 = .ok (.getfield 33, 3) := by decide +kernel
theorem dX5_weigh_38 : decode cX5_weigh 38 = .ok (.iload_n 1, 1) := by decide +kernel
theorem dX5_weigh_39 : decode cX5_weigh 39 = .ok (.dup2, 1) := by decide +kernel
theorem dX5_weigh_40 : decode cX5_weigh 40 = .ok (.iaload, 1) := by decide +kernel
theorem dX5_weigh_41 : decode cX5_weigh 41 = .ok (.aload_n 0, 1) := by decide +kernel
theorem dX5_weigh_42 : decode cX5_weigh 42 = .ok (.getfield 9, 3) := by decide +kernel
theorem dX5_weigh_45 : decode cX5_weigh 45 = .ok (.iload_n 2, 1) := by decide +kernel
theorem dX5_weigh_46 : decode cX5_weigh 46 = .ok (.iaload, 1) := by decide +kernel
theorem dX5_weigh_47 : decode cX5_weigh 47 = .ok (.iadd, 1) := by decide +kernel
theorem dX5_weigh_48 : decode cX5_weigh 48 = .ok (.iastore, 1) := by decide +kernel
theorem dX5_weigh_49 : decode cX5_weigh 49 = .ok (.goto 22, 3) := by decide +kernel
theorem dX5_weigh_52 : decode cX5_weigh 52 = .ok (.iload_n 3, 1) := by decide +kernel
theorem dX5_weigh_53 : decode cX5_weigh 53 = .ok (.ifCond .ne 18, 3) := by decide +kernel
theorem dX5_weigh_56 : decode cX5_weigh 56 = .ok (.aload_n 0, 1) := by decide +kernel
theorem dX5_weigh_57 : decode cX5_weigh 57 = .ok (.getfield 33, 3) := by decide +kernel
theorem dX5_weigh_60 : decode cX5_weigh 60 = .ok (.iload_n 1, 1) := by decide +kernel
theorem dX5_weigh_61 : decode cX5_weigh 61 = .ok (.dup2, 1) := by decide +kernel
theorem dX5_weigh_62 : decode cX5_weigh 62 = .ok (.iaload, 1) := by decide +kernel
theorem dX5_weigh_63 : decode cX5_weigh 63 = .ok (.aload_n 0, 1) := by decide +kernel
theorem dX5_weigh_64 : decode cX5_weigh 64 = .ok (.getfield 9, 3) := by decide +kernel
theorem dX5_weigh_67 : decode cX5_weigh 67 = .ok (.iload_n 2, 1) := by decide +kernel
theorem dX5_weigh_68 : decode cX5_weigh 68 = .ok (.iaload, 1) := by decide +kernel
theorem dX5_weigh_69 : decode cX5_weigh 69 = .ok (.isub, 1) := by decide +kernel
theorem dX5_weigh_70 : decode cX5_weigh 70 = .ok (.iastore, 1) := by decide +kernel
theorem dX5_weigh_71 : decode cX5_weigh 71 = .ok (.return_, 1) := by decide +kernel
noncomputable def f_X5_weigh_71   (σ : jM) : Option (Unit × jM) :=
  some ((), σ)
noncomputable def f_X5_weigh (a1 : Int32) (a2 : Int32) (a3 : Int32) (σ : jM) : Option (Unit × jM) :=
  gd (inb a1 780) ((if ((rI σ 15 (Int32.toNatClampNeg a1)) &&& (1 <<< (a2 &&& 31))) = 0 then gd (inb a1 780) (gd (inb a1 780) ((if a3 = 1 then gd (inb a1 780) (gd (inb a2 4) (gd (inb a1 780) (f_X5_weigh_71   (wI (wI σ 15 (Int32.toNatClampNeg a1) ((rI σ 15 (Int32.toNatClampNeg a1)) ||| (1 <<< (a2 &&& 31)))) 16 (Int32.toNatClampNeg a1) ((rI (wI σ 15 (Int32.toNatClampNeg a1) ((rI σ 15 (Int32.toNatClampNeg a1)) ||| (1 <<< (a2 &&& 31)))) 16 (Int32.toNatClampNeg a1)) + (rI (wI σ 15 (Int32.toNatClampNeg a1) ((rI σ 15 (Int32.toNatClampNeg a1)) ||| (1 <<< (a2 &&& 31)))) 9 (Int32.toNatClampNeg a2))))))) else (if a3 = 0 then gd (inb a1 780) (gd (inb a2 4) (gd (inb a1 780) (f_X5_weigh_71   (wI (wI σ 15 (Int32.toNatClampNeg a1) ((rI σ 15 (Int32.toNatClampNeg a1)) ||| (1 <<< (a2 &&& 31)))) 16 (Int32.toNatClampNeg a1) ((rI (wI σ 15 (Int32.toNatClampNeg a1) ((rI σ 15 (Int32.toNatClampNeg a1)) ||| (1 <<< (a2 &&& 31)))) 16 (Int32.toNatClampNeg a1)) - (rI (wI σ 15 (Int32.toNatClampNeg a1) ((rI σ 15 (Int32.toNatClampNeg a1)) ||| (1 <<< (a2 &&& 31)))) 9 (Int32.toNatClampNeg a2))))))) else f_X5_weigh_71   (wI σ 15 (Int32.toNatClampNeg a1) ((rI σ 15 (Int32.toNatClampNeg a1)) ||| (1 <<< (a2 &&& 31)))))))) else some ((), σ)))
set_option maxRecDepth 20000 in
set_option maxHeartbeats 4000000 in
theorem t_X5_weigh_71   (σ : jM) (r : Unit × jM)  (h : f_X5_weigh_71   σ = some r) : J mi_X5_weigh 1 0 0 (jqV r) 71 [] [] (ms σ) := by
  unfold f_X5_weigh_71 at h
  exact J_ret (v := none) rfl ⟨dX5_weigh_71, rfl⟩ (jqV_mk h)
set_option maxRecDepth 20000 in
set_option maxHeartbeats 4000000 in
theorem t_X5_weigh {a1 : Int32} {a2 : Int32} {a3 : Int32} {σ : jM} {r : Unit × jM}  (h : f_X5_weigh a1 a2 a3 σ = some r) : J mi_X5_weigh 1 0 0 (jqV r) 0 [(0, .ref 8), (1, .int a1), (2, .int a2), (3, .int a3)] [] (ms σ) := by
  unfold f_X5_weigh at h
  refine J_iconst (v := 1) dX5_weigh_0 (by decide) ?_
  refine J_iload_n 2 dX5_weigh_1 rfl ?_
  refine J_ishl dX5_weigh_2 ?_
  refine J_istore (i := 4) (ls' := [(4, .int (1 <<< (a2 &&& 31))), (0, .ref 8), (1, .int a1), (2, .int a2), (3, .int a3)]) dX5_weigh_3 (by decide) rfl ?_
  refine J_aload_n 1 dX5_weigh_5 rfl ?_
  refine M_getR gf_X5_30_4 dX5_weigh_6 (g_8_7 _) k_8 n_8 ?_
  refine J_iload_n 2 dX5_weigh_9 rfl ?_
  obtain ⟨g10, h⟩ := gd_inv h
  refine M_iald dX5_weigh_10 a_15 n_15 g10 ?_
  refine J_iload 0 dX5_weigh_11 rfl ?_
  refine J_iand dX5_weigh_13 ?_
  refine J_if_eq (tgt := 18) dX5_weigh_14 (by decide) (fun c11 => ?_) (fun c11 => ?_)
  · have h := (if_pos c11).symm.trans h
    refine J_aload_n 1 dX5_weigh_18 rfl ?_
    refine M_getR gf_X5_30_4 dX5_weigh_19 (g_8_7 _) k_8 n_8 ?_
    refine J_iload_n 2 dX5_weigh_22 rfl ?_
    refine J_dup2 dX5_weigh_23 rfl rfl ?_
    obtain ⟨g12, h⟩ := gd_inv h
    refine M_iald dX5_weigh_24 a_15 n_15 g12 ?_
    refine J_iload 0 dX5_weigh_25 rfl ?_
    refine J_ior dX5_weigh_27 ?_
    obtain ⟨g13, h⟩ := gd_inv h
    refine M_iast dX5_weigh_28 a_15 n_15 g13 ?_
    refine J_iload_n 4 dX5_weigh_29 rfl ?_
    refine J_iconst (v := 1) dX5_weigh_30 (by decide) ?_
    refine J_icmp_ne (tgt := 52) dX5_weigh_31 (by decide) (fun c14 => ?_) (fun c14 => ?_)
    · have h := (if_neg c14).symm.trans h
      refine J_iload_n 4 dX5_weigh_52 rfl ?_
      refine J_if_ne (tgt := 71) dX5_weigh_53 (by decide) (fun c15 => ?_) (fun c15 => ?_)
      · have h := (if_neg c15).symm.trans h
        refine J_pick [] rfl ?_
        exact t_X5_weigh_71   _ _  h
      · have h := (if_pos c15).symm.trans h
        refine J_aload_n 1 dX5_weigh_56 rfl ?_
        refine M_getR gf_X5_33_4 dX5_weigh_57 (g_8_8 _) k_8 n_8 ?_
        refine J_iload_n 2 dX5_weigh_60 rfl ?_
        refine J_dup2 dX5_weigh_61 rfl rfl ?_
        obtain ⟨g16, h⟩ := gd_inv h
        refine M_iald dX5_weigh_62 a_16 n_16 g16 ?_
        refine J_aload_n 1 dX5_weigh_63 rfl ?_
        refine M_getR gf_X5_9_4 dX5_weigh_64 (g_8_0 _) k_8 n_8 ?_
        refine J_iload_n 3 dX5_weigh_67 rfl ?_
        obtain ⟨g17, h⟩ := gd_inv h
        refine M_iald dX5_weigh_68 a_9 n_9 g17 ?_
        refine J_isub dX5_weigh_69 ?_
        obtain ⟨g18, h⟩ := gd_inv h
        refine M_iast dX5_weigh_70 a_16 n_16 g18 ?_
        refine J_pick [] rfl ?_
        exact t_X5_weigh_71   _ _  h
    · have h := (if_pos c14).symm.trans h
      refine J_aload_n 1 dX5_weigh_34 rfl ?_
      refine M_getR gf_X5_33_4 dX5_weigh_35 (g_8_8 _) k_8 n_8 ?_
      refine J_iload_n 2 dX5_weigh_38 rfl ?_
      refine J_dup2 dX5_weigh_39 rfl rfl ?_
      obtain ⟨g19, h⟩ := gd_inv h
      refine M_iald dX5_weigh_40 a_16 n_16 g19 ?_
      refine J_aload_n 1 dX5_weigh_41 rfl ?_
      refine M_getR gf_X5_9_4 dX5_weigh_42 (g_8_0 _) k_8 n_8 ?_
      refine J_iload_n 3 dX5_weigh_45 rfl ?_
      obtain ⟨g20, h⟩ := gd_inv h
      refine M_iald dX5_weigh_46 a_9 n_9 g20 ?_
      refine J_iadd dX5_weigh_47 ?_
      obtain ⟨g21, h⟩ := gd_inv h
      refine M_iast dX5_weigh_48 a_16 n_16 g21 ?_
      refine J_goto (tgt := 71) dX5_weigh_49 (by decide) ?_
      refine J_pick [] rfl ?_
      exact t_X5_weigh_71   _ _  h
  · have h := (if_neg c11).symm.trans h
    exact J_ret (v := none) rfl ⟨dX5_weigh_17, rfl⟩ (jqV_mk h)
theorem dX7_vowelFor_0 : decode cX7_vowelFor 0 = .ok (.iload_n 1, 1) := by decide +kernel
theorem dX7_vowelFor_1 : decode cX7_vowelFor 1 = .ok (.iconst 1, 1) := by decide +kernel
theorem dX7_vowelFor_2 : decode cX7_vowelFor 2 = .ok (.iadd, 1) := by decide +kernel
theorem dX7_vowelFor_3 : decode cX7_vowelFor 3 = .ok (.istore_n 3, 1) := by decide +kernel
theorem dX7_vowelFor_4 : decode cX7_vowelFor 4 = .ok (.iload_n 3, 1) := by decide +kernel
theorem dX7_vowelFor_5 : decode cX7_vowelFor 5 = .ok (.iload_n 2, 1) := by decide +kernel
theorem dX7_vowelFor_6 : decode cX7_vowelFor 6 = .ok (.if_icmp .ge 26, 3) := by decide +kernel
theorem dX7_vowelFor_9 : decode cX7_vowelFor 9 = .ok (.aload_n 0, 1) := by decide +kernel
theorem dX7_vowelFor_10 : decode cX7_vowelFor 10 = .ok (.getfield 33, 3) := by decide +kernel
theorem dX7_vowelFor_13 : decode cX7_vowelFor 13 = .ok (.iload_n 3, 1) := by decide +kernel
theorem dX7_vowelFor_14 : decode cX7_vowelFor 14 = .ok (.iaload, 1) := by decide +kernel
theorem dX7_vowelFor_15 : decode cX7_vowelFor 15 = .ok (.iconst (-1), 1) := by decide +kernel
theorem dX7_vowelFor_16 : decode cX7_vowelFor 16 = .ok (.if_icmp .eq 10, 3) := by decide +kernel
theorem dX7_vowelFor_19 : decode cX7_vowelFor 19 = .ok (.aload_n 0, 1) := by decide +kernel
theorem dX7_vowelFor_20 : decode cX7_vowelFor 20 = .ok (.getfield 33, 3) := by decide +kernel
theorem dX7_vowelFor_23 : decode cX7_vowelFor 23 = .ok (.iload_n 3, 1) := by decide +kernel
theorem dX7_vowelFor_24 : decode cX7_vowelFor 24 = .ok (.iaload, 1) := by decide +kernel
theorem dX7_vowelFor_25 : decode cX7_vowelFor 25 = .ok (.ireturn, 1) := by decide +kernel
theorem dX7_vowelFor_26 : decode cX7_vowelFor 26 = .ok (.iinc 3 1, 3) := by decide +kernel
theorem dX7_vowelFor_29 : decode cX7_vowelFor 29 = .ok (.goto (-25), 3) := by decide +kernel
theorem dX7_vowelFor_32 : decode cX7_vowelFor 32 = .ok (.iload_n 1, 1) := by decide +kernel
theorem dX7_vowelFor_33 : decode cX7_vowelFor 33 = .ok (.iconst 1, 1) := by decide +kernel
theorem dX7_vowelFor_34 : decode cX7_vowelFor 34 = .ok (.isub, 1) := by decide +kernel
theorem dX7_vowelFor_35 : decode cX7_vowelFor 35 = .ok (.istore_n 3, 1) := by decide +kernel
theorem dX7_vowelFor_36 : decode cX7_vowelFor 36 = .ok (.iload_n 3, 1) := by decide +kernel
theorem dX7_vowelFor_37 : decode cX7_vowelFor 37 = .ok (.ifCond .lt 26, 3) := by decide +kernel
theorem dX7_vowelFor_40 : decode cX7_vowelFor 40 = .ok (.aload_n 0, 1) := by decide +kernel
theorem dX7_vowelFor_41 : decode cX7_vowelFor 41 = .ok (.getfield 33, 3) := by decide +kernel
theorem dX7_vowelFor_44 : decode cX7_vowelFor 44 = .ok (.iload_n 3, 1) := by decide +kernel
theorem dX7_vowelFor_45 : decode cX7_vowelFor 45 = .ok (.iaload, 1) := by decide +kernel
theorem dX7_vowelFor_46 : decode cX7_vowelFor 46 = .ok (.iconst (-1), 1) := by decide +kernel
theorem dX7_vowelFor_47 : decode cX7_vowelFor 47 = .ok (.if_icmp .eq 10, 3) := by decide +kernel
theorem dX7_vowelFor_50 : decode cX7_vowelFor 50 = .ok (.aload_n 0, 1) := by decide +kernel
theorem dX7_vowelFor_51 : decode cX7_vowelFor 51 = .ok (.getfield 33, 3) := by decide +kernel
theorem dX7_vowelFor_54 : decode cX7_vowelFor 54 = .ok (.iload_n 3, 1) := by decide +kernel
theorem dX7_vowelFor_55 : decode cX7_vowelFor 55 = .ok (.iaload, 1) := by decide +kernel
theorem dX7_vowelFor_56 : decode cX7_vowelFor 56 = .ok (.ireturn, 1) := by decide +kernel
theorem dX7_vowelFor_57 : decode cX7_vowelFor 57 = .ok (.iinc 3 (-1), 3) := by decide +kernel
theorem dX7_vowelFor_60 : decode cX7_vowelFor 60 = .ok (.goto (-24), 3) := by decide +kernel
theorem dX7_vowelFor_63 : decode cX7_vowelFor 63 = .ok (.iconst (-1), 1) := by decide +kernel
theorem dX7_vowelFor_64 : decode cX7_vowelFor 64 = .ok (.ireturn, 1) := by decide +kernel
noncomputable def s_X7_vowelFor_36  (rec36 : Nat → Int32 → jM → Option (Int32 × jM)) (l0 : Nat) (l3 : Int32) (σ : jM) : Option (Int32 × jM) :=
  (if l3 < 0 then some ((-1), σ) else gd (inb l3 8) ((if (rI σ (rulX l0 + 8) (Int32.toNatClampNeg l3)) = (-1) then rec36 l0 (l3 + (-1)) σ else gd (inb l3 8) (some ((rI σ (rulX l0 + 8) (Int32.toNatClampNeg l3)), σ)))))
noncomputable def f_X7_vowelFor_36  (n : Nat) : Nat → Int32 → jM → Option (Int32 × jM) := Nat.rec (motive := fun _ => Nat → Int32 → jM → Option (Int32 × jM)) (fun _ _ _ => none) (fun _ q => s_X7_vowelFor_36  q) n
noncomputable def s_X7_vowelFor_4  (rec4 : Nat → Int32 → Int32 → Int32 → jM → Option (Int32 × jM)) (l0 : Nat) (l1 : Int32) (l2 : Int32) (l3 : Int32) (σ : jM) : Option (Int32 × jM) :=
  (if l2 ≤ l3 then f_X7_vowelFor_36  Fu l0 (l1 - 1) σ else gd (inb l3 8) ((if (rI σ (rulX l0 + 8) (Int32.toNatClampNeg l3)) = (-1) then rec4 l0 l1 l2 (l3 + 1) σ else gd (inb l3 8) (some ((rI σ (rulX l0 + 8) (Int32.toNatClampNeg l3)), σ)))))
noncomputable def f_X7_vowelFor_4  (n : Nat) : Nat → Int32 → Int32 → Int32 → jM → Option (Int32 × jM) := Nat.rec (motive := fun _ => Nat → Int32 → Int32 → Int32 → jM → Option (Int32 × jM)) (fun _ _ _ _ _ => none) (fun _ q => s_X7_vowelFor_4  q) n
noncomputable def f_X7_vowelFor (t0 : Nat) (a1 : Int32) (a2 : Int32) (σ : jM) : Option (Int32 × jM) :=
  f_X7_vowelFor_4  Fu t0 a1 a2 (a1 + 1) σ
set_option maxRecDepth 20000 in
set_option maxHeartbeats 4000000 in
theorem t_X7_vowelFor_36  : ∀ (n : Nat) (l0 : Nat) (l3 : Int32) (σ : jM) (r : Int32 × jM), f_X7_vowelFor_36  n l0 l3 σ = some r → J mi_X7_vowelFor 1 0 0 (jqI r) 36 [(0, .ref (rulX l0)), (3, .int l3)] [] (ms σ) := by
  intro n
  induction n with
  | zero =>
    intro l0 l3 σ r  h
    have h : (none : Option (Int32 × jM)) = some r := h
    cases h
  | succ n ih =>
    intro l0 l3 σ r  h
    have h : s_X7_vowelFor_36  (f_X7_vowelFor_36  n) l0 l3 σ = some r := h
    unfold s_X7_vowelFor_36 at h
    refine J_iload_n 1 dX7_vowelFor_36 rfl ?_
    refine J_if_lt (tgt := 63) dX7_vowelFor_37 (by decide) (fun c9 => ?_) (fun c9 => ?_)
    · have h := (if_pos c9).symm.trans h
      refine J_iconst (v := (-1)) dX7_vowelFor_63 (by decide) ?_
      exact J_ret (v := some (.int (-1))) rfl ⟨dX7_vowelFor_64, Or.inl rfl⟩ (jqI_mk h)
    · have h := (if_neg c9).symm.trans h
      refine J_aload_n 0 dX7_vowelFor_40 rfl ?_
      refine M_getR gf_X7_33_6 dX7_vowelFor_41 (gg_rul9 _ l0) (kk_rul l0) (nn_rul l0) ?_
      refine J_iload_n 1 dX7_vowelFor_44 rfl ?_
      obtain ⟨g10, h⟩ := gd_inv h
      refine M_iald dX7_vowelFor_45 (aa_rul9 l0) (nna_rul9 l0) g10 ?_
      refine J_iconst (v := (-1)) dX7_vowelFor_46 (by decide) ?_
      refine J_icmp_eq (tgt := 57) dX7_vowelFor_47 (by decide) (fun c11 => ?_) (fun c11 => ?_)
      · have h := (if_pos c11).symm.trans h
        refine J_iinc (v := (l3 + (-1))) (ls' := [(3, .int (l3 + (-1))), (0, .ref (rulX l0))]) 1 dX7_vowelFor_57 rfl rfl (by decide) rfl ?_
        refine J_goto (tgt := 36) dX7_vowelFor_60 (by decide) ?_
        refine J_pick [1, 0] rfl ?_
        exact ih _ _ _ _  h
      · have h := (if_neg c11).symm.trans h
        refine J_aload_n 0 dX7_vowelFor_50 rfl ?_
        refine M_getR gf_X7_33_6 dX7_vowelFor_51 (gg_rul9 _ l0) (kk_rul l0) (nn_rul l0) ?_
        refine J_iload_n 1 dX7_vowelFor_54 rfl ?_
        obtain ⟨g12, h⟩ := gd_inv h
        refine M_iald dX7_vowelFor_55 (aa_rul9 l0) (nna_rul9 l0) g12 ?_
        exact J_ret (v := some (.int (rI σ (rulX l0 + 8) (Int32.toNatClampNeg l3)))) rfl ⟨dX7_vowelFor_56, Or.inl rfl⟩ (jqI_mk h)
set_option maxRecDepth 20000 in
set_option maxHeartbeats 4000000 in
theorem t_X7_vowelFor_4  : ∀ (n : Nat) (l0 : Nat) (l1 : Int32) (l2 : Int32) (l3 : Int32) (σ : jM) (r : Int32 × jM), f_X7_vowelFor_4  n l0 l1 l2 l3 σ = some r → J mi_X7_vowelFor 1 0 0 (jqI r) 4 [(0, .ref (rulX l0)), (1, .int l1), (2, .int l2), (3, .int l3)] [] (ms σ) := by
  intro n
  induction n with
  | zero =>
    intro l0 l1 l2 l3 σ r  h
    have h : (none : Option (Int32 × jM)) = some r := h
    cases h
  | succ n ih =>
    intro l0 l1 l2 l3 σ r  h
    have h : s_X7_vowelFor_4  (f_X7_vowelFor_4  n) l0 l1 l2 l3 σ = some r := h
    unfold s_X7_vowelFor_4 at h
    refine J_iload_n 3 dX7_vowelFor_4 rfl ?_
    refine J_iload_n 2 dX7_vowelFor_5 rfl ?_
    refine J_icmp_ge (tgt := 32) dX7_vowelFor_6 (by decide) (fun c17 => ?_) (fun c17 => ?_)
    · have h := (if_pos c17).symm.trans h
      refine J_iload_n 1 dX7_vowelFor_32 rfl ?_
      refine J_iconst (v := 1) dX7_vowelFor_33 (by decide) ?_
      refine J_isub dX7_vowelFor_34 ?_
      refine J_istore_n (i := 3) (ls' := [(3, .int (l1 - 1)), (0, .ref (rulX l0)), (1, .int l1), (2, .int l2)]) dX7_vowelFor_35 rfl (by decide) rfl ?_
      refine J_pick [1, 0] rfl ?_
      exact t_X7_vowelFor_36  _ _ _ _ _  h
    · have h := (if_neg c17).symm.trans h
      refine J_aload_n 0 dX7_vowelFor_9 rfl ?_
      refine M_getR gf_X7_33_6 dX7_vowelFor_10 (gg_rul9 _ l0) (kk_rul l0) (nn_rul l0) ?_
      refine J_iload_n 3 dX7_vowelFor_13 rfl ?_
      obtain ⟨g18, h⟩ := gd_inv h
      refine M_iald dX7_vowelFor_14 (aa_rul9 l0) (nna_rul9 l0) g18 ?_
      refine J_iconst (v := (-1)) dX7_vowelFor_15 (by decide) ?_
      refine J_icmp_eq (tgt := 26) dX7_vowelFor_16 (by decide) (fun c19 => ?_) (fun c19 => ?_)
      · have h := (if_pos c19).symm.trans h
        refine J_iinc (v := (l3 + 1)) (ls' := [(3, .int (l3 + 1)), (0, .ref (rulX l0)), (1, .int l1), (2, .int l2)]) 3 dX7_vowelFor_26 rfl rfl (by decide) rfl ?_
        refine J_goto (tgt := 4) dX7_vowelFor_29 (by decide) ?_
        refine J_pick [1, 2, 3, 0] rfl ?_
        exact ih _ _ _ _ _ _  h
      · have h := (if_neg c19).symm.trans h
        refine J_aload_n 0 dX7_vowelFor_19 rfl ?_
        refine M_getR gf_X7_33_6 dX7_vowelFor_20 (gg_rul9 _ l0) (kk_rul l0) (nn_rul l0) ?_
        refine J_iload_n 3 dX7_vowelFor_23 rfl ?_
        obtain ⟨g20, h⟩ := gd_inv h
        refine M_iald dX7_vowelFor_24 (aa_rul9 l0) (nna_rul9 l0) g20 ?_
        exact J_ret (v := some (.int (rI σ (rulX l0 + 8) (Int32.toNatClampNeg l3)))) rfl ⟨dX7_vowelFor_25, Or.inl rfl⟩ (jqI_mk h)
set_option maxRecDepth 20000 in
set_option maxHeartbeats 4000000 in
theorem t_X7_vowelFor {t0 : Nat} {a1 : Int32} {a2 : Int32} {σ : jM} {r : Int32 × jM}  (h : f_X7_vowelFor t0 a1 a2 σ = some r) : J mi_X7_vowelFor 1 0 0 (jqI r) 0 [(0, .ref (rulX t0)), (1, .int a1), (2, .int a2)] [] (ms σ) := by
  unfold f_X7_vowelFor at h
  refine J_iload_n 1 dX7_vowelFor_0 rfl ?_
  refine J_iconst (v := 1) dX7_vowelFor_1 (by decide) ?_
  refine J_iadd dX7_vowelFor_2 ?_
  refine J_istore_n (i := 3) (ls' := [(3, .int (a1 + 1)), (0, .ref (rulX t0)), (1, .int a1), (2, .int a2)]) dX7_vowelFor_3 rfl (by decide) rfl ?_
  refine J_pick [1, 2, 3, 0] rfl ?_
  exact t_X7_vowelFor_4  _ _ _ _ _ _ _  h
theorem dX7_writtenFor_0 : decode cX7_writtenFor 0 = .ok (.aload_n 0, 1) := by decide +kernel
theorem dX7_writtenFor_1 : decode cX7_writtenFor 1 = .ok (.getfield 57, 3) := by decide +kernel
theorem dX7_writtenFor_4 : decode cX7_writtenFor 4 = .ok (.iconst 1, 1) := by decide +kernel
theorem dX7_writtenFor_5 : decode cX7_writtenFor 5 = .ok (.isub, 1) := by decide +kernel
theorem dX7_writtenFor_6 : decode cX7_writtenFor 6 = .ok (.istore_n 2, 1) := by decide +kernel
theorem dX7_writtenFor_7 : decode cX7_writtenFor 7 = .ok (.iload_n 2, 1) := by decide +kernel
theorem dX7_writtenFor_8 : decode cX7_writtenFor 8 = .ok (.ifCond .lt 36, 3) := by decide +kernel
theorem dX7_writtenFor_11 : decode cX7_writtenFor 11 = .ok (.aload_n 0, 1) := by decide +kernel
theorem dX7_writtenFor_12 : decode cX7_writtenFor 12 = .ok (.getfield 9, 3) := by decide +kernel
theorem dX7_writtenFor_15 : decode cX7_writtenFor 15 = .ok (.iload_n 2, 1) := by decide +kernel
theorem dX7_writtenFor_16 : decode cX7_writtenFor 16 = .ok (.iaload, 1) := by decide +kernel
theorem dX7_writtenFor_17 : decode cX7_writtenFor 17 = .ok (.iconst 2, 1) := by decide +kernel
theorem dX7_writtenFor_18 : decode cX7_writtenFor 18 = .ok (.if_icmp .ne 20, 3) := by decide +kernel
theorem dX7_writtenFor_21 : decode cX7_writtenFor 21 = .ok (.aload_n 0, 1) := by decide +kernel
theorem dX7_writtenFor_22 : decode cX7_writtenFor 22 = .ok (.getfield 24, 3) := by decide +kernel
theorem dX7_writtenFor_25 : decode cX7_writtenFor 25 = .ok (.iload_n 2, 1) := by decide +kernel
theorem dX7_writtenFor_26 : decode cX7_writtenFor 26 = .ok (.iaload, 1) := by decide +kernel
theorem dX7_writtenFor_27 : decode cX7_writtenFor 27 = .ok (.iload_n 1, 1) := by decide +kernel
theorem dX7_writtenFor_28 : decode cX7_writtenFor 28 = .ok (.if_icmp .ne 10, 3) := by decide +kernel
theorem dX7_writtenFor_31 : decode cX7_writtenFor 31 = .ok (.aload_n 0, 1) := by decide +kernel
theorem dX7_writtenFor_32 : decode cX7_writtenFor 32 = .ok (.getfield 27, 3) := by decide +kernel
theorem dX7_writtenFor_35 : decode cX7_writtenFor 35 = .ok (.iload_n 2, 1) := by decide +kernel
theorem dX7_writtenFor_36 : decode cX7_writtenFor 36 = .ok (.iaload, 1) := by decide +kernel
theorem dX7_writtenFor_37 : decode cX7_writtenFor 37 = .ok (.ireturn, 1) := by decide +kernel
theorem dX7_writtenFor_38 : decode cX7_writtenFor 38 = .ok (.iinc 2 (-1), 3) := by decide +kernel
theorem dX7_writtenFor_41 : decode cX7_writtenFor 41 = .ok (.goto (-34), 3) := by decide +kernel
theorem dX7_writtenFor_44 : decode cX7_writtenFor 44 = .ok (.iload_n 1, 1) := by decide +kernel
theorem dX7_writtenFor_45 : decode cX7_writtenFor 45 = .ok (.ireturn, 1) := by decide +kernel
noncomputable def f_X7_writtenFor_38 (rec7 : Nat → Int32 → Int32 → jM → Option (Int32 × jM)) (l0 : Nat) (l1 : Int32) (l2 : Int32) (σ : jM) : Option (Int32 × jM) :=
  rec7 l0 l1 (l2 + (-1)) σ
noncomputable def s_X7_writtenFor_7  (rec7 : Nat → Int32 → Int32 → jM → Option (Int32 × jM)) (l0 : Nat) (l1 : Int32) (l2 : Int32) (σ : jM) : Option (Int32 × jM) :=
  (if l2 < 0 then some (l1, σ) else gd (inb l2 12) ((if (rI σ (rulX l0 + 1) (Int32.toNatClampNeg l2)) = 2 then gd (inb l2 12) ((if (rI σ (rulX l0 + 5) (Int32.toNatClampNeg l2)) = l1 then gd (inb l2 12) (some ((rI σ (rulX l0 + 6) (Int32.toNatClampNeg l2)), σ)) else f_X7_writtenFor_38 rec7 l0 l1 l2 σ)) else f_X7_writtenFor_38 rec7 l0 l1 l2 σ)))
noncomputable def f_X7_writtenFor_7  (n : Nat) : Nat → Int32 → Int32 → jM → Option (Int32 × jM) := Nat.rec (motive := fun _ => Nat → Int32 → Int32 → jM → Option (Int32 × jM)) (fun _ _ _ _ => none) (fun _ q => s_X7_writtenFor_7  q) n
noncomputable def f_X7_writtenFor (t0 : Nat) (a1 : Int32) (σ : jM) : Option (Int32 × jM) :=
  f_X7_writtenFor_7  Fu t0 a1 ((rI σ (rulX t0) 1) - 1) σ
set_option maxRecDepth 20000 in
set_option maxHeartbeats 4000000 in
theorem t_X7_writtenFor_38 {rec7 : Nat → Int32 → Int32 → jM → Option (Int32 × jM)} (hrec7 : ∀ (l0 : Nat) (l1 : Int32) (l2 : Int32) (σ : jM) (r : Int32 × jM), rec7 l0 l1 l2 σ = some r → J mi_X7_writtenFor 1 0 0 (jqI r) 7 [(0, .ref (rulX l0)), (1, .int l1), (2, .int l2)] [] (ms σ)) (l0 : Nat) (l1 : Int32) (l2 : Int32) (σ : jM) (r : Int32 × jM)  (h : f_X7_writtenFor_38 rec7 l0 l1 l2 σ = some r) : J mi_X7_writtenFor 1 0 0 (jqI r) 38 [(0, .ref (rulX l0)), (1, .int l1), (2, .int l2)] [] (ms σ) := by
  unfold f_X7_writtenFor_38 at h
  refine J_iinc (v := (l2 + (-1))) (ls' := [(2, .int (l2 + (-1))), (0, .ref (rulX l0)), (1, .int l1)]) 2 dX7_writtenFor_38 rfl rfl (by decide) rfl ?_
  refine J_goto (tgt := 7) dX7_writtenFor_41 (by decide) ?_
  refine J_pick [1, 2, 0] rfl ?_
  exact hrec7 _ _ _ _ _  h
set_option maxRecDepth 20000 in
set_option maxHeartbeats 4000000 in
theorem t_X7_writtenFor_7  : ∀ (n : Nat) (l0 : Nat) (l1 : Int32) (l2 : Int32) (σ : jM) (r : Int32 × jM), f_X7_writtenFor_7  n l0 l1 l2 σ = some r → J mi_X7_writtenFor 1 0 0 (jqI r) 7 [(0, .ref (rulX l0)), (1, .int l1), (2, .int l2)] [] (ms σ) := by
  intro n
  induction n with
  | zero =>
    intro l0 l1 l2 σ r  h
    have h : (none : Option (Int32 × jM)) = some r := h
    cases h
  | succ n ih =>
    intro l0 l1 l2 σ r  h
    have h : s_X7_writtenFor_7  (f_X7_writtenFor_7  n) l0 l1 l2 σ = some r := h
    unfold s_X7_writtenFor_7 at h
    refine J_iload_n 2 dX7_writtenFor_7 rfl ?_
    refine J_if_lt (tgt := 44) dX7_writtenFor_8 (by decide) (fun c10 => ?_) (fun c10 => ?_)
    · have h := (if_pos c10).symm.trans h
      refine J_iload_n 1 dX7_writtenFor_44 rfl ?_
      exact J_ret (v := some (.int l1)) rfl ⟨dX7_writtenFor_45, Or.inl rfl⟩ (jqI_mk h)
    · have h := (if_neg c10).symm.trans h
      refine J_aload_n 0 dX7_writtenFor_11 rfl ?_
      refine M_getR gf_X7_9_6 dX7_writtenFor_12 (gg_rul2 _ l0) (kk_rul l0) (nn_rul l0) ?_
      refine J_iload_n 2 dX7_writtenFor_15 rfl ?_
      obtain ⟨g11, h⟩ := gd_inv h
      refine M_iald dX7_writtenFor_16 (aa_rul2 l0) (nna_rul2 l0) g11 ?_
      refine J_iconst (v := 2) dX7_writtenFor_17 (by decide) ?_
      refine J_icmp_ne (tgt := 38) dX7_writtenFor_18 (by decide) (fun c12 => ?_) (fun c12 => ?_)
      · have h := (if_neg c12).symm.trans h
        exact t_X7_writtenFor_38 ih _ _ _ _ _  h
      · have h := (if_pos c12).symm.trans h
        refine J_aload_n 0 dX7_writtenFor_21 rfl ?_
        refine M_getR gf_X7_24_6 dX7_writtenFor_22 (gg_rul6 _ l0) (kk_rul l0) (nn_rul l0) ?_
        refine J_iload_n 2 dX7_writtenFor_25 rfl ?_
        obtain ⟨g13, h⟩ := gd_inv h
        refine M_iald dX7_writtenFor_26 (aa_rul6 l0) (nna_rul6 l0) g13 ?_
        refine J_iload_n 1 dX7_writtenFor_27 rfl ?_
        refine J_icmp_ne (tgt := 38) dX7_writtenFor_28 (by decide) (fun c14 => ?_) (fun c14 => ?_)
        · have h := (if_neg c14).symm.trans h
          exact t_X7_writtenFor_38 ih _ _ _ _ _  h
        · have h := (if_pos c14).symm.trans h
          refine J_aload_n 0 dX7_writtenFor_31 rfl ?_
          refine M_getR gf_X7_27_6 dX7_writtenFor_32 (gg_rul7 _ l0) (kk_rul l0) (nn_rul l0) ?_
          refine J_iload_n 2 dX7_writtenFor_35 rfl ?_
          obtain ⟨g15, h⟩ := gd_inv h
          refine M_iald dX7_writtenFor_36 (aa_rul7 l0) (nna_rul7 l0) g15 ?_
          exact J_ret (v := some (.int (rI σ (rulX l0 + 6) (Int32.toNatClampNeg l2)))) rfl ⟨dX7_writtenFor_37, Or.inl rfl⟩ (jqI_mk h)
set_option maxRecDepth 20000 in
set_option maxHeartbeats 4000000 in
theorem t_X7_writtenFor {t0 : Nat} {a1 : Int32} {σ : jM} {r : Int32 × jM}  (h : f_X7_writtenFor t0 a1 σ = some r) : J mi_X7_writtenFor 1 0 0 (jqI r) 0 [(0, .ref (rulX t0)), (1, .int a1)] [] (ms σ) := by
  unfold f_X7_writtenFor at h
  refine J_aload_n 0 dX7_writtenFor_0 rfl ?_
  refine M_getI gf_X7_57_6 dX7_writtenFor_1 (kk_rul t0) (nn_rul t0) ?_
  refine J_iconst (v := 1) dX7_writtenFor_4 (by decide) ?_
  refine J_isub dX7_writtenFor_5 ?_
  refine J_istore_n (i := 2) (ls' := [(2, .int ((rI σ (rulX t0) 1) - 1)), (0, .ref (rulX t0)), (1, .int a1)]) dX7_writtenFor_6 rfl (by decide) rfl ?_
  refine J_pick [1, 2, 0] rfl ?_
  exact t_X7_writtenFor_7  _ _ _ _ _ _  h
theorem dX7_drops_0 : decode cX7_drops 0 = .ok (.iconst 0, 1) := by decide +kernel
theorem dX7_drops_1 : decode cX7_drops 1 = .ok (.istore_n 2, 1) := by decide +kernel
theorem dX7_drops_2 : decode cX7_drops 2 = .ok (.iload_n 2, 1) := by decide +kernel
theorem dX7_drops_3 : decode cX7_drops 3 = .ok (.aload_n 0, 1) := by decide +kernel
theorem dX7_drops_4 : decode cX7_drops 4 = .ok (.getfield 57, 3) := by decide +kernel
theorem dX7_drops_7 : decode cX7_drops 7 = .ok (.if_icmp .ge 31, 3) := by decide +kernel
theorem dX7_drops_10 : decode cX7_drops 10 = .ok (.aload_n 0, 1) := by decide +kernel
theorem dX7_drops_11 : decode cX7_drops 11 = .ok (.getfield 9, 3) := by decide +kernel
theorem dX7_drops_14 : decode cX7_drops 14 = .ok (.iload_n 2, 1) := by decide +kernel
theorem dX7_drops_15 : decode cX7_drops 15 = .ok (.iaload, 1) := by decide +kernel
theorem dX7_drops_16 : decode cX7_drops 16 = .ok (.iconst 3, 1) := by decide +kernel
theorem dX7_drops_17 : decode cX7_drops 17 = .ok (.if_icmp .ne 15, 3) := by decide +kernel
theorem dX7_drops_20 : decode cX7_drops 20 = .ok (.aload_n 0, 1) := by decide +kernel
theorem dX7_drops_21 : decode cX7_drops 21 = .ok (.getfield 24, 3) := by decide +kernel
theorem dX7_drops_24 : decode cX7_drops 24 = .ok (.iload_n 2, 1) := by decide +kernel
theorem dX7_drops_25 : decode cX7_drops 25 = .ok (.iaload, 1) := by decide +kernel
theorem dX7_drops_26 : decode cX7_drops 26 = .ok (.iload_n 1, 1) := by decide +kernel
theorem dX7_drops_27 : decode cX7_drops 27 = .ok (.if_icmp .ne 5, 3) := by decide +kernel
theorem dX7_drops_30 : decode cX7_drops 30 = .ok (.iconst 1, 1) := by decide +kernel
theorem dX7_drops_31 : decode cX7_drops 31 = .ok (.ireturn, 1) := by decide +kernel
theorem dX7_drops_32 : decode cX7_drops 32 = .ok (.iinc 2 1, 3) := by decide +kernel
theorem dX7_drops_35 : decode cX7_drops 35 = .ok (.goto (-33), 3) := by decide +kernel
theorem dX7_drops_38 : decode cX7_drops 38 = .ok (.iconst 0, 1) := by decide +kernel
theorem dX7_drops_39 : decode cX7_drops 39 = .ok (.ireturn, 1) := by decide +kernel
noncomputable def f_X7_drops_32 (rec2 : Nat → Int32 → Int32 → jM → Option (Int32 × jM)) (l0 : Nat) (l1 : Int32) (l2 : Int32) (σ : jM) : Option (Int32 × jM) :=
  rec2 l0 l1 (l2 + 1) σ
noncomputable def s_X7_drops_2  (rec2 : Nat → Int32 → Int32 → jM → Option (Int32 × jM)) (l0 : Nat) (l1 : Int32) (l2 : Int32) (σ : jM) : Option (Int32 × jM) :=
  (if (rI σ (rulX l0) 1) ≤ l2 then some (0, σ) else gd (inb l2 12) ((if (rI σ (rulX l0 + 1) (Int32.toNatClampNeg l2)) = 3 then gd (inb l2 12) ((if (rI σ (rulX l0 + 5) (Int32.toNatClampNeg l2)) = l1 then some (1, σ) else f_X7_drops_32 rec2 l0 l1 l2 σ)) else f_X7_drops_32 rec2 l0 l1 l2 σ)))
noncomputable def f_X7_drops_2  (n : Nat) : Nat → Int32 → Int32 → jM → Option (Int32 × jM) := Nat.rec (motive := fun _ => Nat → Int32 → Int32 → jM → Option (Int32 × jM)) (fun _ _ _ _ => none) (fun _ q => s_X7_drops_2  q) n
noncomputable def f_X7_drops (t0 : Nat) (a1 : Int32) (σ : jM) : Option (Int32 × jM) :=
  f_X7_drops_2  Fu t0 a1 0 σ
set_option maxRecDepth 20000 in
set_option maxHeartbeats 4000000 in
theorem t_X7_drops_32 {rec2 : Nat → Int32 → Int32 → jM → Option (Int32 × jM)} (hrec2 : ∀ (l0 : Nat) (l1 : Int32) (l2 : Int32) (σ : jM) (r : Int32 × jM), rec2 l0 l1 l2 σ = some r → J mi_X7_drops 1 0 0 (jqI r) 2 [(0, .ref (rulX l0)), (1, .int l1), (2, .int l2)] [] (ms σ)) (l0 : Nat) (l1 : Int32) (l2 : Int32) (σ : jM) (r : Int32 × jM)  (h : f_X7_drops_32 rec2 l0 l1 l2 σ = some r) : J mi_X7_drops 1 0 0 (jqI r) 32 [(0, .ref (rulX l0)), (1, .int l1), (2, .int l2)] [] (ms σ) := by
  unfold f_X7_drops_32 at h
  refine J_iinc (v := (l2 + 1)) (ls' := [(2, .int (l2 + 1)), (0, .ref (rulX l0)), (1, .int l1)]) 2 dX7_drops_32 rfl rfl (by decide) rfl ?_
  refine J_goto (tgt := 2) dX7_drops_35 (by decide) ?_
  refine J_pick [1, 2, 0] rfl ?_
  exact hrec2 _ _ _ _ _  h
set_option maxRecDepth 20000 in
set_option maxHeartbeats 4000000 in
theorem t_X7_drops_2  : ∀ (n : Nat) (l0 : Nat) (l1 : Int32) (l2 : Int32) (σ : jM) (r : Int32 × jM), f_X7_drops_2  n l0 l1 l2 σ = some r → J mi_X7_drops 1 0 0 (jqI r) 2 [(0, .ref (rulX l0)), (1, .int l1), (2, .int l2)] [] (ms σ) := by
  intro n
  induction n with
  | zero =>
    intro l0 l1 l2 σ r  h
    have h : (none : Option (Int32 × jM)) = some r := h
    cases h
  | succ n ih =>
    intro l0 l1 l2 σ r  h
    have h : s_X7_drops_2  (f_X7_drops_2  n) l0 l1 l2 σ = some r := h
    unfold s_X7_drops_2 at h
    refine J_iload_n 2 dX7_drops_2 rfl ?_
    refine J_aload_n 0 dX7_drops_3 rfl ?_
    refine M_getI gf_X7_57_6 dX7_drops_4 (kk_rul l0) (nn_rul l0) ?_
    refine J_icmp_ge (tgt := 38) dX7_drops_7 (by decide) (fun c8 => ?_) (fun c8 => ?_)
    · have h := (if_pos c8).symm.trans h
      refine J_iconst (v := 0) dX7_drops_38 (by decide) ?_
      exact J_ret (v := some (.int 0)) rfl ⟨dX7_drops_39, Or.inr (Or.inl ⟨rfl, Or.inl rfl⟩)⟩ (jqI_mk h)
    · have h := (if_neg c8).symm.trans h
      refine J_aload_n 0 dX7_drops_10 rfl ?_
      refine M_getR gf_X7_9_6 dX7_drops_11 (gg_rul2 _ l0) (kk_rul l0) (nn_rul l0) ?_
      refine J_iload_n 2 dX7_drops_14 rfl ?_
      obtain ⟨g9, h⟩ := gd_inv h
      refine M_iald dX7_drops_15 (aa_rul2 l0) (nna_rul2 l0) g9 ?_
      refine J_iconst (v := 3) dX7_drops_16 (by decide) ?_
      refine J_icmp_ne (tgt := 32) dX7_drops_17 (by decide) (fun c10 => ?_) (fun c10 => ?_)
      · have h := (if_neg c10).symm.trans h
        exact t_X7_drops_32 ih _ _ _ _ _  h
      · have h := (if_pos c10).symm.trans h
        refine J_aload_n 0 dX7_drops_20 rfl ?_
        refine M_getR gf_X7_24_6 dX7_drops_21 (gg_rul6 _ l0) (kk_rul l0) (nn_rul l0) ?_
        refine J_iload_n 2 dX7_drops_24 rfl ?_
        obtain ⟨g11, h⟩ := gd_inv h
        refine M_iald dX7_drops_25 (aa_rul6 l0) (nna_rul6 l0) g11 ?_
        refine J_iload_n 1 dX7_drops_26 rfl ?_
        refine J_icmp_ne (tgt := 32) dX7_drops_27 (by decide) (fun c12 => ?_) (fun c12 => ?_)
        · have h := (if_neg c12).symm.trans h
          exact t_X7_drops_32 ih _ _ _ _ _  h
        · have h := (if_pos c12).symm.trans h
          refine J_iconst (v := 1) dX7_drops_30 (by decide) ?_
          exact J_ret (v := some (.int 1)) rfl ⟨dX7_drops_31, Or.inr (Or.inl ⟨rfl, Or.inr rfl⟩)⟩ (jqI_mk h)
set_option maxRecDepth 20000 in
set_option maxHeartbeats 4000000 in
theorem t_X7_drops {t0 : Nat} {a1 : Int32} {σ : jM} {r : Int32 × jM}  (h : f_X7_drops t0 a1 σ = some r) : J mi_X7_drops 1 0 0 (jqI r) 0 [(0, .ref (rulX t0)), (1, .int a1)] [] (ms σ) := by
  unfold f_X7_drops at h
  refine J_iconst (v := 0) dX7_drops_0 (by decide) ?_
  refine J_istore_n (i := 2) (ls' := [(2, .int 0), (0, .ref (rulX t0)), (1, .int a1)]) dX7_drops_1 rfl (by decide) rfl ?_
  refine J_pick [1, 2, 0] rfl ?_
  exact t_X7_drops_2  _ _ _ _ _ _  h
theorem dX8_rowOfName_0 : decode cX8_rowOfName 0 = .ok (.iconst 0, 1) := by decide +kernel
theorem dX8_rowOfName_1 : decode cX8_rowOfName 1 = .ok (.istore_n 2, 1) := by decide +kernel
theorem dX8_rowOfName_2 : decode cX8_rowOfName 2 = .ok (.iload_n 2, 1) := by decide +kernel
theorem dX8_rowOfName_3 : decode cX8_rowOfName 3 = .ok (.aload_n 0, 1) := by decide +kernel
theorem dX8_rowOfName_4 : decode cX8_rowOfName 4 = .ok (.getfield 56, 3) := by decide +kernel
theorem dX8_rowOfName_7 : decode cX8_rowOfName 7 = .ok (.if_icmp .ge 26, 3) := by decide +kernel
theorem dX8_rowOfName_10 : decode cX8_rowOfName 10 = .ok (.aload_n 0, 1) := by decide +kernel
theorem dX8_rowOfName_11 : decode cX8_rowOfName 11 = .ok (.getfield 18, 3) := by decide +kernel
theorem dX8_rowOfName_14 : decode cX8_rowOfName 14 = .ok (.iload_n 2, 1) := by decide +kernel
theorem dX8_rowOfName_15 : decode cX8_rowOfName 15 = .ok (.iaload, 1) := by decide +kernel
theorem dX8_rowOfName_16 : decode cX8_rowOfName 16 = .ok (.iload_n 1, 1) := by decide +kernel
theorem dX8_rowOfName_17 : decode cX8_rowOfName 17 = .ok (.if_icmp .ne 10, 3) := by decide +kernel
theorem dX8_rowOfName_20 : decode cX8_rowOfName 20 = .ok (.aload_n 0, 1) := by decide +kernel
theorem dX8_rowOfName_21 : decode cX8_rowOfName 21 = .ok (.getfield 32, 3) := by decide +kernel
theorem dX8_rowOfName_24 : decode cX8_rowOfName 24 = .ok (.iload_n 2, 1) := by decide +kernel
theorem dX8_rowOfName_25 : decode cX8_rowOfName 25 = .ok (.iaload, 1) := by decide +kernel
theorem dX8_rowOfName_26 : decode cX8_rowOfName 26 = .ok (.ireturn, 1) := by decide +kernel
theorem dX8_rowOfName_27 : decode cX8_rowOfName 27 = .ok (.iinc 2 1, 3) := by decide +kernel
theorem dX8_rowOfName_30 : decode cX8_rowOfName 30 = .ok (.goto (-28), 3) := by decide +kernel
theorem dX8_rowOfName_33 : decode cX8_rowOfName 33 = .ok (.iconst (-1), 1) := by decide +kernel
theorem dX8_rowOfName_34 : decode cX8_rowOfName 34 = .ok (.ireturn, 1) := by decide +kernel
noncomputable def s_X8_rowOfName_2  (rec2 : Int32 → Int32 → jM → Option (Int32 × jM)) (l1 : Int32) (l2 : Int32) (σ : jM) : Option (Int32 × jM) :=
  (if (rI σ 296 5) ≤ l2 then some ((-1), σ) else gd (inb l2 7) ((if (rI σ 299 (Int32.toNatClampNeg l2)) = l1 then gd (inb l2 7) (some ((rI σ 310 (Int32.toNatClampNeg l2)), σ)) else rec2 l1 (l2 + 1) σ)))
noncomputable def f_X8_rowOfName_2  (n : Nat) : Int32 → Int32 → jM → Option (Int32 × jM) := Nat.rec (motive := fun _ => Int32 → Int32 → jM → Option (Int32 × jM)) (fun _ _ _ => none) (fun _ q => s_X8_rowOfName_2  q) n
noncomputable def f_X8_rowOfName (a1 : Int32) (σ : jM) : Option (Int32 × jM) :=
  f_X8_rowOfName_2  Fu a1 0 σ
set_option maxRecDepth 20000 in
set_option maxHeartbeats 4000000 in
theorem t_X8_rowOfName_2  : ∀ (n : Nat) (l1 : Int32) (l2 : Int32) (σ : jM) (r : Int32 × jM), f_X8_rowOfName_2  n l1 l2 σ = some r → J mi_X8_rowOfName 1 0 0 (jqI r) 2 [(0, .ref 296), (1, .int l1), (2, .int l2)] [] (ms σ) := by
  intro n
  induction n with
  | zero =>
    intro l1 l2 σ r  h
    have h : (none : Option (Int32 × jM)) = some r := h
    cases h
  | succ n ih =>
    intro l1 l2 σ r  h
    have h : s_X8_rowOfName_2  (f_X8_rowOfName_2  n) l1 l2 σ = some r := h
    unfold s_X8_rowOfName_2 at h
    refine J_iload_n 2 dX8_rowOfName_2 rfl ?_
    refine J_aload_n 0 dX8_rowOfName_3 rfl ?_
    refine M_getI gf_X8_56_7 dX8_rowOfName_4 k_296 n_296 ?_
    refine J_icmp_ge (tgt := 33) dX8_rowOfName_7 (by decide) (fun c7 => ?_) (fun c7 => ?_)
    · have h := (if_pos c7).symm.trans h
      refine J_iconst (v := (-1)) dX8_rowOfName_33 (by decide) ?_
      exact J_ret (v := some (.int (-1))) rfl ⟨dX8_rowOfName_34, Or.inl rfl⟩ (jqI_mk h)
    · have h := (if_neg c7).symm.trans h
      refine J_aload_n 0 dX8_rowOfName_10 rfl ?_
      refine M_getR gf_X8_18_7 dX8_rowOfName_11 (g_296_6 _) k_296 n_296 ?_
      refine J_iload_n 2 dX8_rowOfName_14 rfl ?_
      obtain ⟨g8, h⟩ := gd_inv h
      refine M_iald dX8_rowOfName_15 a_299 n_299 g8 ?_
      refine J_iload_n 1 dX8_rowOfName_16 rfl ?_
      refine J_icmp_ne (tgt := 27) dX8_rowOfName_17 (by decide) (fun c9 => ?_) (fun c9 => ?_)
      · have h := (if_neg c9).symm.trans h
        refine J_iinc (v := (l2 + 1)) (ls' := [(2, .int (l2 + 1)), (0, .ref 296), (1, .int l1)]) 2 dX8_rowOfName_27 rfl rfl (by decide) rfl ?_
        refine J_goto (tgt := 2) dX8_rowOfName_30 (by decide) ?_
        refine J_pick [1, 2, 0] rfl ?_
        exact ih _ _ _ _  h
      · have h := (if_pos c9).symm.trans h
        refine J_aload_n 0 dX8_rowOfName_20 rfl ?_
        refine M_getR gf_X8_32_7 dX8_rowOfName_21 (g_296_10 _) k_296 n_296 ?_
        refine J_iload_n 2 dX8_rowOfName_24 rfl ?_
        obtain ⟨g10, h⟩ := gd_inv h
        refine M_iald dX8_rowOfName_25 a_310 n_310 g10 ?_
        exact J_ret (v := some (.int (rI σ 310 (Int32.toNatClampNeg l2)))) rfl ⟨dX8_rowOfName_26, Or.inl rfl⟩ (jqI_mk h)
set_option maxRecDepth 20000 in
set_option maxHeartbeats 4000000 in
theorem t_X8_rowOfName {a1 : Int32} {σ : jM} {r : Int32 × jM}  (h : f_X8_rowOfName a1 σ = some r) : J mi_X8_rowOfName 1 0 0 (jqI r) 0 [(0, .ref 296), (1, .int a1)] [] (ms σ) := by
  unfold f_X8_rowOfName at h
  refine J_iconst (v := 0) dX8_rowOfName_0 (by decide) ?_
  refine J_istore_n (i := 2) (ls' := [(2, .int 0), (0, .ref 296), (1, .int a1)]) dX8_rowOfName_1 rfl (by decide) rfl ?_
  refine J_pick [1, 2, 0] rfl ?_
  exact t_X8_rowOfName_2  _ _ _ _ _  h
theorem dX8_everySeatHasRows_0 : decode cX8_everySeatHasRows 0 = .ok (.iconst 0, 1) := by decide +kernel
theorem dX8_everySeatHasRows_1 : decode cX8_everySeatHasRows 1 = .ok (.istore_n 1, 1) := by decide +kernel
theorem dX8_everySeatHasRows_2 : decode cX8_everySeatHasRows 2 = .ok (.iload_n 1, 1) := by decide +kernel
theorem dX8_everySeatHasRows_3 : decode cX8_everySeatHasRows 3 = .ok (.aload_n 0, 1) := by decide +kernel
theorem dX8_everySeatHasRows_4 : decode cX8_everySeatHasRows 4 = .ok (.getfield 56, 3) := by decide +kernel
theorem dX8_everySeatHasRows_7 : decode cX8_everySeatHasRows 7 = .ok (.if_icmp .ge 76, 3) := by decide +kernel
theorem dX8_everySeatHasRows_10 : decode cX8_everySeatHasRows 10 = .ok (.aload_n 0, 1) := by decide +kernel
theorem dX8_everySeatHasRows_11 : decode cX8_everySeatHasRows 11 = .ok (.getfield 48, 3) := by decide +kernel
theorem dX8_everySeatHasRows_14 : decode cX8_everySeatHasRows 14 = .ok (.getfield 136, 3) := by decide +kernel
theorem dX8_everySeatHasRows_17 : decode cX8_everySeatHasRows 17 = .ok (.aload_n 0, 1) := by decide +kernel
theorem dX8_everySeatHasRows_18 : decode cX8_everySeatHasRows 18 = .ok (.getfield 21, 3) := by decide +kernel
theorem dX8_everySeatHasRows_21 : decode cX8_everySeatHasRows 21 = .ok (.iload_n 1, 1) := by decide +kernel
theorem dX8_everySeatHasRows_22 : decode cX8_everySeatHasRows 22 = .ok (.iaload, 1) := by decide +kernel
theorem dX8_everySeatHasRows_23 : decode cX8_everySeatHasRows 23 = .ok (.aaload, 1) := by decide +kernel
theorem dX8_everySeatHasRows_24 : decode cX8_everySeatHasRows 24 = .ok (.astore_n 2, 1) := by decide +kernel
theorem dX8_everySeatHasRows_25 : decode cX8_everySeatHasRows 25 = .ok (.iconst 0, 1) := by decide +kernel
theorem dX8_everySeatHasRows_26 : decode cX8_everySeatHasRows 26 = .ok (.istore_n 3, 1) := by decide +kernel
theorem dX8_everySeatHasRows_27 : decode cX8_everySeatHasRows 27 = .ok (.iconst 0, 1) := by decide +kernel
theorem dX8_everySeatHasRows_28 : decode cX8_everySeatHasRows 28 = .ok (.istore 4, 2) := by decide +kernel
theorem dX8_everySeatHasRows_30 : decode cX8_everySeatHasRows 30 = .ok (.iload 4, 2) := by decide +kernel
theorem dX8_everySeatHasRows_32 : decode cX8_everySeatHasRows 32 = .ok (.aload_n 2, 1) := by decide +kernel
theorem dX8_everySeatHasRows_33 : decode cX8_everySeatHasRows 33 = .ok (.getfield 140, 3) := by decide +kernel
theorem dX8_everySeatHasRows_36 : decode cX8_everySeatHasRows 36 = .ok (.if_icmp .ge 35, 3) := by decide +kernel
theorem dX8_everySeatHasRows_39 : decode cX8_everySeatHasRows 39 = .ok (.iload_n 3, 1) := by decide +kernel
theorem dX8_everySeatHasRows_40 : decode cX8_everySeatHasRows 40 = .ok (.ifCond .ne 31, 3) := by decide +kernel
theorem dX8_everySeatHasRows_43 : decode cX8_everySeatHasRows 43 = .ok (.aload_n 2, 1) := by decide +kernel
theorem dX8_everySeatHasRows_44 : decode cX8_everySeatHasRows 44 = .ok (.getfield 168, 3) := by decide +kernel
theorem dX8_everySeatHasRows_47 : decode cX8_everySeatHasRows 47 = .ok (.iload 4, 2) := by decide +kernel
theorem dX8_everySeatHasRows_49 : decode cX8_everySeatHasRows 49 = .ok (.iaload, 1) := by decide +kernel
theorem dX8_everySeatHasRows_50 : decode cX8_everySeatHasRows 50 = .ok (.aload_n 0, 1) := by decide +kernel
theorem dX8_everySeatHasRows_51 : decode cX8_everySeatHasRows 51 = .ok (.getfield 24, 3) := by decide +kernel
theorem dX8_everySeatHasRows_54 : decode cX8_everySeatHasRows 54 = .ok (.iload_n 1, 1) := by decide +kernel
theorem dX8_everySeatHasRows_55 : decode cX8_everySeatHasRows 55 = .ok (.iaload, 1) := by decide +kernel
theorem dX8_everySeatHasRows_56 : decode cX8_everySeatHasRows 56 = .ok (.if_icmp .ne 7, 3) := by decide +kernel
theorem dX8_everySeatHasRows_59 : decode cX8_everySeatHasRows 59 = .ok (.iconst 1, 1) := by decide +kernel
theorem dX8_everySeatHasRows_60 : decode cX8_everySeatHasRows 60 = .ok (.goto 4, 3) := by decide +kernel
theorem dX8_everySeatHasRows_63 : decode cX8_everySeatHasRows 63 = .ok (.iconst 0, 1) := by decide +kernel
theorem dX8_everySeatHasRows_64 : decode cX8_everySeatHasRows 64 = .ok (.istore_n 3, 1) := by decide +kernel
theorem dX8_everySeatHasRows_65 : decode cX8_everySeatHasRows 65 = .ok (.iinc 4 1, 3) := by decide +kernel
theorem dX8_everySeatHasRows_68 : decode cX8_everySeatHasRows 68 = .ok (.goto (-38), 3) := by decide +kernel
theorem dX8_everySeatHasRows_71 : decode cX8_everySeatHasRows 71 = .ok (.iload_n 3, 1) := by decide +kernel
theorem dX8_everySeatHasRows_72 : decode cX8_everySeatHasRows 72 = .ok (.ifCond .ne 5, 3) := by decide +kernel
theorem dX8_everySeatHasRows_75 : decode cX8_everySeatHasRows 75 = .ok (.iconst 0, 1) := by decide +kernel
theorem dX8_everySeatHasRows_76 : decode cX8_everySeatHasRows 76 = .ok (.ireturn, 1) := by decide +kernel
theorem dX8_everySeatHasRows_77 : decode cX8_everySeatHasRows 77 = .ok (.iinc 1 1, 3) := by decide +kernel
theorem dX8_everySeatHasRows_80 : decode cX8_everySeatHasRows 80 = .ok (.goto (-78), 3) := by decide +kernel
theorem dX8_everySeatHasRows_83 : decode cX8_everySeatHasRows 83 = .ok (.iconst 1, 1) := by decide +kernel
theorem dX8_everySeatHasRows_84 : decode cX8_everySeatHasRows 84 = .ok (.ireturn, 1) := by decide +kernel
noncomputable def f_X8_everySeatHasRows_71 (rec2 : Int32 → jM → Option (Int32 × jM)) (l1 : Int32) (l3 : Int32) (σ : jM) : Option (Int32 × jM) :=
  (if l3 = 0 then some (0, σ) else rec2 (l1 + 1) σ)
noncomputable def f_X8_everySeatHasRows_64 (rec2 : Int32 → jM → Option (Int32 × jM)) (rec30 : Int32 → Nat → Int32 → Int32 → jM → Option (Int32 × jM)) (l1 : Int32) (l2 : Nat) (l4 : Int32) (s0 : Int32) (σ : jM) : Option (Int32 × jM) :=
  rec30 l1 l2 s0 (l4 + 1) σ
noncomputable def s_X8_everySeatHasRows_30 (rec2 : Int32 → jM → Option (Int32 × jM)) (rec30 : Int32 → Nat → Int32 → Int32 → jM → Option (Int32 × jM)) (l1 : Int32) (l2 : Nat) (l3 : Int32) (l4 : Int32) (σ : jM) : Option (Int32 × jM) :=
  (if (rI σ (tabX l2) 2) ≤ l4 then f_X8_everySeatHasRows_71 rec2 l1 l3 σ else (if l3 = 0 then gd (inb l4 8) (gd (inb l1 7) ((if (rI σ (tabX l2 + 1) (Int32.toNatClampNeg l4)) = (rI σ 301 (Int32.toNatClampNeg l1)) then f_X8_everySeatHasRows_64 rec2 rec30 l1 l2 l4 1 σ else f_X8_everySeatHasRows_64 rec2 rec30 l1 l2 l4 0 σ))) else f_X8_everySeatHasRows_71 rec2 l1 l3 σ))
noncomputable def f_X8_everySeatHasRows_30 (rec2 : Int32 → jM → Option (Int32 × jM)) (n : Nat) : Int32 → Nat → Int32 → Int32 → jM → Option (Int32 × jM) := Nat.rec (motive := fun _ => Int32 → Nat → Int32 → Int32 → jM → Option (Int32 × jM)) (fun _ _ _ _ _ => none) (fun _ q => s_X8_everySeatHasRows_30 rec2 q) n
noncomputable def s_X8_everySeatHasRows_2  (rec2 : Int32 → jM → Option (Int32 × jM)) (l1 : Int32) (σ : jM) : Option (Int32 × jM) :=
  (if (rI σ 296 5) ≤ l1 then some (1, σ) else gd (inb l1 7) (gd (inb (rI σ 300 (Int32.toNatClampNeg l1)) 24) (f_X8_everySeatHasRows_30 rec2 Fu l1 (Int32.toNatClampNeg (rI σ 300 (Int32.toNatClampNeg l1))) 0 0 σ)))
noncomputable def f_X8_everySeatHasRows_2  (n : Nat) : Int32 → jM → Option (Int32 × jM) := Nat.rec (motive := fun _ => Int32 → jM → Option (Int32 × jM)) (fun _ _ => none) (fun _ q => s_X8_everySeatHasRows_2  q) n
noncomputable def f_X8_everySeatHasRows  (σ : jM) : Option (Int32 × jM) :=
  f_X8_everySeatHasRows_2  Fu 0 σ
set_option maxRecDepth 20000 in
set_option maxHeartbeats 4000000 in
theorem t_X8_everySeatHasRows_71 {rec2 : Int32 → jM → Option (Int32 × jM)} (hrec2 : ∀ (l1 : Int32) (σ : jM) (r : Int32 × jM), rec2 l1 σ = some r → J mi_X8_everySeatHasRows 1 0 0 (jqI r) 2 [(0, .ref 296), (1, .int l1)] [] (ms σ)) (l1 : Int32) (l3 : Int32) (σ : jM) (r : Int32 × jM)  (h : f_X8_everySeatHasRows_71 rec2 l1 l3 σ = some r) : J mi_X8_everySeatHasRows 1 0 0 (jqI r) 71 [(0, .ref 296), (1, .int l1), (3, .int l3)] [] (ms σ) := by
  unfold f_X8_everySeatHasRows_71 at h
  refine J_iload_n 2 dX8_everySeatHasRows_71 rfl ?_
  refine J_if_ne (tgt := 77) dX8_everySeatHasRows_72 (by decide) (fun c6 => ?_) (fun c6 => ?_)
  · have h := (if_neg c6).symm.trans h
    refine J_iinc (v := (l1 + 1)) (ls' := [(1, .int (l1 + 1)), (0, .ref 296), (3, .int l3)]) 1 dX8_everySeatHasRows_77 rfl rfl (by decide) rfl ?_
    refine J_goto (tgt := 2) dX8_everySeatHasRows_80 (by decide) ?_
    refine J_pick [1, 0] rfl ?_
    exact hrec2 _ _ _  h
  · have h := (if_pos c6).symm.trans h
    refine J_iconst (v := 0) dX8_everySeatHasRows_75 (by decide) ?_
    exact J_ret (v := some (.int 0)) rfl ⟨dX8_everySeatHasRows_76, Or.inr (Or.inl ⟨rfl, Or.inl rfl⟩)⟩ (jqI_mk h)
set_option maxRecDepth 20000 in
set_option maxHeartbeats 4000000 in
theorem t_X8_everySeatHasRows_64 {rec2 : Int32 → jM → Option (Int32 × jM)} (hrec2 : ∀ (l1 : Int32) (σ : jM) (r : Int32 × jM), rec2 l1 σ = some r → J mi_X8_everySeatHasRows 1 0 0 (jqI r) 2 [(0, .ref 296), (1, .int l1)] [] (ms σ)) {rec30 : Int32 → Nat → Int32 → Int32 → jM → Option (Int32 × jM)} (hrec30 : ∀ (l1 : Int32) (l2 : Nat) (l3 : Int32) (l4 : Int32) (σ : jM) (r : Int32 × jM), l2 < 24 → rec30 l1 l2 l3 l4 σ = some r → J mi_X8_everySeatHasRows 1 0 0 (jqI r) 30 [(0, .ref 296), (1, .int l1), (2, .ref (tabX l2)), (3, .int l3), (4, .int l4)] [] (ms σ)) (l1 : Int32) (l2 : Nat) (l4 : Int32) (s0 : Int32) (σ : jM) (r : Int32 × jM) (hl2 : l2 < 24) (h : f_X8_everySeatHasRows_64 rec2 rec30 l1 l2 l4 s0 σ = some r) : J mi_X8_everySeatHasRows 1 0 0 (jqI r) 64 [(0, .ref 296), (1, .int l1), (2, .ref (tabX l2)), (4, .int l4)] [.int s0] (ms σ) := by
  unfold f_X8_everySeatHasRows_64 at h
  refine J_istore_n (i := 3) (ls' := [(3, .int s0), (0, .ref 296), (1, .int l1), (2, .ref (tabX l2)), (4, .int l4)]) dX8_everySeatHasRows_64 rfl (by decide) rfl ?_
  refine J_iinc (v := (l4 + 1)) (ls' := [(4, .int (l4 + 1)), (3, .int s0), (0, .ref 296), (1, .int l1), (2, .ref (tabX l2))]) 4 dX8_everySeatHasRows_65 rfl rfl (by decide) rfl ?_
  refine J_goto (tgt := 30) dX8_everySeatHasRows_68 (by decide) ?_
  refine J_pick [2, 3, 4, 1, 0] rfl ?_
  exact hrec30 _ _ _ _ _ _ hl2 h
set_option maxRecDepth 20000 in
set_option maxHeartbeats 4000000 in
theorem t_X8_everySeatHasRows_30 {rec2 : Int32 → jM → Option (Int32 × jM)} (hrec2 : ∀ (l1 : Int32) (σ : jM) (r : Int32 × jM), rec2 l1 σ = some r → J mi_X8_everySeatHasRows 1 0 0 (jqI r) 2 [(0, .ref 296), (1, .int l1)] [] (ms σ)) : ∀ (n : Nat) (l1 : Int32) (l2 : Nat) (l3 : Int32) (l4 : Int32) (σ : jM) (r : Int32 × jM), l2 < 24 → f_X8_everySeatHasRows_30 rec2 n l1 l2 l3 l4 σ = some r → J mi_X8_everySeatHasRows 1 0 0 (jqI r) 30 [(0, .ref 296), (1, .int l1), (2, .ref (tabX l2)), (3, .int l3), (4, .int l4)] [] (ms σ) := by
  intro n
  induction n with
  | zero =>
    intro l1 l2 l3 l4 σ r hl2 h
    have h : (none : Option (Int32 × jM)) = some r := h
    cases h
  | succ n ih =>
    intro l1 l2 l3 l4 σ r hl2 h
    have h : s_X8_everySeatHasRows_30 rec2 (f_X8_everySeatHasRows_30 rec2 n) l1 l2 l3 l4 σ = some r := h
    unfold s_X8_everySeatHasRows_30 at h
    refine J_iload 4 dX8_everySeatHasRows_30 rfl ?_
    refine J_aload_n 2 dX8_everySeatHasRows_32 rfl ?_
    refine M_getI gf_X8_140_9 dX8_everySeatHasRows_33 (k_tab hl2) (n_tab hl2) ?_
    refine J_icmp_ge (tgt := 71) dX8_everySeatHasRows_36 (by decide) (fun c12 => ?_) (fun c12 => ?_)
    · have h := (if_pos c12).symm.trans h
      refine J_pick [0, 1, 3] rfl ?_
      exact t_X8_everySeatHasRows_71 hrec2 _ _ _ _  h
    · have h := (if_neg c12).symm.trans h
      refine J_iload_n 3 dX8_everySeatHasRows_39 rfl ?_
      refine J_if_ne (tgt := 71) dX8_everySeatHasRows_40 (by decide) (fun c13 => ?_) (fun c13 => ?_)
      · have h := (if_neg c13).symm.trans h
        refine J_pick [0, 1, 3] rfl ?_
        exact t_X8_everySeatHasRows_71 hrec2 _ _ _ _  h
      · have h := (if_pos c13).symm.trans h
        refine J_aload_n 2 dX8_everySeatHasRows_43 rfl ?_
        refine M_getR gf_X8_168_9 dX8_everySeatHasRows_44 (g_tab3 _ hl2) (k_tab hl2) (n_tab hl2) ?_
        refine J_iload 4 dX8_everySeatHasRows_47 rfl ?_
        obtain ⟨g14, h⟩ := gd_inv h
        refine M_iald dX8_everySeatHasRows_49 (a_tab3 hl2) (na_tab3 hl2) g14 ?_
        refine J_aload_n 0 dX8_everySeatHasRows_50 rfl ?_
        refine M_getR gf_X8_24_7 dX8_everySeatHasRows_51 (g_296_8 _) k_296 n_296 ?_
        refine J_iload_n 1 dX8_everySeatHasRows_54 rfl ?_
        obtain ⟨g15, h⟩ := gd_inv h
        refine M_iald dX8_everySeatHasRows_55 a_301 n_301 g15 ?_
        refine J_icmp_ne (tgt := 63) dX8_everySeatHasRows_56 (by decide) (fun c16 => ?_) (fun c16 => ?_)
        · have h := (if_neg c16).symm.trans h
          refine J_iconst (v := 0) dX8_everySeatHasRows_63 (by decide) ?_
          refine J_pick [0, 1, 2, 4] rfl ?_
          exact t_X8_everySeatHasRows_64 hrec2 ih _ _ _ _ _ _ hl2 h
        · have h := (if_pos c16).symm.trans h
          refine J_iconst (v := 1) dX8_everySeatHasRows_59 (by decide) ?_
          refine J_goto (tgt := 64) dX8_everySeatHasRows_60 (by decide) ?_
          refine J_pick [0, 1, 2, 4] rfl ?_
          exact t_X8_everySeatHasRows_64 hrec2 ih _ _ _ _ _ _ hl2 h
set_option maxRecDepth 20000 in
set_option maxHeartbeats 4000000 in
theorem t_X8_everySeatHasRows_2  : ∀ (n : Nat) (l1 : Int32) (σ : jM) (r : Int32 × jM), f_X8_everySeatHasRows_2  n l1 σ = some r → J mi_X8_everySeatHasRows 1 0 0 (jqI r) 2 [(0, .ref 296), (1, .int l1)] [] (ms σ) := by
  intro n
  induction n with
  | zero =>
    intro l1 σ r  h
    have h : (none : Option (Int32 × jM)) = some r := h
    cases h
  | succ n ih =>
    intro l1 σ r  h
    have h : s_X8_everySeatHasRows_2  (f_X8_everySeatHasRows_2  n) l1 σ = some r := h
    unfold s_X8_everySeatHasRows_2 at h
    refine J_iload_n 1 dX8_everySeatHasRows_2 rfl ?_
    refine J_aload_n 0 dX8_everySeatHasRows_3 rfl ?_
    refine M_getI gf_X8_56_7 dX8_everySeatHasRows_4 k_296 n_296 ?_
    refine J_icmp_ge (tgt := 83) dX8_everySeatHasRows_7 (by decide) (fun c20 => ?_) (fun c20 => ?_)
    · have h := (if_pos c20).symm.trans h
      refine J_iconst (v := 1) dX8_everySeatHasRows_83 (by decide) ?_
      exact J_ret (v := some (.int 1)) rfl ⟨dX8_everySeatHasRows_84, Or.inr (Or.inl ⟨rfl, Or.inr rfl⟩)⟩ (jqI_mk h)
    · have h := (if_neg c20).symm.trans h
      refine J_aload_n 0 dX8_everySeatHasRows_10 rfl ?_
      refine M_getR gf_X8_48_7 dX8_everySeatHasRows_11 (g_296_3 _) k_296 n_296 ?_
      refine M_getR gf_X8_136_0 dX8_everySeatHasRows_14 (g_3_1 _) k_3 n_3 ?_
      refine J_aload_n 0 dX8_everySeatHasRows_17 rfl ?_
      refine M_getR gf_X8_21_7 dX8_everySeatHasRows_18 (g_296_7 _) k_296 n_296 ?_
      refine J_iload_n 1 dX8_everySeatHasRows_21 rfl ?_
      obtain ⟨g21, h⟩ := gd_inv h
      refine M_iald dX8_everySeatHasRows_22 a_300 n_300 g21 ?_
      obtain ⟨g22, h⟩ := gd_inv h
      refine M_aald dX8_everySeatHasRows_23 a_4 (by decide) n_4 g22 (r_tab _ g22.2) ?_
      refine J_astore_n (i := 2) (ls' := [(2, .ref (tabX (Int32.toNatClampNeg (rI σ 300 (Int32.toNatClampNeg l1))))), (0, .ref 296), (1, .int l1)]) dX8_everySeatHasRows_24 rfl (by decide) rfl ?_
      refine J_iconst (v := 0) dX8_everySeatHasRows_25 (by decide) ?_
      refine J_istore_n (i := 3) (ls' := [(3, .int 0), (2, .ref (tabX (Int32.toNatClampNeg (rI σ 300 (Int32.toNatClampNeg l1))))), (0, .ref 296), (1, .int l1)]) dX8_everySeatHasRows_26 rfl (by decide) rfl ?_
      refine J_iconst (v := 0) dX8_everySeatHasRows_27 (by decide) ?_
      refine J_istore (i := 4) (ls' := [(4, .int 0), (3, .int 0), (2, .ref (tabX (Int32.toNatClampNeg (rI σ 300 (Int32.toNatClampNeg l1))))), (0, .ref 296), (1, .int l1)]) dX8_everySeatHasRows_28 (by decide) rfl ?_
      refine J_pick [3, 4, 2, 1, 0] rfl ?_
      exact t_X8_everySeatHasRows_30 ih _ _ _ _ _ _ _ g22.2 h
set_option maxRecDepth 20000 in
set_option maxHeartbeats 4000000 in
theorem t_X8_everySeatHasRows  {σ : jM} {r : Int32 × jM}  (h : f_X8_everySeatHasRows  σ = some r) : J mi_X8_everySeatHasRows 1 0 0 (jqI r) 0 [(0, .ref 296)] [] (ms σ) := by
  unfold f_X8_everySeatHasRows at h
  refine J_iconst (v := 0) dX8_everySeatHasRows_0 (by decide) ?_
  refine J_istore_n (i := 1) (ls' := [(1, .int 0), (0, .ref 296)]) dX8_everySeatHasRows_1 rfl (by decide) rfl ?_
  refine J_pick [1, 0] rfl ?_
  exact t_X8_everySeatHasRows_2  _ _ _ _  h
theorem dX8_isOpen_0 : decode cX8_isOpen 0 = .ok (.aload_n 0, 1) := by decide +kernel
theorem dX8_isOpen_1 : decode cX8_isOpen 1 = .ok (.getfield 21, 3) := by decide +kernel
theorem dX8_isOpen_4 : decode cX8_isOpen 4 = .ok (.iload_n 1, 1) := by decide +kernel
theorem dX8_isOpen_5 : decode cX8_isOpen 5 = .ok (.iaload, 1) := by decide +kernel
theorem dX8_isOpen_6 : decode cX8_isOpen 6 = .ok (.istore_n 3, 1) := by decide +kernel
theorem dX8_isOpen_7 : decode cX8_isOpen 7 = .ok (.aload_n 0, 1) := by decide +kernel
theorem dX8_isOpen_8 : decode cX8_isOpen 8 = .ok (.getfield 48, 3) := by decide +kernel
theorem dX8_isOpen_11 : decode cX8_isOpen 11 = .ok (.getfield 136, 3) := by decide +kernel
theorem dX8_isOpen_14 : decode cX8_isOpen 14 = .ok (.iload_n 3, 1) := by decide +kernel
theorem dX8_isOpen_15 : decode cX8_isOpen 15 = .ok (.aaload, 1) := by decide +kernel
theorem dX8_isOpen_16 : decode cX8_isOpen 16 = .ok (.getfield 168, 3) := by decide +kernel
theorem dX8_isOpen_19 : decode cX8_isOpen 19 = .ok (.iload_n 2, 1) := by decide +kernel
theorem dX8_isOpen_20 : decode cX8_isOpen 20 = .ok (.iaload, 1) := by decide +kernel
theorem dX8_isOpen_21 : decode cX8_isOpen 21 = .ok (.aload_n 0, 1) := by decide +kernel
theorem dX8_isOpen_22 : decode cX8_isOpen 22 = .ok (.getfield 24, 3) := by decide +kernel
theorem dX8_isOpen_25 : decode cX8_isOpen 25 = .ok (.iload_n 1, 1) := by decide +kernel
theorem dX8_isOpen_26 : decode cX8_isOpen 26 = .ok (.iaload, 1) := by decide +kernel
theorem dX8_isOpen_27 : decode cX8_isOpen 27 = .ok (.if_icmp .eq 5, 3) := by decide +kernel
theorem dX8_isOpen_30 : decode cX8_isOpen 30 = .ok (.iconst 0, 1) := by decide +kernel
theorem dX8_isOpen_31 : decode cX8_isOpen 31 = .ok (.ireturn, 1) := by decide +kernel
theorem dX8_isOpen_32 : decode cX8_isOpen 32 = .ok (.iconst 0, 1) := by decide +kernel
theorem dX8_isOpen_33 : decode cX8_isOpen 33 = .ok (.istore 4, 2) := by decide +kernel
theorem dX8_isOpen_35 : decode cX8_isOpen 35 = .ok (.iload 4, 2) := by decide +kernel
theorem dX8_isOpen_37 : decode cX8_isOpen 37 = .ok (.bipush 7, 2) := by decide +kernel
theorem dX8_isOpen_39 : decode cX8_isOpen 39 = .ok (.if_icmp .ge 33, 3) := by decide +kernel
theorem dX8_isOpen_42 : decode cX8_isOpen 42 = .ok (.aload_n 0, 1) := by decide +kernel
theorem dX8_isOpen_43 : decode cX8_isOpen 43 = .ok (.getfield 32, 3) := by decide +kernel
theorem dX8_isOpen_46 : decode cX8_isOpen 46 = .ok (.iload 4, 2) := by decide +kernel
theorem dX8_isOpen_48 : decode cX8_isOpen 48 = .ok (.iaload, 1) := by decide +kernel
theorem dX8_isOpen_49 : decode cX8_isOpen 49 = .ok (.iload_n 2, 1) := by decide +kernel
theorem dX8_isOpen_50 : decode cX8_isOpen 50 = .ok (.if_icmp .ne 16, 3) := by decide +kernel
theorem dX8_isOpen_53 : decode cX8_isOpen 53 = .ok (.aload_n 0, 1) := by decide +kernel
theorem dX8_isOpen_54 : decode cX8_isOpen 54 = .ok (.getfield 21, 3) := by decide +kernel
theorem dX8_isOpen_57 : decode cX8_isOpen 57 = .ok (.iload 4, 2) := by decide +kernel
theorem dX8_isOpen_59 : decode cX8_isOpen 59 = .ok (.iaload, 1) := by decide +kernel
theorem dX8_isOpen_60 : decode cX8_isOpen 60 = .ok (.iload_n 3, 1) := by decide +kernel
theorem dX8_isOpen_61 : decode cX8_isOpen 61 = .ok (.if_icmp .ne 5, 3) := by decide +kernel
theorem dX8_isOpen_64 : decode cX8_isOpen 64 = .ok (.iconst 0, 1) := by decide +kernel
theorem dX8_isOpen_65 : decode cX8_isOpen 65 = .ok (.ireturn, 1) := by decide +kernel
theorem dX8_isOpen_66 : decode cX8_isOpen 66 = .ok (.iinc 4 1, 3) := by decide +kernel
theorem dX8_isOpen_69 : decode cX8_isOpen 69 = .ok (.goto (-34), 3) := by decide +kernel
theorem dX8_isOpen_72 : decode cX8_isOpen 72 = .ok (.iconst 1, 1) := by decide +kernel
theorem dX8_isOpen_73 : decode cX8_isOpen 73 = .ok (.ireturn, 1) := by decide +kernel
noncomputable def f_X8_isOpen_66 (rec35 : Int32 → Int32 → Int32 → jM → Option (Int32 × jM)) (l2 : Int32) (l3 : Int32) (l4 : Int32) (σ : jM) : Option (Int32 × jM) :=
  rec35 l2 l3 (l4 + 1) σ
noncomputable def s_X8_isOpen_35  (rec35 : Int32 → Int32 → Int32 → jM → Option (Int32 × jM)) (l2 : Int32) (l3 : Int32) (l4 : Int32) (σ : jM) : Option (Int32 × jM) :=
  (if 7 ≤ l4 then some (1, σ) else gd (inb l4 7) ((if (rI σ 310 (Int32.toNatClampNeg l4)) = l2 then gd (inb l4 7) ((if (rI σ 300 (Int32.toNatClampNeg l4)) = l3 then some (0, σ) else f_X8_isOpen_66 rec35 l2 l3 l4 σ)) else f_X8_isOpen_66 rec35 l2 l3 l4 σ)))
noncomputable def f_X8_isOpen_35  (n : Nat) : Int32 → Int32 → Int32 → jM → Option (Int32 × jM) := Nat.rec (motive := fun _ => Int32 → Int32 → Int32 → jM → Option (Int32 × jM)) (fun _ _ _ _ => none) (fun _ q => s_X8_isOpen_35  q) n
noncomputable def f_X8_isOpen (a1 : Int32) (a2 : Int32) (σ : jM) : Option (Int32 × jM) :=
  gd (inb a1 7) (gd (inb (rI σ 300 (Int32.toNatClampNeg a1)) 24) (gd (inb a2 8) (gd (inb a1 7) ((if (rI σ (tabX (Int32.toNatClampNeg (rI σ 300 (Int32.toNatClampNeg a1))) + 1) (Int32.toNatClampNeg a2)) = (rI σ 301 (Int32.toNatClampNeg a1)) then f_X8_isOpen_35  Fu a2 (rI σ 300 (Int32.toNatClampNeg a1)) 0 σ else some (0, σ))))))
set_option maxRecDepth 20000 in
set_option maxHeartbeats 4000000 in
theorem t_X8_isOpen_66 {rec35 : Int32 → Int32 → Int32 → jM → Option (Int32 × jM)} (hrec35 : ∀ (l2 : Int32) (l3 : Int32) (l4 : Int32) (σ : jM) (r : Int32 × jM), rec35 l2 l3 l4 σ = some r → J mi_X8_isOpen 1 0 0 (jqI r) 35 [(0, .ref 296), (2, .int l2), (3, .int l3), (4, .int l4)] [] (ms σ)) (l2 : Int32) (l3 : Int32) (l4 : Int32) (σ : jM) (r : Int32 × jM)  (h : f_X8_isOpen_66 rec35 l2 l3 l4 σ = some r) : J mi_X8_isOpen 1 0 0 (jqI r) 66 [(0, .ref 296), (2, .int l2), (3, .int l3), (4, .int l4)] [] (ms σ) := by
  unfold f_X8_isOpen_66 at h
  refine J_iinc (v := (l4 + 1)) (ls' := [(4, .int (l4 + 1)), (0, .ref 296), (2, .int l2), (3, .int l3)]) 3 dX8_isOpen_66 rfl rfl (by decide) rfl ?_
  refine J_goto (tgt := 35) dX8_isOpen_69 (by decide) ?_
  refine J_pick [1, 2, 3, 0] rfl ?_
  exact hrec35 _ _ _ _ _  h
set_option maxRecDepth 20000 in
set_option maxHeartbeats 4000000 in
theorem t_X8_isOpen_35  : ∀ (n : Nat) (l2 : Int32) (l3 : Int32) (l4 : Int32) (σ : jM) (r : Int32 × jM), f_X8_isOpen_35  n l2 l3 l4 σ = some r → J mi_X8_isOpen 1 0 0 (jqI r) 35 [(0, .ref 296), (2, .int l2), (3, .int l3), (4, .int l4)] [] (ms σ) := by
  intro n
  induction n with
  | zero =>
    intro l2 l3 l4 σ r  h
    have h : (none : Option (Int32 × jM)) = some r := h
    cases h
  | succ n ih =>
    intro l2 l3 l4 σ r  h
    have h : s_X8_isOpen_35  (f_X8_isOpen_35  n) l2 l3 l4 σ = some r := h
    unfold s_X8_isOpen_35 at h
    refine J_iload 3 dX8_isOpen_35 rfl ?_
    refine J_bipush (v := 7) dX8_isOpen_37 (by decide) ?_
    refine J_icmp_ge (tgt := 72) dX8_isOpen_39 (by decide) (fun c12 => ?_) (fun c12 => ?_)
    · have h := (if_pos c12).symm.trans h
      refine J_iconst (v := 1) dX8_isOpen_72 (by decide) ?_
      exact J_ret (v := some (.int 1)) rfl ⟨dX8_isOpen_73, Or.inr (Or.inl ⟨rfl, Or.inr rfl⟩)⟩ (jqI_mk h)
    · have h := (if_neg c12).symm.trans h
      refine J_aload_n 0 dX8_isOpen_42 rfl ?_
      refine M_getR gf_X8_32_7 dX8_isOpen_43 (g_296_10 _) k_296 n_296 ?_
      refine J_iload 3 dX8_isOpen_46 rfl ?_
      obtain ⟨g13, h⟩ := gd_inv h
      refine M_iald dX8_isOpen_48 a_310 n_310 g13 ?_
      refine J_iload_n 1 dX8_isOpen_49 rfl ?_
      refine J_icmp_ne (tgt := 66) dX8_isOpen_50 (by decide) (fun c14 => ?_) (fun c14 => ?_)
      · have h := (if_neg c14).symm.trans h
        exact t_X8_isOpen_66 ih _ _ _ _ _  h
      · have h := (if_pos c14).symm.trans h
        refine J_aload_n 0 dX8_isOpen_53 rfl ?_
        refine M_getR gf_X8_21_7 dX8_isOpen_54 (g_296_7 _) k_296 n_296 ?_
        refine J_iload 3 dX8_isOpen_57 rfl ?_
        obtain ⟨g15, h⟩ := gd_inv h
        refine M_iald dX8_isOpen_59 a_300 n_300 g15 ?_
        refine J_iload_n 2 dX8_isOpen_60 rfl ?_
        refine J_icmp_ne (tgt := 66) dX8_isOpen_61 (by decide) (fun c16 => ?_) (fun c16 => ?_)
        · have h := (if_neg c16).symm.trans h
          exact t_X8_isOpen_66 ih _ _ _ _ _  h
        · have h := (if_pos c16).symm.trans h
          refine J_iconst (v := 0) dX8_isOpen_64 (by decide) ?_
          exact J_ret (v := some (.int 0)) rfl ⟨dX8_isOpen_65, Or.inr (Or.inl ⟨rfl, Or.inl rfl⟩)⟩ (jqI_mk h)
set_option maxRecDepth 20000 in
set_option maxHeartbeats 4000000 in
theorem t_X8_isOpen {a1 : Int32} {a2 : Int32} {σ : jM} {r : Int32 × jM}  (h : f_X8_isOpen a1 a2 σ = some r) : J mi_X8_isOpen 1 0 0 (jqI r) 0 [(0, .ref 296), (1, .int a1), (2, .int a2)] [] (ms σ) := by
  unfold f_X8_isOpen at h
  refine J_aload_n 0 dX8_isOpen_0 rfl ?_
  refine M_getR gf_X8_21_7 dX8_isOpen_1 (g_296_7 _) k_296 n_296 ?_
  refine J_iload_n 1 dX8_isOpen_4 rfl ?_
  obtain ⟨g17, h⟩ := gd_inv h
  refine M_iald dX8_isOpen_5 a_300 n_300 g17 ?_
  refine J_istore_n (i := 3) (ls' := [(3, .int (rI σ 300 (Int32.toNatClampNeg a1))), (0, .ref 296), (1, .int a1), (2, .int a2)]) dX8_isOpen_6 rfl (by decide) rfl ?_
  refine J_aload_n 1 dX8_isOpen_7 rfl ?_
  refine M_getR gf_X8_48_7 dX8_isOpen_8 (g_296_3 _) k_296 n_296 ?_
  refine M_getR gf_X8_136_0 dX8_isOpen_11 (g_3_1 _) k_3 n_3 ?_
  refine J_iload_n 0 dX8_isOpen_14 rfl ?_
  obtain ⟨g18, h⟩ := gd_inv h
  refine M_aald dX8_isOpen_15 a_4 (by decide) n_4 g18 (r_tab _ g18.2) ?_
  refine M_getR gf_X8_168_9 dX8_isOpen_16 (g_tab3 _ g18.2) (k_tab g18.2) (n_tab g18.2) ?_
  refine J_iload_n 3 dX8_isOpen_19 rfl ?_
  obtain ⟨g19, h⟩ := gd_inv h
  refine M_iald dX8_isOpen_20 (a_tab3 g18.2) (na_tab3 g18.2) g19 ?_
  refine J_aload_n 1 dX8_isOpen_21 rfl ?_
  refine M_getR gf_X8_24_7 dX8_isOpen_22 (g_296_8 _) k_296 n_296 ?_
  refine J_iload_n 2 dX8_isOpen_25 rfl ?_
  obtain ⟨g20, h⟩ := gd_inv h
  refine M_iald dX8_isOpen_26 a_301 n_301 g20 ?_
  refine J_icmp_eq (tgt := 32) dX8_isOpen_27 (by decide) (fun c21 => ?_) (fun c21 => ?_)
  · have h := (if_pos c21).symm.trans h
    refine J_iconst (v := 0) dX8_isOpen_32 (by decide) ?_
    refine J_istore (i := 4) (ls' := [(4, .int 0), (3, .int (rI σ 300 (Int32.toNatClampNeg a1))), (0, .ref 296), (1, .int a1), (2, .int a2)]) dX8_isOpen_33 (by decide) rfl ?_
    refine J_pick [2, 4, 1, 0] rfl ?_
    exact t_X8_isOpen_35  _ _ _ _ _ _  h
  · have h := (if_neg c21).symm.trans h
    refine J_iconst (v := 0) dX8_isOpen_30 (by decide) ?_
    exact J_ret (v := some (.int 0)) rfl ⟨dX8_isOpen_31, Or.inr (Or.inl ⟨rfl, Or.inl rfl⟩)⟩ (jqI_mk h)
theorem dX8_agreesBy_0 : decode cX8_agreesBy 0 = .ok (.aload_n 0, 1) := by decide +kernel
theorem dX8_agreesBy_1 : decode cX8_agreesBy 1 = .ok (.getfield 52, 3) := by decide +kernel
theorem dX8_agreesBy_4 : decode cX8_agreesBy 4 = .ok (.getfield 197, 3) := by decide +kernel
theorem dX8_agreesBy_7 : decode cX8_agreesBy 7 = .ok (.iload_n 1, 1) := by decide +kernel
theorem dX8_agreesBy_8 : decode cX8_agreesBy 8 = .ok (.aaload, 1) := by decide +kernel
theorem dX8_agreesBy_9 : decode cX8_agreesBy 9 = .ok (.iload_n 2, 1) := by decide +kernel
theorem dX8_agreesBy_10 : decode cX8_agreesBy 10 = .ok (.laload, 1) := by decide +kernel
theorem dX8_agreesBy_11 : decode cX8_agreesBy 11 = .ok (.aload_n 0, 1) := by decide +kernel
theorem dX8_agreesBy_12 : decode cX8_agreesBy 12 = .ok (.getfield 155, 3) := by decide +kernel
theorem dX8_agreesBy_15 : decode cX8_agreesBy 15 = .ok (.land, 1) := by decide +kernel
theorem dX8_agreesBy_16 : decode cX8_agreesBy 16 = .ok (.lload_n 3, 1) := by decide +kernel
theorem dX8_agreesBy_17 : decode cX8_agreesBy 17 = .ok (.ldc2_w 203, 3) := by decide +kernel
theorem dX8_agreesBy_20 : decode cX8_agreesBy 20 = .ok (.lxor, 1) := by decide +kernel
theorem dX8_agreesBy_21 : decode cX8_agreesBy 21 = .ok (.land, 1) := by decide +kernel
theorem dX8_agreesBy_22 : decode cX8_agreesBy 22 = .ok (.lconst 0, 1) := by decide +kernel
theorem dX8_agreesBy_23 : decode cX8_agreesBy 23 = .ok (.lcmp, 1) := by decide +kernel
theorem dX8_agreesBy_24 : decode cX8_agreesBy 24 = .ok (.ifCond .ne 25, 3) := by decide +kernel
theorem dX8_agreesBy_27 : decode cX8_agreesBy 27 = .ok (.aload_n 0, 1) := by decide +kernel
theorem dX8_agreesBy_28 : decode cX8_agreesBy 28 = .ok (.getfield 52, 3) := by decide +kernel
theorem dX8_agreesBy_31 : decode cX8_agreesBy 31 = .ok (.getfield 205, 3) := by decide +kernel
theorem dX8_agreesBy_34 : decode cX8_agreesBy 34 = .ok (.iload_n 1, 1) := by decide +kernel
theorem dX8_agreesBy_35 : decode cX8_agreesBy 35 = .ok (.aaload, 1) := by decide +kernel
theorem dX8_agreesBy_36 : decode cX8_agreesBy 36 = .ok (.iload_n 2, 1) := by decide +kernel
theorem dX8_agreesBy_37 : decode cX8_agreesBy 37 = .ok (.laload, 1) := by decide +kernel
theorem dX8_agreesBy_38 : decode cX8_agreesBy 38 = .ok (.lload_n 3, 1) := by decide +kernel
theorem dX8_agreesBy_39 : decode cX8_agreesBy 39 = .ok (.land, 1) := by decide +kernel
theorem dX8_agreesBy_40 : decode cX8_agreesBy 40 = .ok (.lconst 0, 1) := by decide +kernel
theorem dX8_agreesBy_41 : decode cX8_agreesBy 41 = .ok (.lcmp, 1) := by decide +kernel
theorem dX8_agreesBy_42 : decode cX8_agreesBy 42 = .ok (.ifCond .ne 7, 3) := by decide +kernel
theorem dX8_agreesBy_45 : decode cX8_agreesBy 45 = .ok (.iconst 1, 1) := by decide +kernel
theorem dX8_agreesBy_46 : decode cX8_agreesBy 46 = .ok (.goto 4, 3) := by decide +kernel
theorem dX8_agreesBy_49 : decode cX8_agreesBy 49 = .ok (.iconst 0, 1) := by decide +kernel
theorem dX8_agreesBy_50 : decode cX8_agreesBy 50 = .ok (.ireturn, 1) := by decide +kernel
noncomputable def f_X8_agreesBy_50  (s0 : Int32) (σ : jM) : Option (Int32 × jM) :=
  gd (s0 = 0 ∨ s0 = 1) (some (s0, σ))
noncomputable def f_X8_agreesBy_49   (σ : jM) : Option (Int32 × jM) :=
  f_X8_agreesBy_50  0 σ
noncomputable def f_X8_agreesBy (a1 : Int32) (a2 : Int32) (a3 : Int64) (σ : jM) : Option (Int32 × jM) :=
  gd (inb a1 2) (gd (inb a2 40) ((if (lg_cmp (((rL σ (285 + (Int32.toNatClampNeg a1)) (Int32.toNatClampNeg a2)) &&& (rL σ 296 13)) &&& (a3 ^^^ (-1))) 0) = 0 then gd (inb a1 2) (gd (inb a2 40) ((if (lg_cmp ((rL σ (282 + (Int32.toNatClampNeg a1)) (Int32.toNatClampNeg a2)) &&& a3) 0) = 0 then f_X8_agreesBy_50  1 σ else f_X8_agreesBy_49   σ))) else f_X8_agreesBy_49   σ)))
set_option maxRecDepth 20000 in
set_option maxHeartbeats 4000000 in
theorem t_X8_agreesBy_50  (s0 : Int32) (σ : jM) (r : Int32 × jM)  (h : f_X8_agreesBy_50  s0 σ = some r) : J mi_X8_agreesBy 1 0 0 (jqI r) 50 [] [.int s0] (ms σ) := by
  unfold f_X8_agreesBy_50 at h
  obtain ⟨g6, h⟩ := gd_inv h
  exact J_ret (v := some (.int s0)) rfl ⟨dX8_agreesBy_50, Or.inr (Or.inl ⟨rfl, g6⟩)⟩ (jqI_mk h)
set_option maxRecDepth 20000 in
set_option maxHeartbeats 4000000 in
theorem t_X8_agreesBy_49   (σ : jM) (r : Int32 × jM)  (h : f_X8_agreesBy_49   σ = some r) : J mi_X8_agreesBy 1 0 0 (jqI r) 49 [] [] (ms σ) := by
  unfold f_X8_agreesBy_49 at h
  refine J_iconst (v := 0) dX8_agreesBy_49 (by decide) ?_
  exact t_X8_agreesBy_50  _ _ _  h
set_option maxRecDepth 20000 in
set_option maxHeartbeats 4000000 in
theorem t_X8_agreesBy {a1 : Int32} {a2 : Int32} {a3 : Int64} {σ : jM} {r : Int32 × jM}  (h : f_X8_agreesBy a1 a2 a3 σ = some r) : J mi_X8_agreesBy 1 0 0 (jqI r) 0 [(0, .ref 296), (1, .int a1), (2, .int a2), (3, .long a3)] [] (ms σ) := by
  unfold f_X8_agreesBy at h
  refine J_aload_n 0 dX8_agreesBy_0 rfl ?_
  refine M_getR gf_X8_52_7 dX8_agreesBy_1 (g_296_4 _) k_296 n_296 ?_
  refine M_getR gf_X8_197_3 dX8_agreesBy_4 (g_264_4 _) k_264 n_264 ?_
  refine J_iload_n 1 dX8_agreesBy_7 rfl ?_
  obtain ⟨g7, h⟩ := gd_inv h
  refine M_aald dX8_agreesBy_8 a_284 (by decide) n_284 g7 (r_row284 _ g7.2) ?_
  refine J_iload_n 2 dX8_agreesBy_9 rfl ?_
  obtain ⟨g8, h⟩ := gd_inv h
  refine M_lald dX8_agreesBy_10 (a_row284 g7.2) (na_row284 g7.2) g8 ?_
  refine J_aload_n 0 dX8_agreesBy_11 rfl ?_
  refine M_getL gf_X8_155_7 dX8_agreesBy_12 k_296 n_296 ?_
  refine J_land dX8_agreesBy_15 ?_
  refine J_lload_n 3 dX8_agreesBy_16 rfl ?_
  refine J_ldc2 dX8_agreesBy_17 ct_X8_203 ?_
  refine J_lxor dX8_agreesBy_20 ?_
  refine J_land dX8_agreesBy_21 ?_
  refine J_lconst (v := 0) dX8_agreesBy_22 (by decide) ?_
  refine J_lcmp dX8_agreesBy_23 ?_
  refine J_if_ne (tgt := 49) dX8_agreesBy_24 (by decide) (fun c9 => ?_) (fun c9 => ?_)
  · have h := (if_neg c9).symm.trans h
    refine J_pick [] rfl ?_
    exact t_X8_agreesBy_49   _ _  h
  · have h := (if_pos c9).symm.trans h
    refine J_aload_n 0 dX8_agreesBy_27 rfl ?_
    refine M_getR gf_X8_52_7 dX8_agreesBy_28 (g_296_4 _) k_296 n_296 ?_
    refine M_getR gf_X8_205_3 dX8_agreesBy_31 (g_264_3 _) k_264 n_264 ?_
    refine J_iload_n 1 dX8_agreesBy_34 rfl ?_
    obtain ⟨g10, h⟩ := gd_inv h
    refine M_aald dX8_agreesBy_35 a_281 (by decide) n_281 g10 (r_row281 _ g10.2) ?_
    refine J_iload_n 2 dX8_agreesBy_36 rfl ?_
    obtain ⟨g11, h⟩ := gd_inv h
    refine M_lald dX8_agreesBy_37 (a_row281 g10.2) (na_row281 g10.2) g11 ?_
    refine J_lload_n 3 dX8_agreesBy_38 rfl ?_
    refine J_land dX8_agreesBy_39 ?_
    refine J_lconst (v := 0) dX8_agreesBy_40 (by decide) ?_
    refine J_lcmp dX8_agreesBy_41 ?_
    refine J_if_ne (tgt := 49) dX8_agreesBy_42 (by decide) (fun c12 => ?_) (fun c12 => ?_)
    · have h := (if_neg c12).symm.trans h
      refine J_pick [] rfl ?_
      exact t_X8_agreesBy_49   _ _  h
    · have h := (if_pos c12).symm.trans h
      refine J_iconst (v := 1) dX8_agreesBy_45 (by decide) ?_
      refine J_goto (tgt := 50) dX8_agreesBy_46 (by decide) ?_
      refine J_pick [] rfl ?_
      exact t_X8_agreesBy_50  _ _ _  h
theorem dX8_give_0 : decode cX8_give 0 = .ok (.lconst 1, 1) := by decide +kernel
theorem dX8_give_1 : decode cX8_give 1 = .ok (.iload_n 1, 1) := by decide +kernel
theorem dX8_give_2 : decode cX8_give 2 = .ok (.lshl, 1) := by decide +kernel
theorem dX8_give_3 : decode cX8_give 3 = .ok (.lstore_n 3, 1) := by decide +kernel
theorem dX8_give_4 : decode cX8_give 4 = .ok (.aload_n 0, 1) := by decide +kernel
theorem dX8_give_5 : decode cX8_give 5 = .ok (.getfield 15, 3) := by decide +kernel
theorem dX8_give_8 : decode cX8_give 8 = .ok (.iload_n 1, 1) := by decide +kernel
theorem dX8_give_9 : decode cX8_give 9 = .ok (.iload_n 2, 1) := by decide +kernel
theorem dX8_give_10 : decode cX8_give 10 = .ok (.iastore, 1) := by decide +kernel
theorem dX8_give_11 : decode cX8_give 11 = .ok (.aload_n 0, 1) := by decide +kernel
theorem dX8_give_12 : decode cX8_give 12 = .ok (.dup, 1) := by decide +kernel
theorem dX8_give_13 : decode cX8_give 13 = .ok (.getfield 155, 3) := by decide +kernel
theorem dX8_give_16 : decode cX8_give 16 = .ok (.lload_n 3, 1) := by decide +kernel
theorem dX8_give_17 : decode cX8_give 17 = .ok (.lor, 1) := by decide +kernel
theorem dX8_give_18 : decode cX8_give 18 = .ok (.putfield 155, 3) := by decide +kernel
theorem dX8_give_21 : decode cX8_give 21 = .ok (.aload_n 0, 1) := by decide +kernel
theorem dX8_give_22 : decode cX8_give 22 = .ok (.getfield 41, 3) := by decide +kernel
theorem dX8_give_25 : decode cX8_give 25 = .ok (.iload_n 2, 1) := by decide +kernel
theorem dX8_give_26 : decode cX8_give 26 = .ok (.iconst 5, 1) := by decide +kernel
theorem dX8_give_27 : decode cX8_give 27 = .ok (.idiv, 1) := by decide +kernel
theorem dX8_give_28 : decode cX8_give 28 = .ok (.dup2, 1) := by decide +kernel
theorem dX8_give_29 : decode cX8_give 29 = .ok (.laload, 1) := by decide +kernel
theorem dX8_give_30 : decode cX8_give 30 = .ok (.lload_n 3, 1) := by decide +kernel
theorem dX8_give_31 : decode cX8_give 31 = .ok (.lor, 1) := by decide +kernel
theorem dX8_give_32 : decode cX8_give 32 = .ok (.lastore, 1) := by decide +kernel
theorem dX8_give_33 : decode cX8_give 33 = .ok (.aload_n 0, 1) := by decide +kernel
theorem dX8_give_34 : decode cX8_give 34 = .ok (.getfield 45, 3) := by decide +kernel
theorem dX8_give_37 : decode cX8_give 37 = .ok (.iload_n 2, 1) := by decide +kernel
theorem dX8_give_38 : decode cX8_give 38 = .ok (.iconst 5, 1) := by decide +kernel
theorem dX8_give_39 : decode cX8_give 39 = .ok (.irem, 1) := by decide +kernel
theorem dX8_give_40 : decode cX8_give 40 = .ok (.dup2, 1) := by decide +kernel
theorem dX8_give_41 : decode cX8_give 41 = .ok (.laload, 1) := by decide +kernel
theorem dX8_give_42 : decode cX8_give 42 = .ok (.lload_n 3, 1) := by decide +kernel
theorem dX8_give_43 : decode cX8_give 43 = .ok (.lor, 1) := by decide +kernel
theorem dX8_give_44 : decode cX8_give 44 = .ok (.lastore, 1) := by decide +kernel
theorem dX8_give_45 : decode cX8_give 45 = .ok (.return_, 1) := by decide +kernel
noncomputable def f_X8_give (a1 : Int32) (a2 : Int32) (σ : jM) : Option (Unit × jM) :=
  gd (inb a1 40) (gd (inb (a2 / 5) 27) (gd (inb (a2 / 5) 27) (gd (inb (a2 - a2 / 5 * 5) 5) (gd (inb (a2 - a2 / 5 * 5) 5) (some ((), wL (wL (wL (wI σ 298 (Int32.toNatClampNeg a1) a2) 296 13 ((rL (wI σ 298 (Int32.toNatClampNeg a1) a2) 296 13) ||| (jlshl 1 a1))) 320 (Int32.toNatClampNeg (a2 / 5)) ((rL (wL (wI σ 298 (Int32.toNatClampNeg a1) a2) 296 13 ((rL (wI σ 298 (Int32.toNatClampNeg a1) a2) 296 13) ||| (jlshl 1 a1))) 320 (Int32.toNatClampNeg (a2 / 5))) ||| (jlshl 1 a1))) 321 (Int32.toNatClampNeg (a2 - a2 / 5 * 5)) ((rL (wL (wL (wI σ 298 (Int32.toNatClampNeg a1) a2) 296 13 ((rL (wI σ 298 (Int32.toNatClampNeg a1) a2) 296 13) ||| (jlshl 1 a1))) 320 (Int32.toNatClampNeg (a2 / 5)) ((rL (wL (wI σ 298 (Int32.toNatClampNeg a1) a2) 296 13 ((rL (wI σ 298 (Int32.toNatClampNeg a1) a2) 296 13) ||| (jlshl 1 a1))) 320 (Int32.toNatClampNeg (a2 / 5))) ||| (jlshl 1 a1))) 321 (Int32.toNatClampNeg (a2 - a2 / 5 * 5))) ||| (jlshl 1 a1))))))))
set_option maxRecDepth 20000 in
set_option maxHeartbeats 4000000 in
theorem t_X8_give {a1 : Int32} {a2 : Int32} {σ : jM} {r : Unit × jM}  (h : f_X8_give a1 a2 σ = some r) : J mi_X8_give 1 0 0 (jqV r) 0 [(0, .ref 296), (1, .int a1), (2, .int a2)] [] (ms σ) := by
  unfold f_X8_give at h
  refine J_lconst (v := 1) dX8_give_0 (by decide) ?_
  refine J_iload_n 1 dX8_give_1 rfl ?_
  refine J_lshl dX8_give_2 ?_
  refine J_lstore_n (i := 3) (ls' := [(3, .long (jlshl 1 a1)), (0, .ref 296), (1, .int a1), (2, .int a2)]) dX8_give_3 rfl (by decide) rfl ?_
  refine J_aload_n 1 dX8_give_4 rfl ?_
  refine M_getR gf_X8_15_7 dX8_give_5 (g_296_2 _) k_296 n_296 ?_
  refine J_iload_n 2 dX8_give_8 rfl ?_
  refine J_iload_n 3 dX8_give_9 rfl ?_
  obtain ⟨g6, h⟩ := gd_inv h
  refine M_iast dX8_give_10 a_298 n_298 g6 ?_
  refine J_aload_n 1 dX8_give_11 rfl ?_
  refine J_dup dX8_give_12 rfl ?_
  refine M_getL gf_X8_155_7 dX8_give_13 k_296 n_296 ?_
  refine J_lload_n 0 dX8_give_16 rfl ?_
  refine J_lor dX8_give_17 ?_
  refine M_putL pf_X8_155_7 dX8_give_18 k_296 n_296 ?_
  refine J_aload_n 1 dX8_give_21 rfl ?_
  refine M_getR gf_X8_41_7 dX8_give_22 (g_296_14 _) k_296 n_296 ?_
  refine J_iload_n 3 dX8_give_25 rfl ?_
  refine J_iconst (v := 5) dX8_give_26 (by decide) ?_
  refine J_idiv dX8_give_27 (by decide) ?_
  refine J_dup2 dX8_give_28 rfl rfl ?_
  obtain ⟨g7, h⟩ := gd_inv h
  refine M_lald dX8_give_29 a_320 n_320 g7 ?_
  refine J_lload_n 0 dX8_give_30 rfl ?_
  refine J_lor dX8_give_31 ?_
  obtain ⟨g8, h⟩ := gd_inv h
  refine M_last dX8_give_32 a_320 n_320 g8 ?_
  refine J_aload_n 1 dX8_give_33 rfl ?_
  refine M_getR gf_X8_45_7 dX8_give_34 (g_296_15 _) k_296 n_296 ?_
  refine J_iload_n 3 dX8_give_37 rfl ?_
  refine J_iconst (v := 5) dX8_give_38 (by decide) ?_
  refine J_irem dX8_give_39 (by decide) ?_
  refine J_dup2 dX8_give_40 rfl rfl ?_
  obtain ⟨g9, h⟩ := gd_inv h
  refine M_lald dX8_give_41 a_321 n_321 g9 ?_
  refine J_lload_n 0 dX8_give_42 rfl ?_
  refine J_lor dX8_give_43 ?_
  obtain ⟨g10, h⟩ := gd_inv h
  refine M_last dX8_give_44 a_321 n_321 g10 ?_
  exact J_ret (v := none) rfl ⟨dX8_give_45, rfl⟩ (jqV_mk h)
theorem dX8_takeBack_0 : decode cX8_takeBack 0 = .ok (.aload_n 0, 1) := by decide +kernel
theorem dX8_takeBack_1 : decode cX8_takeBack 1 = .ok (.getfield 15, 3) := by decide +kernel
theorem dX8_takeBack_4 : decode cX8_takeBack 4 = .ok (.iload_n 1, 1) := by decide +kernel
theorem dX8_takeBack_5 : decode cX8_takeBack 5 = .ok (.iaload, 1) := by decide +kernel
theorem dX8_takeBack_6 : decode cX8_takeBack 6 = .ok (.istore_n 2, 1) := by decide +kernel
theorem dX8_takeBack_7 : decode cX8_takeBack 7 = .ok (.iload_n 2, 1) := by decide +kernel
theorem dX8_takeBack_8 : decode cX8_takeBack 8 = .ok (.iconst (-1), 1) := by decide +kernel
theorem dX8_takeBack_9 : decode cX8_takeBack 9 = .ok (.if_icmp .ne 4, 3) := by decide +kernel
theorem dX8_takeBack_12 : decode cX8_takeBack 12 = .ok (.return_, 1) := by decide +kernel
theorem dX8_takeBack_13 : decode cX8_takeBack 13 = .ok (.lconst 1, 1) := by decide +kernel
theorem dX8_takeBack_14 : decode cX8_takeBack 14 = .ok (.iload_n 1, 1) := by decide +kernel
theorem dX8_takeBack_15 : decode cX8_takeBack 15 = .ok (.lshl, 1) := by decide +kernel
theorem dX8_takeBack_16 : decode cX8_takeBack 16 = .ok (.ldc2_w 203, 3) := by decide +kernel
theorem dX8_takeBack_19 : decode cX8_takeBack 19 = .ok (.lxor, 1) := by decide +kernel
theorem dX8_takeBack_20 : decode cX8_takeBack 20 = .ok (.lstore_n 3, 1) := by decide +kernel
theorem dX8_takeBack_21 : decode cX8_takeBack 21 = .ok (.aload_n 0, 1) := by decide +kernel
theorem dX8_takeBack_22 : decode cX8_takeBack 22 = .ok (.getfield 15, 3) := by decide +kernel
theorem dX8_takeBack_25 : decode cX8_takeBack 25 = .ok (.iload_n 1, 1) := by decide +kernel
theorem dX8_takeBack_26 : decode cX8_takeBack 26 = .ok (.iconst (-1), 1) := by decide +kernel
theorem dX8_takeBack_27 : decode cX8_takeBack 27 = .ok (.iastore, 1) := by decide +kernel
theorem dX8_takeBack_28 : decode cX8_takeBack 28 = .ok (.aload_n 0, 1) := by decide +kernel
theorem dX8_takeBack_29 : decode cX8_takeBack 29 = .ok (.dup, 1) := by decide +kernel
theorem dX8_takeBack_30 : decode cX8_takeBack 30 = .ok (.getfield 155, 3) := by decide +kernel
theorem dX8_takeBack_33 : decode cX8_takeBack 33 = .ok (.lload_n 3, 1) := by decide +kernel
theorem dX8_takeBack_34 : decode cX8_takeBack 34 = .ok (.land, 1) := by decide +kernel
theorem dX8_takeBack_35 : decode cX8_takeBack 35 = .ok (.putfield 155, 3) := by decide +kernel
theorem dX8_takeBack_38 : decode cX8_takeBack 38 = .ok (.aload_n 0, 1) := by decide +kernel
theorem dX8_takeBack_39 : decode cX8_takeBack 39 = .ok (.getfield 41, 3) := by decide +kernel
theorem dX8_takeBack_42 : decode cX8_takeBack 42 = .ok (.iload_n 2, 1) := by decide +kernel
theorem dX8_takeBack_43 : decode cX8_takeBack 43 = .ok (.iconst 5, 1) := by decide +kernel
theorem dX8_takeBack_44 : decode cX8_takeBack 44 = .ok (.idiv, 1) := by decide +kernel
theorem dX8_takeBack_45 : decode cX8_takeBack 45 = .ok (.dup2, 1) := by decide +kernel
theorem dX8_takeBack_46 : decode cX8_takeBack 46 = .ok (.laload, 1) := by decide +kernel
theorem dX8_takeBack_47 : decode cX8_takeBack 47 = .ok (.lload_n 3, 1) := by decide +kernel
theorem dX8_takeBack_48 : decode cX8_takeBack 48 = .ok (.land, 1) := by decide +kernel
theorem dX8_takeBack_49 : decode cX8_takeBack 49 = .ok (.lastore, 1) := by decide +kernel
theorem dX8_takeBack_50 : decode cX8_takeBack 50 = .ok (.aload_n 0, 1) := by decide +kernel
theorem dX8_takeBack_51 : decode cX8_takeBack 51 = .ok (.getfield 45, 3) := by decide +kernel
theorem dX8_takeBack_54 : decode cX8_takeBack 54 = .ok (.iload_n 2, 1) := by decide +kernel
theorem dX8_takeBack_55 : decode cX8_takeBack 55 = .ok (.iconst 5, 1) := by decide +kernel
theorem dX8_takeBack_56 : decode cX8_takeBack 56 = .ok (.irem, 1) := by decide +kernel
theorem dX8_takeBack_57 : decode cX8_takeBack 57 = .ok (.dup2, 1) := by decide +kernel
theorem dX8_takeBack_58 : decode cX8_takeBack 58 = .ok (.laload, 1) := by decide +kernel
theorem dX8_takeBack_59 : decode cX8_takeBack 59 = .ok (.lload_n 3, 1) := by decide +kernel
theorem dX8_takeBack_60 : decode cX8_takeBack 60 = .ok (.land, 1) := by decide +kernel
theorem dX8_takeBack_61 : decode cX8_takeBack 61 = .ok (.lastore, 1) := by decide +kernel
theorem dX8_takeBack_62 : decode cX8_takeBack 62 = .ok (.return_, 1) := by decide +kernel
noncomputable def f_X8_takeBack (a1 : Int32) (σ : jM) : Option (Unit × jM) :=
  gd (inb a1 40) ((if (rI σ 298 (Int32.toNatClampNeg a1)) = (-1) then some ((), σ) else gd (inb a1 40) (gd (inb ((rI σ 298 (Int32.toNatClampNeg a1)) / 5) 27) (gd (inb ((rI σ 298 (Int32.toNatClampNeg a1)) / 5) 27) (gd (inb ((rI σ 298 (Int32.toNatClampNeg a1)) - (rI σ 298 (Int32.toNatClampNeg a1)) / 5 * 5) 5) (gd (inb ((rI σ 298 (Int32.toNatClampNeg a1)) - (rI σ 298 (Int32.toNatClampNeg a1)) / 5 * 5) 5) (some ((), wL (wL (wL (wI σ 298 (Int32.toNatClampNeg a1) (-1)) 296 13 ((rL (wI σ 298 (Int32.toNatClampNeg a1) (-1)) 296 13) &&& ((jlshl 1 a1) ^^^ (-1)))) 320 (Int32.toNatClampNeg ((rI σ 298 (Int32.toNatClampNeg a1)) / 5)) ((rL (wL (wI σ 298 (Int32.toNatClampNeg a1) (-1)) 296 13 ((rL (wI σ 298 (Int32.toNatClampNeg a1) (-1)) 296 13) &&& ((jlshl 1 a1) ^^^ (-1)))) 320 (Int32.toNatClampNeg ((rI σ 298 (Int32.toNatClampNeg a1)) / 5))) &&& ((jlshl 1 a1) ^^^ (-1)))) 321 (Int32.toNatClampNeg ((rI σ 298 (Int32.toNatClampNeg a1)) - (rI σ 298 (Int32.toNatClampNeg a1)) / 5 * 5)) ((rL (wL (wL (wI σ 298 (Int32.toNatClampNeg a1) (-1)) 296 13 ((rL (wI σ 298 (Int32.toNatClampNeg a1) (-1)) 296 13) &&& ((jlshl 1 a1) ^^^ (-1)))) 320 (Int32.toNatClampNeg ((rI σ 298 (Int32.toNatClampNeg a1)) / 5)) ((rL (wL (wI σ 298 (Int32.toNatClampNeg a1) (-1)) 296 13 ((rL (wI σ 298 (Int32.toNatClampNeg a1) (-1)) 296 13) &&& ((jlshl 1 a1) ^^^ (-1)))) 320 (Int32.toNatClampNeg ((rI σ 298 (Int32.toNatClampNeg a1)) / 5))) &&& ((jlshl 1 a1) ^^^ (-1)))) 321 (Int32.toNatClampNeg ((rI σ 298 (Int32.toNatClampNeg a1)) - (rI σ 298 (Int32.toNatClampNeg a1)) / 5 * 5))) &&& ((jlshl 1 a1) ^^^ (-1)))))))))))
set_option maxRecDepth 20000 in
set_option maxHeartbeats 4000000 in
theorem t_X8_takeBack {a1 : Int32} {σ : jM} {r : Unit × jM}  (h : f_X8_takeBack a1 σ = some r) : J mi_X8_takeBack 1 0 0 (jqV r) 0 [(0, .ref 296), (1, .int a1)] [] (ms σ) := by
  unfold f_X8_takeBack at h
  refine J_aload_n 0 dX8_takeBack_0 rfl ?_
  refine M_getR gf_X8_15_7 dX8_takeBack_1 (g_296_2 _) k_296 n_296 ?_
  refine J_iload_n 1 dX8_takeBack_4 rfl ?_
  obtain ⟨g7, h⟩ := gd_inv h
  refine M_iald dX8_takeBack_5 a_298 n_298 g7 ?_
  refine J_istore_n (i := 2) (ls' := [(2, .int (rI σ 298 (Int32.toNatClampNeg a1))), (0, .ref 296), (1, .int a1)]) dX8_takeBack_6 rfl (by decide) rfl ?_
  refine J_iload_n 0 dX8_takeBack_7 rfl ?_
  refine J_iconst (v := (-1)) dX8_takeBack_8 (by decide) ?_
  refine J_icmp_ne (tgt := 13) dX8_takeBack_9 (by decide) (fun c8 => ?_) (fun c8 => ?_)
  · have h := (if_neg c8).symm.trans h
    refine J_lconst (v := 1) dX8_takeBack_13 (by decide) ?_
    refine J_iload_n 2 dX8_takeBack_14 rfl ?_
    refine J_lshl dX8_takeBack_15 ?_
    refine J_ldc2 dX8_takeBack_16 ct_X8_203 ?_
    refine J_lxor dX8_takeBack_19 ?_
    refine J_lstore_n (i := 3) (ls' := [(3, .long ((jlshl 1 a1) ^^^ (-1))), (2, .int (rI σ 298 (Int32.toNatClampNeg a1))), (0, .ref 296), (1, .int a1)]) dX8_takeBack_20 rfl (by decide) rfl ?_
    refine J_aload_n 2 dX8_takeBack_21 rfl ?_
    refine M_getR gf_X8_15_7 dX8_takeBack_22 (g_296_2 _) k_296 n_296 ?_
    refine J_iload_n 3 dX8_takeBack_25 rfl ?_
    refine J_iconst (v := (-1)) dX8_takeBack_26 (by decide) ?_
    obtain ⟨g9, h⟩ := gd_inv h
    refine M_iast dX8_takeBack_27 a_298 n_298 g9 ?_
    refine J_aload_n 2 dX8_takeBack_28 rfl ?_
    refine J_dup dX8_takeBack_29 rfl ?_
    refine M_getL gf_X8_155_7 dX8_takeBack_30 k_296 n_296 ?_
    refine J_lload_n 0 dX8_takeBack_33 rfl ?_
    refine J_land dX8_takeBack_34 ?_
    refine M_putL pf_X8_155_7 dX8_takeBack_35 k_296 n_296 ?_
    refine J_aload_n 2 dX8_takeBack_38 rfl ?_
    refine M_getR gf_X8_41_7 dX8_takeBack_39 (g_296_14 _) k_296 n_296 ?_
    refine J_iload_n 1 dX8_takeBack_42 rfl ?_
    refine J_iconst (v := 5) dX8_takeBack_43 (by decide) ?_
    refine J_idiv dX8_takeBack_44 (by decide) ?_
    refine J_dup2 dX8_takeBack_45 rfl rfl ?_
    obtain ⟨g10, h⟩ := gd_inv h
    refine M_lald dX8_takeBack_46 a_320 n_320 g10 ?_
    refine J_lload_n 0 dX8_takeBack_47 rfl ?_
    refine J_land dX8_takeBack_48 ?_
    obtain ⟨g11, h⟩ := gd_inv h
    refine M_last dX8_takeBack_49 a_320 n_320 g11 ?_
    refine J_aload_n 2 dX8_takeBack_50 rfl ?_
    refine M_getR gf_X8_45_7 dX8_takeBack_51 (g_296_15 _) k_296 n_296 ?_
    refine J_iload_n 1 dX8_takeBack_54 rfl ?_
    refine J_iconst (v := 5) dX8_takeBack_55 (by decide) ?_
    refine J_irem dX8_takeBack_56 (by decide) ?_
    refine J_dup2 dX8_takeBack_57 rfl rfl ?_
    obtain ⟨g12, h⟩ := gd_inv h
    refine M_lald dX8_takeBack_58 a_321 n_321 g12 ?_
    refine J_lload_n 0 dX8_takeBack_59 rfl ?_
    refine J_land dX8_takeBack_60 ?_
    obtain ⟨g13, h⟩ := gd_inv h
    refine M_last dX8_takeBack_61 a_321 n_321 g13 ?_
    exact J_ret (v := none) rfl ⟨dX8_takeBack_62, rfl⟩ (jqV_mk h)
  · have h := (if_pos c8).symm.trans h
    exact J_ret (v := none) rfl ⟨dX8_takeBack_12, rfl⟩ (jqV_mk h)
