theorem dX13_reason_0 : decode cX13_reason 0 = .ok (.aload_n 0, 1) := by decide +kernel
theorem dX13_reason_1 : decode cX13_reason 1 = .ok (.iconst 0, 1) := by decide +kernel
theorem dX13_reason_2 : decode cX13_reason 2 = .ok (.putfield 1, 3) := by decide +kernel
theorem dX13_reason_5 : decode cX13_reason 5 = .ok (.aload_n 0, 1) := by decide +kernel
theorem dX13_reason_6 : decode cX13_reason 6 = .ok (.iload_n 1, 1) := by decide +kernel
theorem dX13_reason_7 : decode cX13_reason 7 = .ok (.invokevirtual 298, 3) := by decide +kernel
theorem dX13_reason_10 : decode cX13_reason 10 = .ok (.ifCond .eq 20, 3) := by decide +kernel
theorem dX13_reason_13 : decode cX13_reason 13 = .ok (.iload_n 3, 1) := by decide +kernel
theorem dX13_reason_14 : decode cX13_reason 14 = .ok (.iconst 0, 1) := by decide +kernel
theorem dX13_reason_15 : decode cX13_reason 15 = .ok (.iconst 2, 1) := by decide +kernel
theorem dX13_reason_16 : decode cX13_reason 16 = .ok (.invokestatic 169, 3) := by decide +kernel
theorem dX13_reason_19 : decode cX13_reason 19 = .ok (.ifCond .eq 11, 3) := by decide +kernel
theorem dX13_reason_22 : decode cX13_reason 22 = .ok (.aload_n 0, 1) := by decide +kernel
theorem dX13_reason_23 : decode cX13_reason 23 = .ok (.iload_n 1, 1) := by decide +kernel
theorem dX13_reason_24 : decode cX13_reason 24 = .ok (.invokevirtual 371, 3) := by decide +kernel
theorem dX13_reason_27 : decode cX13_reason 27 = .ok (.ifCond .ne 5, 3) := by decide +kernel
theorem dX13_reason_30 : decode cX13_reason 30 = .ok (.iconst (-1), 1) := by decide +kernel
theorem dX13_reason_31 : decode cX13_reason 31 = .ok (.ireturn, 1) := by decide +kernel
theorem dX13_reason_32 : decode cX13_reason 32 = .ok (.aload_n 0, 1) := by decide +kernel
theorem dX13_reason_33 : decode cX13_reason 33 = .ok (.iconst 0, 1) := by decide +kernel
theorem dX13_reason_34 : decode cX13_reason 34 = .ok (.putfield 374, 3) := by decide +kernel
theorem dX13_reason_37 : decode cX13_reason 37 = .ok (.aload_n 0, 1) := by decide +kernel
theorem dX13_reason_38 : decode cX13_reason 38 = .ok (.getfield 365, 3) := by decide +kernel
theorem dX13_reason_41 : decode cX13_reason 41 = .ok (.iconst 1, 1) := by decide +kernel
theorem dX13_reason_42 : decode cX13_reason 42 = .ok (.if_icmp .eq 10, 3) := by decide +kernel
theorem dX13_reason_45 : decode cX13_reason 45 = .ok (.aload_n 0, 1) := by decide +kernel
theorem dX13_reason_46 : decode cX13_reason 46 = .ok (.getfield 368, 3) := by decide +kernel
theorem dX13_reason_49 : decode cX13_reason 49 = .ok (.ifCond .ne 16, 3) := by decide +kernel
theorem dX13_reason_52 : decode cX13_reason 52 = .ok (.aload_n 0, 1) := by decide +kernel
theorem dX13_reason_53 : decode cX13_reason 53 = .ok (.iconst 0, 1) := by decide +kernel
theorem dX13_reason_54 : decode cX13_reason 54 = .ok (.aload_n 0, 1) := by decide +kernel
theorem dX13_reason_55 : decode cX13_reason 55 = .ok (.getfield 359, 3) := by decide +kernel
theorem dX13_reason_58 : decode cX13_reason 58 = .ok (.aload_n 0, 1) := by decide +kernel
theorem dX13_reason_59 : decode cX13_reason 59 = .ok (.getfield 362, 3) := by decide +kernel
theorem dX13_reason_62 : decode cX13_reason 62 = .ok (.invokevirtual 377, 3) := by decide +kernel
theorem dX13_reason_65 : decode cX13_reason 65 = .ok (.aload_n 0, 1) := by decide +kernel
theorem dX13_reason_66 : decode cX13_reason 66 = .ok (.getfield 365, 3) := by decide +kernel
theorem dX13_reason_69 : decode cX13_reason 69 = .ok (.iconst 1, 1) := by decide +kernel
theorem dX13_reason_70 : decode cX13_reason 70 = .ok (.if_icmp .eq 11, 3) := by decide +kernel
theorem dX13_reason_73 : decode cX13_reason 73 = .ok (.aload_n 0, 1) := by decide +kernel
theorem dX13_reason_74 : decode cX13_reason 74 = .ok (.getfield 368, 3) := by decide +kernel
theorem dX13_reason_77 : decode cX13_reason 77 = .ok (.iconst 1, 1) := by decide +kernel
theorem dX13_reason_78 : decode cX13_reason 78 = .ok (.if_icmp .ne 16, 3) := by decide +kernel
theorem dX13_reason_81 : decode cX13_reason 81 = .ok (.aload_n 0, 1) := by decide +kernel
theorem dX13_reason_82 : decode cX13_reason 82 = .ok (.iconst 1, 1) := by decide +kernel
theorem dX13_reason_83 : decode cX13_reason 83 = .ok (.aload_n 0, 1) := by decide +kernel
theorem dX13_reason_84 : decode cX13_reason 84 = .ok (.getfield 359, 3) := by decide +kernel
theorem dX13_reason_87 : decode cX13_reason 87 = .ok (.aload_n 0, 1) := by decide +kernel
theorem dX13_reason_88 : decode cX13_reason 88 = .ok (.getfield 362, 3) := by decide +kernel
theorem dX13_reason_91 : decode cX13_reason 91 = .ok (.invokevirtual 377, 3) := by decide +kernel
theorem dX13_reason_94 : decode cX13_reason 94 = .ok (.iload_n 2, 1) := by decide +kernel
theorem dX13_reason_95 : decode cX13_reason 95 = .ok (.iconst 0, 1) := by decide +kernel
theorem dX13_reason_96 : decode cX13_reason 96 = .ok (.aload_n 0, 1) := by decide +kernel
theorem dX13_reason_97 : decode cX13_reason 97 = .ok (.getfield 374, 3) := by decide +kernel
theorem dX13_reason_100 : decode cX13_reason 100 = .ok (.iconst 1, 1) := by decide +kernel
theorem dX13_reason_101 : decode cX13_reason 101 = .ok (.isub, 1) := by decide +kernel
theorem dX13_reason_102 : decode cX13_reason 102 = .ok (.invokestatic 169, 3) := by decide +kernel
theorem dX13_reason_105 : decode cX13_reason 105 = .ok (.ifCond .eq 16, 3) := by decide +kernel
theorem dX13_reason_108 : decode cX13_reason 108 = .ok (.aload_n 0, 1) := by decide +kernel
theorem dX13_reason_109 : decode cX13_reason 109 = .ok (.getfield 118, 3) := by decide +kernel
theorem dX13_reason_112 : decode cX13_reason 112 = .ok (.iconst 3, 1) := by decide +kernel
theorem dX13_reason_113 : decode cX13_reason 113 = .ok (.iload_n 2, 1) := by decide +kernel
theorem dX13_reason_114 : decode cX13_reason 114 = .ok (.imul, 1) := by decide +kernel
theorem dX13_reason_115 : decode cX13_reason 115 = .ok (.iload_n 3, 1) := by decide +kernel
theorem dX13_reason_116 : decode cX13_reason 116 = .ok (.iadd, 1) := by decide +kernel
theorem dX13_reason_117 : decode cX13_reason 117 = .ok (.iaload, 1) := by decide +kernel
theorem dX13_reason_118 : decode cX13_reason 118 = .ok (.goto 4, 3) := by decide +kernel
theorem dX13_reason_121 : decode cX13_reason 121 = .ok (.iconst (-1), 1) := by decide +kernel
theorem dX13_reason_122 : decode cX13_reason 122 = .ok (.ireturn, 1) := by decide +kernel
noncomputable def f_X13_reason_30   (σ : jM) : Option (Int32 × jM) :=
  some ((-1), σ)
noncomputable def f_X13_reason_122  (s0 : Int32) (σ : jM) : Option (Int32 × jM) :=
  some (s0, σ)
noncomputable def f_X13_reason_94  (l2 : Int32) (l3 : Int32) (σ : jM) : Option (Int32 × jM) :=
  bd (f_X13_within l2 0 ((rI σ 324 53) - 1) σ) (fun r2 σ3 => (if r2 = 0 then f_X13_reason_122  (-1) σ3 else gd (inb ((3 * l2) + l3) 240) (f_X13_reason_122  (rI σ3 358 (Int32.toNatClampNeg ((3 * l2) + l3))) σ3)))
noncomputable def f_X13_reason_81  (l2 : Int32) (l3 : Int32) (σ : jM) : Option (Int32 × jM) :=
  bd (f_X13_walks 1 (rI σ 324 47) (rI σ 324 48) σ) (fun _ σ13 => f_X13_reason_94  l2 l3 σ13)
noncomputable def f_X13_reason_65  (l2 : Int32) (l3 : Int32) (σ : jM) : Option (Int32 × jM) :=
  (if (rI σ 324 49) = 1 then f_X13_reason_81  l2 l3 σ else (if (rI σ 324 51) = 1 then f_X13_reason_81  l2 l3 σ else f_X13_reason_94  l2 l3 σ))
noncomputable def f_X13_reason_52  (l2 : Int32) (l3 : Int32) (σ : jM) : Option (Int32 × jM) :=
  bd (f_X13_walks 0 (rI σ 324 47) (rI σ 324 48) σ) (fun _ σ23 => f_X13_reason_65  l2 l3 σ23)
noncomputable def f_X13_reason (a1 : Int32) (a2 : Int32) (a3 : Int32) (σ : jM) : Option (Int32 × jM) :=
  bd (f_X13_isKnown a1 (wI σ 324 0 0)) (fun r28 σ29 => (if r28 = 0 then f_X13_reason_30   σ29 else bd (f_X13_within a3 0 2 σ29) (fun r32 σ33 => (if r32 = 0 then f_X13_reason_30   σ33 else bd (f_X13_findClash a1 σ33) (fun r36 σ37 => (if r36 = 0 then f_X13_reason_30   σ37 else (if (rI (wI σ37 324 53 0) 324 49) = 1 then f_X13_reason_52  a2 a3 (wI σ37 324 53 0) else (if (rI (wI σ37 324 53 0) 324 51) = 0 then f_X13_reason_52  a2 a3 (wI σ37 324 53 0) else f_X13_reason_65  a2 a3 (wI σ37 324 53 0)))))))))
set_option maxRecDepth 20000 in
set_option maxHeartbeats 4000000 in
theorem t_X13_reason_30   (σ : jM) (r : Int32 × jM)  (h : f_X13_reason_30   σ = some r) : J mi_X13_reason 6 0 0 (jqI r) 30 [] [] (ms σ) := by
  unfold f_X13_reason_30 at h
  refine J_iconst (v := (-1)) dX13_reason_30 (by decide) ?_
  exact J_ret (v := some (.int (-1))) rfl ⟨dX13_reason_31, Or.inl rfl⟩ (jqI_mk h)
set_option maxRecDepth 20000 in
set_option maxHeartbeats 4000000 in
theorem t_X13_reason_122  (s0 : Int32) (σ : jM) (r : Int32 × jM)  (h : f_X13_reason_122  s0 σ = some r) : J mi_X13_reason 6 0 0 (jqI r) 122 [] [.int s0] (ms σ) := by
  unfold f_X13_reason_122 at h
  exact J_ret (v := some (.int s0)) rfl ⟨dX13_reason_122, Or.inl rfl⟩ (jqI_mk h)
set_option maxRecDepth 20000 in
set_option maxHeartbeats 4000000 in
theorem t_X13_reason_94  (l2 : Int32) (l3 : Int32) (σ : jM) (r : Int32 × jM)  (h : f_X13_reason_94  l2 l3 σ = some r) : J mi_X13_reason 6 0 0 (jqI r) 94 [(0, .ref 324), (2, .int l2), (3, .int l3)] [] (ms σ) := by
  unfold f_X13_reason_94 at h
  refine J_iload_n 1 dX13_reason_94 rfl ?_
  refine J_iconst (v := 0) dX13_reason_95 (by decide) ?_
  refine J_aload_n 0 dX13_reason_96 rfl ?_
  refine M_getI gf_X13_374_12 dX13_reason_97 k_324 n_324 ?_
  refine J_iconst (v := 1) dX13_reason_100 (by decide) ?_
  refine J_isub dX13_reason_101 ?_
  obtain ⟨r7, σ8, h9, h⟩ := bd_inv h
  refine M_callSI (d' := 1) (As := [.int l2, .int 0, .int ((rI σ 324 53) - 1)]) (st := []) cs_X13_169 dX13_reason_102 rfl (Nat.le_of_ble_eq_true rfl) (Nat.le_of_ble_eq_true rfl) (by decide) rfl rfl (t_X13_within  h9) ?_
  refine J_if_eq (tgt := 121) dX13_reason_105 (by decide) (fun c10 => ?_) (fun c10 => ?_)
  · have h := (if_pos c10).symm.trans h
    refine J_iconst (v := (-1)) dX13_reason_121 (by decide) ?_
    refine J_pick [] rfl ?_
    exact t_X13_reason_122  _ _ _  h
  · have h := (if_neg c10).symm.trans h
    refine J_aload_n 0 dX13_reason_108 rfl ?_
    refine M_getR gf_X13_118_12 dX13_reason_109 (g_324_54 _) k_324 n_324 ?_
    refine J_iconst (v := 3) dX13_reason_112 (by decide) ?_
    refine J_iload_n 1 dX13_reason_113 rfl ?_
    refine J_imul dX13_reason_114 ?_
    refine J_iload_n 2 dX13_reason_115 rfl ?_
    refine J_iadd dX13_reason_116 ?_
    obtain ⟨g11, h⟩ := gd_inv h
    refine M_iald dX13_reason_117 a_358 n_358 g11 ?_
    refine J_goto (tgt := 122) dX13_reason_118 (by decide) ?_
    refine J_pick [] rfl ?_
    exact t_X13_reason_122  _ _ _  h
set_option maxRecDepth 20000 in
set_option maxHeartbeats 4000000 in
theorem t_X13_reason_81  (l2 : Int32) (l3 : Int32) (σ : jM) (r : Int32 × jM)  (h : f_X13_reason_81  l2 l3 σ = some r) : J mi_X13_reason 6 0 0 (jqI r) 81 [(0, .ref 324), (2, .int l2), (3, .int l3)] [] (ms σ) := by
  unfold f_X13_reason_81 at h
  refine J_aload_n 0 dX13_reason_81 rfl ?_
  refine J_iconst (v := 1) dX13_reason_82 (by decide) ?_
  refine J_aload_n 0 dX13_reason_83 rfl ?_
  refine M_getI gf_X13_359_12 dX13_reason_84 k_324 n_324 ?_
  refine J_aload_n 0 dX13_reason_87 rfl ?_
  refine M_getI gf_X13_362_12 dX13_reason_88 k_324 n_324 ?_
  obtain ⟨_, σ16, h17, h⟩ := bd_inv h
  refine M_callVV (d' := 2) (k := 324) (As := [.int 1, .int (rI σ 324 47), .int (rI σ 324 48)]) (st := []) cv_X13_377 dX13_reason_91 rfl (by decide) rfl (Nat.le_of_ble_eq_true rfl) (Nat.le_of_ble_eq_true rfl) (by decide) n_324 k_324 rfl rfl (t_X13_walks  h17) ?_
  exact t_X13_reason_94  _ _ _ _  h
set_option maxRecDepth 20000 in
set_option maxHeartbeats 4000000 in
theorem t_X13_reason_65  (l2 : Int32) (l3 : Int32) (σ : jM) (r : Int32 × jM)  (h : f_X13_reason_65  l2 l3 σ = some r) : J mi_X13_reason 6 0 0 (jqI r) 65 [(0, .ref 324), (2, .int l2), (3, .int l3)] [] (ms σ) := by
  unfold f_X13_reason_65 at h
  refine J_aload_n 0 dX13_reason_65 rfl ?_
  refine M_getI gf_X13_365_12 dX13_reason_66 k_324 n_324 ?_
  refine J_iconst (v := 1) dX13_reason_69 (by decide) ?_
  refine J_icmp_eq (tgt := 81) dX13_reason_70 (by decide) (fun c20 => ?_) (fun c20 => ?_)
  · have h := (if_pos c20).symm.trans h
    exact t_X13_reason_81  _ _ _ _  h
  · have h := (if_neg c20).symm.trans h
    refine J_aload_n 0 dX13_reason_73 rfl ?_
    refine M_getI gf_X13_368_12 dX13_reason_74 k_324 n_324 ?_
    refine J_iconst (v := 1) dX13_reason_77 (by decide) ?_
    refine J_icmp_ne (tgt := 94) dX13_reason_78 (by decide) (fun c21 => ?_) (fun c21 => ?_)
    · have h := (if_neg c21).symm.trans h
      exact t_X13_reason_94  _ _ _ _  h
    · have h := (if_pos c21).symm.trans h
      exact t_X13_reason_81  _ _ _ _  h
set_option maxRecDepth 20000 in
set_option maxHeartbeats 4000000 in
theorem t_X13_reason_52  (l2 : Int32) (l3 : Int32) (σ : jM) (r : Int32 × jM)  (h : f_X13_reason_52  l2 l3 σ = some r) : J mi_X13_reason 6 0 0 (jqI r) 52 [(0, .ref 324), (2, .int l2), (3, .int l3)] [] (ms σ) := by
  unfold f_X13_reason_52 at h
  refine J_aload_n 0 dX13_reason_52 rfl ?_
  refine J_iconst (v := 0) dX13_reason_53 (by decide) ?_
  refine J_aload_n 0 dX13_reason_54 rfl ?_
  refine M_getI gf_X13_359_12 dX13_reason_55 k_324 n_324 ?_
  refine J_aload_n 0 dX13_reason_58 rfl ?_
  refine M_getI gf_X13_362_12 dX13_reason_59 k_324 n_324 ?_
  obtain ⟨_, σ26, h27, h⟩ := bd_inv h
  refine M_callVV (d' := 2) (k := 324) (As := [.int 0, .int (rI σ 324 47), .int (rI σ 324 48)]) (st := []) cv_X13_377 dX13_reason_62 rfl (by decide) rfl (Nat.le_of_ble_eq_true rfl) (Nat.le_of_ble_eq_true rfl) (by decide) n_324 k_324 rfl rfl (t_X13_walks  h27) ?_
  exact t_X13_reason_65  _ _ _ _  h
set_option maxRecDepth 20000 in
set_option maxHeartbeats 4000000 in
theorem t_X13_reason {a1 : Int32} {a2 : Int32} {a3 : Int32} {σ : jM} {r : Int32 × jM}  (h : f_X13_reason a1 a2 a3 σ = some r) : J mi_X13_reason 6 0 0 (jqI r) 0 [(0, .ref 324), (1, .int a1), (2, .int a2), (3, .int a3)] [] (ms σ) := by
  unfold f_X13_reason at h
  refine J_aload_n 0 dX13_reason_0 rfl ?_
  refine J_iconst (v := 0) dX13_reason_1 (by decide) ?_
  refine M_putI pf_X13_1_12 dX13_reason_2 k_324 n_324 ⟨rfl, rfl⟩ ?_
  refine J_aload_n 0 dX13_reason_5 rfl ?_
  refine J_iload_n 1 dX13_reason_6 rfl ?_
  obtain ⟨r28, σ29, h30, h⟩ := bd_inv h
  refine M_callVI (d' := 1) (k := 324) (As := [.int a1]) (st := []) cv_X13_298 dX13_reason_7 rfl (by decide) rfl (Nat.le_of_ble_eq_true rfl) (Nat.le_of_ble_eq_true rfl) (by decide) n_324 k_324 rfl rfl (t_X13_isKnown  h30) ?_
  refine J_if_eq (tgt := 30) dX13_reason_10 (by decide) (fun c31 => ?_) (fun c31 => ?_)
  · have h := (if_pos c31).symm.trans h
    refine J_pick [] rfl ?_
    exact t_X13_reason_30   _ _  h
  · have h := (if_neg c31).symm.trans h
    refine J_iload_n 3 dX13_reason_13 rfl ?_
    refine J_iconst (v := 0) dX13_reason_14 (by decide) ?_
    refine J_iconst (v := 2) dX13_reason_15 (by decide) ?_
    obtain ⟨r32, σ33, h34, h⟩ := bd_inv h
    refine M_callSI (d' := 1) (As := [.int a3, .int 0, .int 2]) (st := []) cs_X13_169 dX13_reason_16 rfl (Nat.le_of_ble_eq_true rfl) (Nat.le_of_ble_eq_true rfl) (by decide) rfl rfl (t_X13_within  h34) ?_
    refine J_if_eq (tgt := 30) dX13_reason_19 (by decide) (fun c35 => ?_) (fun c35 => ?_)
    · have h := (if_pos c35).symm.trans h
      refine J_pick [] rfl ?_
      exact t_X13_reason_30   _ _  h
    · have h := (if_neg c35).symm.trans h
      refine J_aload_n 0 dX13_reason_22 rfl ?_
      refine J_iload_n 1 dX13_reason_23 rfl ?_
      obtain ⟨r36, σ37, h38, h⟩ := bd_inv h
      refine M_callVI (d' := 5) (k := 324) (As := [.int a1]) (st := []) cv_X13_371 dX13_reason_24 rfl (by decide) rfl (Nat.le_of_ble_eq_true rfl) (Nat.le_of_ble_eq_true rfl) (by decide) n_324 k_324 rfl rfl (t_X13_findClash  h38) ?_
      refine J_if_ne (tgt := 32) dX13_reason_27 (by decide) (fun c39 => ?_) (fun c39 => ?_)
      · have h := (if_neg c39).symm.trans h
        refine J_aload_n 0 dX13_reason_32 rfl ?_
        refine J_iconst (v := 0) dX13_reason_33 (by decide) ?_
        refine M_putI pf_X13_374_12 dX13_reason_34 k_324 n_324 ⟨rfl, rfl⟩ ?_
        refine J_aload_n 0 dX13_reason_37 rfl ?_
        refine M_getI gf_X13_365_12 dX13_reason_38 k_324 n_324 ?_
        refine J_iconst (v := 1) dX13_reason_41 (by decide) ?_
        refine J_icmp_eq (tgt := 52) dX13_reason_42 (by decide) (fun c40 => ?_) (fun c40 => ?_)
        · have h := (if_pos c40).symm.trans h
          refine J_pick [0, 2, 3] rfl ?_
          exact t_X13_reason_52  _ _ _ _  h
        · have h := (if_neg c40).symm.trans h
          refine J_aload_n 0 dX13_reason_45 rfl ?_
          refine M_getI gf_X13_368_12 dX13_reason_46 k_324 n_324 ?_
          refine J_if_ne (tgt := 65) dX13_reason_49 (by decide) (fun c41 => ?_) (fun c41 => ?_)
          · have h := (if_neg c41).symm.trans h
            refine J_pick [0, 2, 3] rfl ?_
            exact t_X13_reason_65  _ _ _ _  h
          · have h := (if_pos c41).symm.trans h
            refine J_pick [0, 2, 3] rfl ?_
            exact t_X13_reason_52  _ _ _ _  h
      · have h := (if_pos c39).symm.trans h
        refine J_pick [] rfl ?_
        exact t_X13_reason_30   _ _  h
theorem dX13_agrees_0 : decode cX13_agrees 0 = .ok (.bipush 40, 2) := by decide +kernel
theorem dX13_agrees_2 : decode cX13_agrees 2 = .ok (.iload_n 1, 1) := by decide +kernel
theorem dX13_agrees_3 : decode cX13_agrees 3 = .ok (.imul, 1) := by decide +kernel
theorem dX13_agrees_4 : decode cX13_agrees 4 = .ok (.istore 4, 2) := by decide +kernel
theorem dX13_agrees_6 : decode cX13_agrees 6 = .ok (.aload_n 0, 1) := by decide +kernel
theorem dX13_agrees_7 : decode cX13_agrees 7 = .ok (.getfield 23, 3) := by decide +kernel
theorem dX13_agrees_10 : decode cX13_agrees 10 = .ok (.iload_n 2, 1) := by decide +kernel
theorem dX13_agrees_11 : decode cX13_agrees 11 = .ok (.iaload, 1) := by decide +kernel
theorem dX13_agrees_12 : decode cX13_agrees 12 = .ok (.aload_n 0, 1) := by decide +kernel
theorem dX13_agrees_13 : decode cX13_agrees 13 = .ok (.getfield 139, 3) := by decide +kernel
theorem dX13_agrees_16 : decode cX13_agrees 16 = .ok (.iload_n 3, 1) := by decide +kernel
theorem dX13_agrees_17 : decode cX13_agrees 17 = .ok (.iaload, 1) := by decide +kernel
theorem dX13_agrees_18 : decode cX13_agrees 18 = .ok (.if_icmp .ne 12, 3) := by decide +kernel
theorem dX13_agrees_21 : decode cX13_agrees 21 = .ok (.aload_n 0, 1) := by decide +kernel
theorem dX13_agrees_22 : decode cX13_agrees 22 = .ok (.getfield 139, 3) := by decide +kernel
theorem dX13_agrees_25 : decode cX13_agrees 25 = .ok (.iload_n 3, 1) := by decide +kernel
theorem dX13_agrees_26 : decode cX13_agrees 26 = .ok (.iaload, 1) := by decide +kernel
theorem dX13_agrees_27 : decode cX13_agrees 27 = .ok (.ifCond .ne 5, 3) := by decide +kernel
theorem dX13_agrees_30 : decode cX13_agrees 30 = .ok (.iconst 0, 1) := by decide +kernel
theorem dX13_agrees_31 : decode cX13_agrees 31 = .ok (.ireturn, 1) := by decide +kernel
theorem dX13_agrees_32 : decode cX13_agrees 32 = .ok (.iconst 0, 1) := by decide +kernel
theorem dX13_agrees_33 : decode cX13_agrees 33 = .ok (.istore 5, 2) := by decide +kernel
theorem dX13_agrees_35 : decode cX13_agrees 35 = .ok (.iload 5, 2) := by decide +kernel
theorem dX13_agrees_37 : decode cX13_agrees 37 = .ok (.aload_n 0, 1) := by decide +kernel
theorem dX13_agrees_38 : decode cX13_agrees 38 = .ok (.getfield 23, 3) := by decide +kernel
theorem dX13_agrees_41 : decode cX13_agrees 41 = .ok (.iload_n 2, 1) := by decide +kernel
theorem dX13_agrees_42 : decode cX13_agrees 42 = .ok (.iaload, 1) := by decide +kernel
theorem dX13_agrees_43 : decode cX13_agrees 43 = .ok (.if_icmp .ge 171, 3) := by decide +kernel
theorem dX13_agrees_46 : decode cX13_agrees 46 = .ok (.aload_n 0, 1) := by decide +kernel
theorem dX13_agrees_47 : decode cX13_agrees 47 = .ok (.getfield 26, 3) := by decide +kernel
theorem dX13_agrees_50 : decode cX13_agrees 50 = .ok (.bipush 6, 2) := by decide +kernel
theorem dX13_agrees_52 : decode cX13_agrees 52 = .ok (.iload_n 2, 1) := by decide +kernel
theorem dX13_agrees_53 : decode cX13_agrees 53 = .ok (.imul, 1) := by decide +kernel
theorem dX13_agrees_54 : decode cX13_agrees 54 = .ok (.iload 5, 2) := by decide +kernel
theorem dX13_agrees_56 : decode cX13_agrees 56 = .ok (.iadd, 1) := by decide +kernel
theorem dX13_agrees_57 : decode cX13_agrees 57 = .ok (.iaload, 1) := by decide +kernel
theorem dX13_agrees_58 : decode cX13_agrees 58 = .ok (.istore 6, 2) := by decide +kernel
theorem dX13_agrees_60 : decode cX13_agrees 60 = .ok (.iload 6, 2) := by decide +kernel
theorem dX13_agrees_62 : decode cX13_agrees 62 = .ok (.iconst (-1), 1) := by decide +kernel
theorem dX13_agrees_63 : decode cX13_agrees 63 = .ok (.if_icmp .ne 6, 3) := by decide +kernel
theorem dX13_agrees_66 : decode cX13_agrees 66 = .ok (.goto 142, 3) := by decide +kernel
theorem dX13_agrees_69 : decode cX13_agrees 69 = .ok (.aload_n 0, 1) := by decide +kernel
theorem dX13_agrees_70 : decode cX13_agrees 70 = .ok (.getfield 72, 3) := by decide +kernel
theorem dX13_agrees_73 : decode cX13_agrees 73 = .ok (.iload 6, 2) := by decide +kernel
theorem dX13_agrees_75 : decode cX13_agrees 75 = .ok (.iaload, 1) := by decide +kernel
theorem dX13_agrees_76 : decode cX13_agrees 76 = .ok (.istore 7, 2) := by decide +kernel
theorem dX13_agrees_78 : decode cX13_agrees 78 = .ok (.aload_n 0, 1) := by decide +kernel
theorem dX13_agrees_79 : decode cX13_agrees 79 = .ok (.getfield 136, 3) := by decide +kernel
theorem dX13_agrees_82 : decode cX13_agrees 82 = .ok (.bipush 8, 2) := by decide +kernel
theorem dX13_agrees_84 : decode cX13_agrees 84 = .ok (.iload_n 3, 1) := by decide +kernel
theorem dX13_agrees_85 : decode cX13_agrees 85 = .ok (.imul, 1) := by decide +kernel
theorem dX13_agrees_86 : decode cX13_agrees 86 = .ok (.iload 5, 2) := by decide +kernel
theorem dX13_agrees_88 : decode cX13_agrees 88 = .ok (.iadd, 1) := by decide +kernel
theorem dX13_agrees_89 : decode cX13_agrees 89 = .ok (.iaload, 1) := by decide +kernel
theorem dX13_agrees_90 : decode cX13_agrees 90 = .ok (.istore 8, 2) := by decide +kernel
theorem dX13_agrees_92 : decode cX13_agrees 92 = .ok (.aload_n 0, 1) := by decide +kernel
theorem dX13_agrees_93 : decode cX13_agrees 93 = .ok (.getfield 151, 3) := by decide +kernel
theorem dX13_agrees_96 : decode cX13_agrees 96 = .ok (.iload 4, 2) := by decide +kernel
theorem dX13_agrees_98 : decode cX13_agrees 98 = .ok (.iload 7, 2) := by decide +kernel
theorem dX13_agrees_100 : decode cX13_agrees 100 = .ok (.iadd, 1) := by decide +kernel
theorem dX13_agrees_101 : decode cX13_agrees 101 = .ok (.iaload, 1) := by decide +kernel
theorem dX13_agrees_102 : decode cX13_agrees 102 = .ok (.iconst (-1), 1) := by decide +kernel
theorem dX13_agrees_103 : decode cX13_agrees 103 = .ok (.if_icmp .eq 20, 3) := by decide +kernel
theorem dX13_agrees_106 : decode cX13_agrees 106 = .ok (.aload_n 0, 1) := by decide +kernel
theorem dX13_agrees_107 : decode cX13_agrees 107 = .ok (.getfield 151, 3) := by decide +kernel
theorem dX13_agrees_110 : decode cX13_agrees 110 = .ok (.iload 4, 2) := by decide +kernel
theorem dX13_agrees_112 : decode cX13_agrees 112 = .ok (.iload 7, 2) := by decide +kernel
theorem dX13_agrees_114 : decode cX13_agrees 114 = .ok (.iadd, 1) := by decide +kernel
theorem dX13_agrees_115 : decode cX13_agrees 115 = .ok (.iaload, 1) := by decide +kernel
theorem dX13_agrees_116 : decode cX13_agrees 116 = .ok (.iload 8, 2) := by decide +kernel
theorem dX13_agrees_118 : decode cX13_agrees 118 = .ok (.if_icmp .eq 5, 3) := by decide +kernel
theorem dX13_agrees_121 : decode cX13_agrees 121 = .ok (.iconst 0, 1) := by decide +kernel
theorem dX13_agrees_122 : decode cX13_agrees 122 = .ok (.ireturn, 1) := by decide +kernel
theorem dX13_agrees_123 : decode cX13_agrees 123 = .ok (.aload_n 0, 1) := by decide +kernel
theorem dX13_agrees_124 : decode cX13_agrees 124 = .ok (.getfield 151, 3) := by decide +kernel
theorem dX13_agrees_127 : decode cX13_agrees 127 = .ok (.iload 4, 2) := by decide +kernel
theorem dX13_agrees_129 : decode cX13_agrees 129 = .ok (.iload 7, 2) := by decide +kernel
theorem dX13_agrees_131 : decode cX13_agrees 131 = .ok (.iadd, 1) := by decide +kernel
theorem dX13_agrees_132 : decode cX13_agrees 132 = .ok (.iaload, 1) := by decide +kernel
theorem dX13_agrees_133 : decode cX13_agrees 133 = .ok (.iload 8, 2) := by decide +kernel
theorem dX13_agrees_135 : decode cX13_agrees 135 = .ok (.if_icmp .ne 6, 3) := by decide +kernel
theorem dX13_agrees_138 : decode cX13_agrees 138 = .ok (.goto 70, 3) := by decide +kernel
theorem dX13_agrees_141 : decode cX13_agrees 141 = .ok (.iconst 0, 1) := by decide +kernel
theorem dX13_agrees_142 : decode cX13_agrees 142 = .ok (.istore 9, 2) := by decide +kernel
theorem dX13_agrees_144 : decode cX13_agrees 144 = .ok (.iload 9, 2) := by decide +kernel
theorem dX13_agrees_146 : decode cX13_agrees 146 = .ok (.bipush 40, 2) := by decide +kernel
theorem dX13_agrees_148 : decode cX13_agrees 148 = .ok (.if_icmp .ge 48, 3) := by decide +kernel
theorem dX13_agrees_151 : decode cX13_agrees 151 = .ok (.aload_n 0, 1) := by decide +kernel
theorem dX13_agrees_152 : decode cX13_agrees 152 = .ok (.getfield 151, 3) := by decide +kernel
theorem dX13_agrees_155 : decode cX13_agrees 155 = .ok (.iload 4, 2) := by decide +kernel
theorem dX13_agrees_157 : decode cX13_agrees 157 = .ok (.iload 9, 2) := by decide +kernel
theorem dX13_agrees_159 : decode cX13_agrees 159 = .ok (.iadd, 1) := by decide +kernel
theorem dX13_agrees_160 : decode cX13_agrees 160 = .ok (.iaload, 1) := by decide +kernel
theorem dX13_agrees_161 : decode cX13_agrees 161 = .ok (.iconst (-1), 1) := by decide +kernel
theorem dX13_agrees_162 : decode cX13_agrees 162 = .ok (.if_icmp .eq 28, 3) := by decide +kernel
theorem dX13_agrees_165 : decode cX13_agrees 165 = .ok (.aload_n 0, 1) := by decide +kernel
theorem dX13_agrees_166 : decode cX13_agrees 166 = .ok (.iload 7, 2) := by decide +kernel
theorem dX13_agrees_168 : decode cX13_agrees 168 = .ok (.iload 8, 2) := by decide +kernel
theorem dX13_agrees_170 : decode cX13_agrees 170 = .ok (.iload 9, 2) := by decide +kernel
theorem dX13_agrees_172 : decode cX13_agrees 172 = .ok (.aload_n 0, 1) := by decide +kernel
theorem dX13_agrees_173 : decode cX13_agrees 173 = .ok (.getfield 151, 3) := by decide +kernel
theorem dX13_agrees_176 : decode cX13_agrees 176 = .ok (.iload 4, 2) := by decide +kernel
theorem dX13_agrees_178 : decode cX13_agrees 178 = .ok (.iload 9, 2) := by decide +kernel
theorem dX13_agrees_180 : decode cX13_agrees 180 = .ok (.iadd, 1) := by decide +kernel
theorem dX13_agrees_181 : decode cX13_agrees 181 = .ok (.iaload, 1) := by decide +kernel
theorem dX13_agrees_182 : decode cX13_agrees 182 = .ok (.invokevirtual 404, 3) := by decide +kernel
theorem dX13_agrees_185 : decode cX13_agrees 185 = .ok (.ifCond .ne 5, 3) := by decide +kernel
theorem dX13_agrees_188 : decode cX13_agrees 188 = .ok (.iconst 0, 1) := by decide +kernel
theorem dX13_agrees_189 : decode cX13_agrees 189 = .ok (.ireturn, 1) := by decide +kernel
theorem dX13_agrees_190 : decode cX13_agrees 190 = .ok (.iinc 9 1, 3) := by decide +kernel
theorem dX13_agrees_193 : decode cX13_agrees 193 = .ok (.goto (-49), 3) := by decide +kernel
theorem dX13_agrees_196 : decode cX13_agrees 196 = .ok (.aload_n 0, 1) := by decide +kernel
theorem dX13_agrees_197 : decode cX13_agrees 197 = .ok (.getfield 151, 3) := by decide +kernel
theorem dX13_agrees_200 : decode cX13_agrees 200 = .ok (.iload 4, 2) := by decide +kernel
theorem dX13_agrees_202 : decode cX13_agrees 202 = .ok (.iload 7, 2) := by decide +kernel
theorem dX13_agrees_204 : decode cX13_agrees 204 = .ok (.iadd, 1) := by decide +kernel
theorem dX13_agrees_205 : decode cX13_agrees 205 = .ok (.iload 8, 2) := by decide +kernel
theorem dX13_agrees_207 : decode cX13_agrees 207 = .ok (.iastore, 1) := by decide +kernel
theorem dX13_agrees_208 : decode cX13_agrees 208 = .ok (.iinc 5 1, 3) := by decide +kernel
theorem dX13_agrees_211 : decode cX13_agrees 211 = .ok (.goto (-176), 3) := by decide +kernel
theorem dX13_agrees_214 : decode cX13_agrees 214 = .ok (.iconst 1, 1) := by decide +kernel
theorem dX13_agrees_215 : decode cX13_agrees 215 = .ok (.ireturn, 1) := by decide +kernel
noncomputable def f_X13_agrees_30   (σ : jM) : Option (Int32 × jM) :=
  some (0, σ)
noncomputable def f_X13_agrees_208 (rec35 : Int32 → Int32 → Int32 → Int32 → jM → Option (Int32 × jM)) (l2 : Int32) (l3 : Int32) (l4 : Int32) (l5 : Int32) (σ : jM) : Option (Int32 × jM) :=
  rec35 l2 l3 l4 (l5 + 1) σ
noncomputable def f_X13_agrees_190 (rec35 : Int32 → Int32 → Int32 → Int32 → jM → Option (Int32 × jM)) (rec144 : Int32 → Int32 → Int32 → Int32 → Int32 → Int32 → Int32 → jM → Option (Int32 × jM)) (l2 : Int32) (l3 : Int32) (l4 : Int32) (l5 : Int32) (l7 : Int32) (l8 : Int32) (l9 : Int32) (σ : jM) : Option (Int32 × jM) :=
  rec144 l2 l3 l4 l5 l7 l8 (l9 + 1) σ
noncomputable def s_X13_agrees_144 (rec35 : Int32 → Int32 → Int32 → Int32 → jM → Option (Int32 × jM)) (rec144 : Int32 → Int32 → Int32 → Int32 → Int32 → Int32 → Int32 → jM → Option (Int32 × jM)) (l2 : Int32) (l3 : Int32) (l4 : Int32) (l5 : Int32) (l7 : Int32) (l8 : Int32) (l9 : Int32) (σ : jM) : Option (Int32 × jM) :=
  (if 40 ≤ l9 then gd (inb (l4 + l7) 320) (f_X13_agrees_208 rec35 l2 l3 l4 l5 (wI σ 369 (Int32.toNatClampNeg (l4 + l7)) l8)) else gd (inb (l4 + l9) 320) ((if (rI σ 369 (Int32.toNatClampNeg (l4 + l9))) = (-1) then f_X13_agrees_190 rec35 rec144 l2 l3 l4 l5 l7 l8 l9 σ else gd (inb (l4 + l9) 320) (bd (f_X13_agree l7 l8 l9 (rI σ 369 (Int32.toNatClampNeg (l4 + l9))) σ) (fun r19 σ20 => (if r19 = 0 then some (0, σ20) else f_X13_agrees_190 rec35 rec144 l2 l3 l4 l5 l7 l8 l9 σ20))))))
noncomputable def f_X13_agrees_144 (rec35 : Int32 → Int32 → Int32 → Int32 → jM → Option (Int32 × jM)) (n : Nat) : Int32 → Int32 → Int32 → Int32 → Int32 → Int32 → Int32 → jM → Option (Int32 × jM) := Nat.rec (motive := fun _ => Int32 → Int32 → Int32 → Int32 → Int32 → Int32 → Int32 → jM → Option (Int32 × jM)) (fun _ _ _ _ _ _ _ _ => none) (fun _ q => s_X13_agrees_144 rec35 q) n
noncomputable def f_X13_agrees_123 (rec35 : Int32 → Int32 → Int32 → Int32 → jM → Option (Int32 × jM)) (l2 : Int32) (l3 : Int32) (l4 : Int32) (l5 : Int32) (l7 : Int32) (l8 : Int32) (σ : jM) : Option (Int32 × jM) :=
  gd (inb (l4 + l7) 320) ((if (rI σ 369 (Int32.toNatClampNeg (l4 + l7))) = l8 then f_X13_agrees_208 rec35 l2 l3 l4 l5 σ else f_X13_agrees_144 rec35 Fu l2 l3 l4 l5 l7 l8 0 σ))
noncomputable def s_X13_agrees_35  (rec35 : Int32 → Int32 → Int32 → Int32 → jM → Option (Int32 × jM)) (l2 : Int32) (l3 : Int32) (l4 : Int32) (l5 : Int32) (σ : jM) : Option (Int32 × jM) :=
  gd (inb l2 200) ((if (rI σ 328 (Int32.toNatClampNeg l2)) ≤ l5 then some (1, σ) else gd (inb ((6 * l2) + l5) 1200) ((if (rI σ 329 (Int32.toNatClampNeg ((6 * l2) + l5))) = (-1) then f_X13_agrees_208 rec35 l2 l3 l4 l5 σ else gd (inb (rI σ 329 (Int32.toNatClampNeg ((6 * l2) + l5))) 40) (gd (inb ((8 * l3) + l5) 56) (gd (inb (l4 + (rI σ 343 (Int32.toNatClampNeg (rI σ 329 (Int32.toNatClampNeg ((6 * l2) + l5)))))) 320) ((if (rI σ 369 (Int32.toNatClampNeg (l4 + (rI σ 343 (Int32.toNatClampNeg (rI σ 329 (Int32.toNatClampNeg ((6 * l2) + l5)))))))) = (-1) then f_X13_agrees_123 rec35 l2 l3 l4 l5 (rI σ 343 (Int32.toNatClampNeg (rI σ 329 (Int32.toNatClampNeg ((6 * l2) + l5))))) (rI σ 364 (Int32.toNatClampNeg ((8 * l3) + l5))) σ else gd (inb (l4 + (rI σ 343 (Int32.toNatClampNeg (rI σ 329 (Int32.toNatClampNeg ((6 * l2) + l5)))))) 320) ((if (rI σ 369 (Int32.toNatClampNeg (l4 + (rI σ 343 (Int32.toNatClampNeg (rI σ 329 (Int32.toNatClampNeg ((6 * l2) + l5)))))))) = (rI σ 364 (Int32.toNatClampNeg ((8 * l3) + l5))) then f_X13_agrees_123 rec35 l2 l3 l4 l5 (rI σ 343 (Int32.toNatClampNeg (rI σ 329 (Int32.toNatClampNeg ((6 * l2) + l5))))) (rI σ 364 (Int32.toNatClampNeg ((8 * l3) + l5))) σ else some (0, σ)))))))))))
noncomputable def f_X13_agrees_35  (n : Nat) : Int32 → Int32 → Int32 → Int32 → jM → Option (Int32 × jM) := Nat.rec (motive := fun _ => Int32 → Int32 → Int32 → Int32 → jM → Option (Int32 × jM)) (fun _ _ _ _ _ => none) (fun _ q => s_X13_agrees_35  q) n
noncomputable def f_X13_agrees (a1 : Int32) (a2 : Int32) (a3 : Int32) (σ : jM) : Option (Int32 × jM) :=
  gd (inb a2 200) (gd (inb a3 7) ((if (rI σ 328 (Int32.toNatClampNeg a2)) = (rI σ 365 (Int32.toNatClampNeg a3)) then gd (inb a3 7) ((if (rI σ 365 (Int32.toNatClampNeg a3)) = 0 then f_X13_agrees_30   σ else f_X13_agrees_35  Fu a2 a3 (40 * a1) 0 σ)) else f_X13_agrees_30   σ)))
set_option maxRecDepth 20000 in
set_option maxHeartbeats 4000000 in
theorem t_X13_agrees_30   (σ : jM) (r : Int32 × jM)  (h : f_X13_agrees_30   σ = some r) : J mi_X13_agrees 2 0 0 (jqI r) 30 [] [] (ms σ) := by
  unfold f_X13_agrees_30 at h
  refine J_iconst (v := 0) dX13_agrees_30 (by decide) ?_
  exact J_ret (v := some (.int 0)) rfl ⟨dX13_agrees_31, Or.inr (Or.inl ⟨rfl, Or.inl rfl⟩)⟩ (jqI_mk h)
set_option maxRecDepth 20000 in
set_option maxHeartbeats 4000000 in
theorem t_X13_agrees_208 {rec35 : Int32 → Int32 → Int32 → Int32 → jM → Option (Int32 × jM)} (hrec35 : ∀ (l2 : Int32) (l3 : Int32) (l4 : Int32) (l5 : Int32) (σ : jM) (r : Int32 × jM), rec35 l2 l3 l4 l5 σ = some r → J mi_X13_agrees 2 0 0 (jqI r) 35 [(0, .ref 324), (2, .int l2), (3, .int l3), (4, .int l4), (5, .int l5)] [] (ms σ)) (l2 : Int32) (l3 : Int32) (l4 : Int32) (l5 : Int32) (σ : jM) (r : Int32 × jM)  (h : f_X13_agrees_208 rec35 l2 l3 l4 l5 σ = some r) : J mi_X13_agrees 2 0 0 (jqI r) 208 [(0, .ref 324), (2, .int l2), (3, .int l3), (4, .int l4), (5, .int l5)] [] (ms σ) := by
  unfold f_X13_agrees_208 at h
  refine J_iinc (v := (l5 + 1)) (ls' := [(5, .int (l5 + 1)), (0, .ref 324), (2, .int l2), (3, .int l3), (4, .int l4)]) 4 dX13_agrees_208 rfl rfl (by decide) rfl ?_
  refine J_goto (tgt := 35) dX13_agrees_211 (by decide) ?_
  refine J_pick [1, 2, 3, 4, 0] rfl ?_
  exact hrec35 _ _ _ _ _ _  h
set_option maxRecDepth 20000 in
set_option maxHeartbeats 4000000 in
theorem t_X13_agrees_190 {rec35 : Int32 → Int32 → Int32 → Int32 → jM → Option (Int32 × jM)} (hrec35 : ∀ (l2 : Int32) (l3 : Int32) (l4 : Int32) (l5 : Int32) (σ : jM) (r : Int32 × jM), rec35 l2 l3 l4 l5 σ = some r → J mi_X13_agrees 2 0 0 (jqI r) 35 [(0, .ref 324), (2, .int l2), (3, .int l3), (4, .int l4), (5, .int l5)] [] (ms σ)) {rec144 : Int32 → Int32 → Int32 → Int32 → Int32 → Int32 → Int32 → jM → Option (Int32 × jM)} (hrec144 : ∀ (l2 : Int32) (l3 : Int32) (l4 : Int32) (l5 : Int32) (l7 : Int32) (l8 : Int32) (l9 : Int32) (σ : jM) (r : Int32 × jM), rec144 l2 l3 l4 l5 l7 l8 l9 σ = some r → J mi_X13_agrees 2 0 0 (jqI r) 144 [(0, .ref 324), (2, .int l2), (3, .int l3), (4, .int l4), (5, .int l5), (7, .int l7), (8, .int l8), (9, .int l9)] [] (ms σ)) (l2 : Int32) (l3 : Int32) (l4 : Int32) (l5 : Int32) (l7 : Int32) (l8 : Int32) (l9 : Int32) (σ : jM) (r : Int32 × jM)  (h : f_X13_agrees_190 rec35 rec144 l2 l3 l4 l5 l7 l8 l9 σ = some r) : J mi_X13_agrees 2 0 0 (jqI r) 190 [(0, .ref 324), (2, .int l2), (3, .int l3), (4, .int l4), (5, .int l5), (7, .int l7), (8, .int l8), (9, .int l9)] [] (ms σ) := by
  unfold f_X13_agrees_190 at h
  refine J_iinc (v := (l9 + 1)) (ls' := [(9, .int (l9 + 1)), (0, .ref 324), (2, .int l2), (3, .int l3), (4, .int l4), (5, .int l5), (7, .int l7), (8, .int l8)]) 7 dX13_agrees_190 rfl rfl (by decide) rfl ?_
  refine J_goto (tgt := 144) dX13_agrees_193 (by decide) ?_
  refine J_pick [1, 2, 3, 4, 5, 6, 7, 0] rfl ?_
  exact hrec144 _ _ _ _ _ _ _ _ _  h
set_option maxRecDepth 20000 in
set_option maxHeartbeats 4000000 in
theorem t_X13_agrees_144 {rec35 : Int32 → Int32 → Int32 → Int32 → jM → Option (Int32 × jM)} (hrec35 : ∀ (l2 : Int32) (l3 : Int32) (l4 : Int32) (l5 : Int32) (σ : jM) (r : Int32 × jM), rec35 l2 l3 l4 l5 σ = some r → J mi_X13_agrees 2 0 0 (jqI r) 35 [(0, .ref 324), (2, .int l2), (3, .int l3), (4, .int l4), (5, .int l5)] [] (ms σ)) : ∀ (n : Nat) (l2 : Int32) (l3 : Int32) (l4 : Int32) (l5 : Int32) (l7 : Int32) (l8 : Int32) (l9 : Int32) (σ : jM) (r : Int32 × jM), f_X13_agrees_144 rec35 n l2 l3 l4 l5 l7 l8 l9 σ = some r → J mi_X13_agrees 2 0 0 (jqI r) 144 [(0, .ref 324), (2, .int l2), (3, .int l3), (4, .int l4), (5, .int l5), (7, .int l7), (8, .int l8), (9, .int l9)] [] (ms σ) := by
  intro n
  induction n with
  | zero =>
    intro l2 l3 l4 l5 l7 l8 l9 σ r  h
    have h : (none : Option (Int32 × jM)) = some r := h
    cases h
  | succ n ih =>
    intro l2 l3 l4 l5 l7 l8 l9 σ r  h
    have h : s_X13_agrees_144 rec35 (f_X13_agrees_144 rec35 n) l2 l3 l4 l5 l7 l8 l9 σ = some r := h
    unfold s_X13_agrees_144 at h
    refine J_iload 7 dX13_agrees_144 rfl ?_
    refine J_bipush (v := 40) dX13_agrees_146 (by decide) ?_
    refine J_icmp_ge (tgt := 196) dX13_agrees_148 (by decide) (fun c23 => ?_) (fun c23 => ?_)
    · have h := (if_pos c23).symm.trans h
      refine J_aload_n 0 dX13_agrees_196 rfl ?_
      refine M_getR gf_X13_151_12 dX13_agrees_197 (g_324_67 _) k_324 n_324 ?_
      refine J_iload 3 dX13_agrees_200 rfl ?_
      refine J_iload 5 dX13_agrees_202 rfl ?_
      refine J_iadd dX13_agrees_204 ?_
      refine J_iload 6 dX13_agrees_205 rfl ?_
      obtain ⟨g24, h⟩ := gd_inv h
      refine M_iast dX13_agrees_207 a_369 n_369 g24 ?_
      refine J_pick [0, 1, 2, 3, 4] rfl ?_
      exact t_X13_agrees_208 hrec35 _ _ _ _ _ _  h
    · have h := (if_neg c23).symm.trans h
      refine J_aload_n 0 dX13_agrees_151 rfl ?_
      refine M_getR gf_X13_151_12 dX13_agrees_152 (g_324_67 _) k_324 n_324 ?_
      refine J_iload 3 dX13_agrees_155 rfl ?_
      refine J_iload 7 dX13_agrees_157 rfl ?_
      refine J_iadd dX13_agrees_159 ?_
      obtain ⟨g25, h⟩ := gd_inv h
      refine M_iald dX13_agrees_160 a_369 n_369 g25 ?_
      refine J_iconst (v := (-1)) dX13_agrees_161 (by decide) ?_
      refine J_icmp_eq (tgt := 190) dX13_agrees_162 (by decide) (fun c26 => ?_) (fun c26 => ?_)
      · have h := (if_pos c26).symm.trans h
        exact t_X13_agrees_190 hrec35 ih _ _ _ _ _ _ _ _ _  h
      · have h := (if_neg c26).symm.trans h
        refine J_aload_n 0 dX13_agrees_165 rfl ?_
        refine J_iload 5 dX13_agrees_166 rfl ?_
        refine J_iload 6 dX13_agrees_168 rfl ?_
        refine J_iload 7 dX13_agrees_170 rfl ?_
        refine J_aload_n 0 dX13_agrees_172 rfl ?_
        refine M_getR gf_X13_151_12 dX13_agrees_173 (g_324_67 _) k_324 n_324 ?_
        refine J_iload 3 dX13_agrees_176 rfl ?_
        refine J_iload 7 dX13_agrees_178 rfl ?_
        refine J_iadd dX13_agrees_180 ?_
        obtain ⟨g27, h⟩ := gd_inv h
        refine M_iald dX13_agrees_181 a_369 n_369 g27 ?_
        obtain ⟨r28, σ29, h30, h⟩ := bd_inv h
        refine M_callVI (d' := 1) (k := 324) (As := [.int l7, .int l8, .int l9, .int (rI σ 369 (Int32.toNatClampNeg (l4 + l9)))]) (st := []) cv_X13_404 dX13_agrees_182 rfl (by decide) rfl (Nat.le_of_ble_eq_true rfl) (Nat.le_of_ble_eq_true rfl) (by decide) n_324 k_324 rfl rfl (t_X13_agree  h30) ?_
        refine J_if_ne (tgt := 190) dX13_agrees_185 (by decide) (fun c31 => ?_) (fun c31 => ?_)
        · have h := (if_neg c31).symm.trans h
          exact t_X13_agrees_190 hrec35 ih _ _ _ _ _ _ _ _ _  h
        · have h := (if_pos c31).symm.trans h
          refine J_iconst (v := 0) dX13_agrees_188 (by decide) ?_
          exact J_ret (v := some (.int 0)) rfl ⟨dX13_agrees_189, Or.inr (Or.inl ⟨rfl, Or.inl rfl⟩)⟩ (jqI_mk h)
set_option maxRecDepth 20000 in
set_option maxHeartbeats 4000000 in
theorem t_X13_agrees_123 {rec35 : Int32 → Int32 → Int32 → Int32 → jM → Option (Int32 × jM)} (hrec35 : ∀ (l2 : Int32) (l3 : Int32) (l4 : Int32) (l5 : Int32) (σ : jM) (r : Int32 × jM), rec35 l2 l3 l4 l5 σ = some r → J mi_X13_agrees 2 0 0 (jqI r) 35 [(0, .ref 324), (2, .int l2), (3, .int l3), (4, .int l4), (5, .int l5)] [] (ms σ)) (l2 : Int32) (l3 : Int32) (l4 : Int32) (l5 : Int32) (l7 : Int32) (l8 : Int32) (σ : jM) (r : Int32 × jM)  (h : f_X13_agrees_123 rec35 l2 l3 l4 l5 l7 l8 σ = some r) : J mi_X13_agrees 2 0 0 (jqI r) 123 [(0, .ref 324), (2, .int l2), (3, .int l3), (4, .int l4), (5, .int l5), (7, .int l7), (8, .int l8)] [] (ms σ) := by
  unfold f_X13_agrees_123 at h
  refine J_aload_n 0 dX13_agrees_123 rfl ?_
  refine M_getR gf_X13_151_12 dX13_agrees_124 (g_324_67 _) k_324 n_324 ?_
  refine J_iload 3 dX13_agrees_127 rfl ?_
  refine J_iload 5 dX13_agrees_129 rfl ?_
  refine J_iadd dX13_agrees_131 ?_
  obtain ⟨g34, h⟩ := gd_inv h
  refine M_iald dX13_agrees_132 a_369 n_369 g34 ?_
  refine J_iload 6 dX13_agrees_133 rfl ?_
  refine J_icmp_ne (tgt := 141) dX13_agrees_135 (by decide) (fun c35 => ?_) (fun c35 => ?_)
  · have h := (if_neg c35).symm.trans h
    refine J_iconst (v := 0) dX13_agrees_141 (by decide) ?_
    refine J_istore (i := 9) (ls' := [(9, .int 0), (0, .ref 324), (2, .int l2), (3, .int l3), (4, .int l4), (5, .int l5), (7, .int l7), (8, .int l8)]) dX13_agrees_142 (by decide) rfl ?_
    refine J_pick [1, 2, 3, 4, 5, 6, 7, 0] rfl ?_
    exact t_X13_agrees_144 hrec35 _ _ _ _ _ _ _ _ _ _  h
  · have h := (if_pos c35).symm.trans h
    refine J_goto (tgt := 208) dX13_agrees_138 (by decide) ?_
    refine J_pick [0, 1, 2, 3, 4] rfl ?_
    exact t_X13_agrees_208 hrec35 _ _ _ _ _ _  h
set_option maxRecDepth 20000 in
set_option maxHeartbeats 4000000 in
theorem t_X13_agrees_35  : ∀ (n : Nat) (l2 : Int32) (l3 : Int32) (l4 : Int32) (l5 : Int32) (σ : jM) (r : Int32 × jM), f_X13_agrees_35  n l2 l3 l4 l5 σ = some r → J mi_X13_agrees 2 0 0 (jqI r) 35 [(0, .ref 324), (2, .int l2), (3, .int l3), (4, .int l4), (5, .int l5)] [] (ms σ) := by
  intro n
  induction n with
  | zero =>
    intro l2 l3 l4 l5 σ r  h
    have h : (none : Option (Int32 × jM)) = some r := h
    cases h
  | succ n ih =>
    intro l2 l3 l4 l5 σ r  h
    have h : s_X13_agrees_35  (f_X13_agrees_35  n) l2 l3 l4 l5 σ = some r := h
    unfold s_X13_agrees_35 at h
    refine J_iload 4 dX13_agrees_35 rfl ?_
    refine J_aload_n 0 dX13_agrees_37 rfl ?_
    refine M_getR gf_X13_23_12 dX13_agrees_38 (g_324_6 _) k_324 n_324 ?_
    refine J_iload_n 1 dX13_agrees_41 rfl ?_
    obtain ⟨g46, h⟩ := gd_inv h
    refine M_iald dX13_agrees_42 a_328 n_328 g46 ?_
    refine J_icmp_ge (tgt := 214) dX13_agrees_43 (by decide) (fun c47 => ?_) (fun c47 => ?_)
    · have h := (if_pos c47).symm.trans h
      refine J_iconst (v := 1) dX13_agrees_214 (by decide) ?_
      exact J_ret (v := some (.int 1)) rfl ⟨dX13_agrees_215, Or.inr (Or.inl ⟨rfl, Or.inr rfl⟩)⟩ (jqI_mk h)
    · have h := (if_neg c47).symm.trans h
      refine J_aload_n 0 dX13_agrees_46 rfl ?_
      refine M_getR gf_X13_26_12 dX13_agrees_47 (g_324_7 _) k_324 n_324 ?_
      refine J_bipush (v := 6) dX13_agrees_50 (by decide) ?_
      refine J_iload_n 1 dX13_agrees_52 rfl ?_
      refine J_imul dX13_agrees_53 ?_
      refine J_iload 4 dX13_agrees_54 rfl ?_
      refine J_iadd dX13_agrees_56 ?_
      obtain ⟨g48, h⟩ := gd_inv h
      refine M_iald dX13_agrees_57 a_329 n_329 g48 ?_
      refine J_istore (i := 6) (ls' := [(6, .int (rI σ 329 (Int32.toNatClampNeg ((6 * l2) + l5)))), (0, .ref 324), (2, .int l2), (3, .int l3), (4, .int l4), (5, .int l5)]) dX13_agrees_58 (by decide) rfl ?_
      refine J_iload 0 dX13_agrees_60 rfl ?_
      refine J_iconst (v := (-1)) dX13_agrees_62 (by decide) ?_
      refine J_icmp_ne (tgt := 69) dX13_agrees_63 (by decide) (fun c49 => ?_) (fun c49 => ?_)
      · have h := (if_neg c49).symm.trans h
        refine J_aload_n 1 dX13_agrees_69 rfl ?_
        refine M_getR gf_X13_72_12 dX13_agrees_70 (g_324_31 _) k_324 n_324 ?_
        refine J_iload 0 dX13_agrees_73 rfl ?_
        obtain ⟨g50, h⟩ := gd_inv h
        refine M_iald dX13_agrees_75 a_343 n_343 g50 ?_
        refine J_istore (i := 7) (ls' := [(7, .int (rI σ 343 (Int32.toNatClampNeg (rI σ 329 (Int32.toNatClampNeg ((6 * l2) + l5)))))), (6, .int (rI σ 329 (Int32.toNatClampNeg ((6 * l2) + l5)))), (0, .ref 324), (2, .int l2), (3, .int l3), (4, .int l4), (5, .int l5)]) dX13_agrees_76 (by decide) rfl ?_
        refine J_aload_n 2 dX13_agrees_78 rfl ?_
        refine M_getR gf_X13_136_12 dX13_agrees_79 (g_324_61 _) k_324 n_324 ?_
        refine J_bipush (v := 8) dX13_agrees_82 (by decide) ?_
        refine J_iload_n 4 dX13_agrees_84 rfl ?_
        refine J_imul dX13_agrees_85 ?_
        refine J_iload 6 dX13_agrees_86 rfl ?_
        refine J_iadd dX13_agrees_88 ?_
        obtain ⟨g51, h⟩ := gd_inv h
        refine M_iald dX13_agrees_89 a_364 n_364 g51 ?_
        refine J_istore (i := 8) (ls' := [(8, .int (rI σ 364 (Int32.toNatClampNeg ((8 * l3) + l5)))), (7, .int (rI σ 343 (Int32.toNatClampNeg (rI σ 329 (Int32.toNatClampNeg ((6 * l2) + l5)))))), (6, .int (rI σ 329 (Int32.toNatClampNeg ((6 * l2) + l5)))), (0, .ref 324), (2, .int l2), (3, .int l3), (4, .int l4), (5, .int l5)]) dX13_agrees_90 (by decide) rfl ?_
        refine J_aload_n 3 dX13_agrees_92 rfl ?_
        refine M_getR gf_X13_151_12 dX13_agrees_93 (g_324_67 _) k_324 n_324 ?_
        refine J_iload 6 dX13_agrees_96 rfl ?_
        refine J_iload 1 dX13_agrees_98 rfl ?_
        refine J_iadd dX13_agrees_100 ?_
        obtain ⟨g52, h⟩ := gd_inv h
        refine M_iald dX13_agrees_101 a_369 n_369 g52 ?_
        refine J_iconst (v := (-1)) dX13_agrees_102 (by decide) ?_
        refine J_icmp_eq (tgt := 123) dX13_agrees_103 (by decide) (fun c53 => ?_) (fun c53 => ?_)
        · have h := (if_pos c53).symm.trans h
          refine J_pick [3, 4, 5, 6, 7, 1, 0] rfl ?_
          exact t_X13_agrees_123 ih _ _ _ _ _ _ _ _  h
        · have h := (if_neg c53).symm.trans h
          refine J_aload_n 3 dX13_agrees_106 rfl ?_
          refine M_getR gf_X13_151_12 dX13_agrees_107 (g_324_67 _) k_324 n_324 ?_
          refine J_iload 6 dX13_agrees_110 rfl ?_
          refine J_iload 1 dX13_agrees_112 rfl ?_
          refine J_iadd dX13_agrees_114 ?_
          obtain ⟨g54, h⟩ := gd_inv h
          refine M_iald dX13_agrees_115 a_369 n_369 g54 ?_
          refine J_iload 0 dX13_agrees_116 rfl ?_
          refine J_icmp_eq (tgt := 123) dX13_agrees_118 (by decide) (fun c55 => ?_) (fun c55 => ?_)
          · have h := (if_pos c55).symm.trans h
            refine J_pick [3, 4, 5, 6, 7, 1, 0] rfl ?_
            exact t_X13_agrees_123 ih _ _ _ _ _ _ _ _  h
          · have h := (if_neg c55).symm.trans h
            refine J_iconst (v := 0) dX13_agrees_121 (by decide) ?_
            exact J_ret (v := some (.int 0)) rfl ⟨dX13_agrees_122, Or.inr (Or.inl ⟨rfl, Or.inl rfl⟩)⟩ (jqI_mk h)
      · have h := (if_pos c49).symm.trans h
        refine J_goto (tgt := 208) dX13_agrees_66 (by decide) ?_
        refine J_pick [1, 2, 3, 4, 5] rfl ?_
        exact t_X13_agrees_208 ih _ _ _ _ _ _  h
set_option maxRecDepth 20000 in
set_option maxHeartbeats 4000000 in
theorem t_X13_agrees {a1 : Int32} {a2 : Int32} {a3 : Int32} {σ : jM} {r : Int32 × jM}  (h : f_X13_agrees a1 a2 a3 σ = some r) : J mi_X13_agrees 2 0 0 (jqI r) 0 [(0, .ref 324), (1, .int a1), (2, .int a2), (3, .int a3)] [] (ms σ) := by
  unfold f_X13_agrees at h
  refine J_bipush (v := 40) dX13_agrees_0 (by decide) ?_
  refine J_iload_n 1 dX13_agrees_2 rfl ?_
  refine J_imul dX13_agrees_3 ?_
  refine J_istore (i := 4) (ls' := [(4, .int (40 * a1)), (0, .ref 324), (1, .int a1), (2, .int a2), (3, .int a3)]) dX13_agrees_4 (by decide) rfl ?_
  refine J_aload_n 1 dX13_agrees_6 rfl ?_
  refine M_getR gf_X13_23_12 dX13_agrees_7 (g_324_6 _) k_324 n_324 ?_
  refine J_iload_n 3 dX13_agrees_10 rfl ?_
  obtain ⟨g56, h⟩ := gd_inv h
  refine M_iald dX13_agrees_11 a_328 n_328 g56 ?_
  refine J_aload_n 1 dX13_agrees_12 rfl ?_
  refine M_getR gf_X13_139_12 dX13_agrees_13 (g_324_62 _) k_324 n_324 ?_
  refine J_iload_n 4 dX13_agrees_16 rfl ?_
  obtain ⟨g57, h⟩ := gd_inv h
  refine M_iald dX13_agrees_17 a_365 n_365 g57 ?_
  refine J_icmp_ne (tgt := 30) dX13_agrees_18 (by decide) (fun c58 => ?_) (fun c58 => ?_)
  · have h := (if_neg c58).symm.trans h
    refine J_pick [] rfl ?_
    exact t_X13_agrees_30   _ _  h
  · have h := (if_pos c58).symm.trans h
    refine J_aload_n 1 dX13_agrees_21 rfl ?_
    refine M_getR gf_X13_139_12 dX13_agrees_22 (g_324_62 _) k_324 n_324 ?_
    refine J_iload_n 4 dX13_agrees_25 rfl ?_
    obtain ⟨g59, h⟩ := gd_inv h
    refine M_iald dX13_agrees_26 a_365 n_365 g59 ?_
    refine J_if_ne (tgt := 32) dX13_agrees_27 (by decide) (fun c60 => ?_) (fun c60 => ?_)
    · have h := (if_neg c60).symm.trans h
      refine J_iconst (v := 0) dX13_agrees_32 (by decide) ?_
      refine J_istore (i := 5) (ls' := [(5, .int 0), (4, .int (40 * a1)), (0, .ref 324), (1, .int a1), (2, .int a2), (3, .int a3)]) dX13_agrees_33 (by decide) rfl ?_
      refine J_pick [2, 4, 5, 1, 0] rfl ?_
      exact t_X13_agrees_35  _ _ _ _ _ _ _  h
    · have h := (if_pos c60).symm.trans h
      refine J_pick [] rfl ?_
      exact t_X13_agrees_30   _ _  h
theorem dX13_tries_0 : decode cX13_tries 0 = .ok (.aload_n 0, 1) := by decide +kernel
theorem dX13_tries_1 : decode cX13_tries 1 = .ok (.getfield 145, 3) := by decide +kernel
theorem dX13_tries_4 : decode cX13_tries 4 = .ok (.iload_n 1, 1) := by decide +kernel
theorem dX13_tries_5 : decode cX13_tries 5 = .ok (.iaload, 1) := by decide +kernel
theorem dX13_tries_6 : decode cX13_tries 6 = .ok (.istore_n 2, 1) := by decide +kernel
theorem dX13_tries_7 : decode cX13_tries 7 = .ok (.iconst 0, 1) := by decide +kernel
theorem dX13_tries_8 : decode cX13_tries 8 = .ok (.istore_n 3, 1) := by decide +kernel
theorem dX13_tries_9 : decode cX13_tries 9 = .ok (.iload_n 3, 1) := by decide +kernel
theorem dX13_tries_10 : decode cX13_tries 10 = .ok (.iload_n 1, 1) := by decide +kernel
theorem dX13_tries_11 : decode cX13_tries 11 = .ok (.if_icmp .ge 46, 3) := by decide +kernel
theorem dX13_tries_14 : decode cX13_tries 14 = .ok (.aload_n 0, 1) := by decide +kernel
theorem dX13_tries_15 : decode cX13_tries 15 = .ok (.getfield 127, 3) := by decide +kernel
theorem dX13_tries_18 : decode cX13_tries 18 = .ok (.aload_n 0, 1) := by decide +kernel
theorem dX13_tries_19 : decode cX13_tries 19 = .ok (.getfield 145, 3) := by decide +kernel
theorem dX13_tries_22 : decode cX13_tries 22 = .ok (.iload_n 3, 1) := by decide +kernel
theorem dX13_tries_23 : decode cX13_tries 23 = .ok (.iaload, 1) := by decide +kernel
theorem dX13_tries_24 : decode cX13_tries 24 = .ok (.iaload, 1) := by decide +kernel
theorem dX13_tries_25 : decode cX13_tries 25 = .ok (.aload_n 0, 1) := by decide +kernel
theorem dX13_tries_26 : decode cX13_tries 26 = .ok (.getfield 127, 3) := by decide +kernel
theorem dX13_tries_29 : decode cX13_tries 29 = .ok (.iload_n 2, 1) := by decide +kernel
theorem dX13_tries_30 : decode cX13_tries 30 = .ok (.iaload, 1) := by decide +kernel
theorem dX13_tries_31 : decode cX13_tries 31 = .ok (.if_icmp .ne 20, 3) := by decide +kernel
theorem dX13_tries_34 : decode cX13_tries 34 = .ok (.aload_n 0, 1) := by decide +kernel
theorem dX13_tries_35 : decode cX13_tries 35 = .ok (.getfield 148, 3) := by decide +kernel
theorem dX13_tries_38 : decode cX13_tries 38 = .ok (.iload_n 3, 1) := by decide +kernel
theorem dX13_tries_39 : decode cX13_tries 39 = .ok (.iaload, 1) := by decide +kernel
theorem dX13_tries_40 : decode cX13_tries 40 = .ok (.aload_n 0, 1) := by decide +kernel
theorem dX13_tries_41 : decode cX13_tries 41 = .ok (.getfield 148, 3) := by decide +kernel
theorem dX13_tries_44 : decode cX13_tries 44 = .ok (.iload_n 1, 1) := by decide +kernel
theorem dX13_tries_45 : decode cX13_tries 45 = .ok (.iaload, 1) := by decide +kernel
theorem dX13_tries_46 : decode cX13_tries 46 = .ok (.if_icmp .ne 5, 3) := by decide +kernel
theorem dX13_tries_49 : decode cX13_tries 49 = .ok (.iconst 0, 1) := by decide +kernel
theorem dX13_tries_50 : decode cX13_tries 50 = .ok (.ireturn, 1) := by decide +kernel
theorem dX13_tries_51 : decode cX13_tries 51 = .ok (.iinc 3 1, 3) := by decide +kernel
theorem dX13_tries_54 : decode cX13_tries 54 = .ok (.goto (-45), 3) := by decide +kernel
theorem dX13_tries_57 : decode cX13_tries 57 = .ok (.iconst 0, 1) := by decide +kernel
theorem dX13_tries_58 : decode cX13_tries 58 = .ok (.istore_n 3, 1) := by decide +kernel
theorem dX13_tries_59 : decode cX13_tries 59 = .ok (.iload_n 3, 1) := by decide +kernel
theorem dX13_tries_60 : decode cX13_tries 60 = .ok (.bipush 40, 2) := by decide +kernel
theorem dX13_tries_62 : decode cX13_tries 62 = .ok (.if_icmp .ge 33, 3) := by decide +kernel
theorem dX13_tries_65 : decode cX13_tries 65 = .ok (.aload_n 0, 1) := by decide +kernel
theorem dX13_tries_66 : decode cX13_tries 66 = .ok (.getfield 151, 3) := by decide +kernel
theorem dX13_tries_69 : decode cX13_tries 69 = .ok (.bipush 40, 2) := by decide +kernel
theorem dX13_tries_71 : decode cX13_tries 71 = .ok (.iload_n 1, 1) := by decide +kernel
theorem dX13_tries_72 : decode cX13_tries 72 = .ok (.iconst 1, 1) := by decide +kernel
theorem dX13_tries_73 : decode cX13_tries 73 = .ok (.iadd, 1) := by decide +kernel
theorem dX13_tries_74 : decode cX13_tries 74 = .ok (.imul, 1) := by decide +kernel
theorem dX13_tries_75 : decode cX13_tries 75 = .ok (.iload_n 3, 1) := by decide +kernel
theorem dX13_tries_76 : decode cX13_tries 76 = .ok (.iadd, 1) := by decide +kernel
theorem dX13_tries_77 : decode cX13_tries 77 = .ok (.aload_n 0, 1) := by decide +kernel
theorem dX13_tries_78 : decode cX13_tries 78 = .ok (.getfield 151, 3) := by decide +kernel
theorem dX13_tries_81 : decode cX13_tries 81 = .ok (.bipush 40, 2) := by decide +kernel
theorem dX13_tries_83 : decode cX13_tries 83 = .ok (.iload_n 1, 1) := by decide +kernel
theorem dX13_tries_84 : decode cX13_tries 84 = .ok (.imul, 1) := by decide +kernel
theorem dX13_tries_85 : decode cX13_tries 85 = .ok (.iload_n 3, 1) := by decide +kernel
theorem dX13_tries_86 : decode cX13_tries 86 = .ok (.iadd, 1) := by decide +kernel
theorem dX13_tries_87 : decode cX13_tries 87 = .ok (.iaload, 1) := by decide +kernel
theorem dX13_tries_88 : decode cX13_tries 88 = .ok (.iastore, 1) := by decide +kernel
theorem dX13_tries_89 : decode cX13_tries 89 = .ok (.iinc 3 1, 3) := by decide +kernel
theorem dX13_tries_92 : decode cX13_tries 92 = .ok (.goto (-33), 3) := by decide +kernel
theorem dX13_tries_95 : decode cX13_tries 95 = .ok (.aload_n 0, 1) := by decide +kernel
theorem dX13_tries_96 : decode cX13_tries 96 = .ok (.iload_n 1, 1) := by decide +kernel
theorem dX13_tries_97 : decode cX13_tries 97 = .ok (.iconst 1, 1) := by decide +kernel
theorem dX13_tries_98 : decode cX13_tries 98 = .ok (.iadd, 1) := by decide +kernel
theorem dX13_tries_99 : decode cX13_tries 99 = .ok (.bipush 8, 2) := by decide +kernel
theorem dX13_tries_101 : decode cX13_tries 101 = .ok (.aload_n 0, 1) := by decide +kernel
theorem dX13_tries_102 : decode cX13_tries 102 = .ok (.getfield 127, 3) := by decide +kernel
theorem dX13_tries_105 : decode cX13_tries 105 = .ok (.iload_n 2, 1) := by decide +kernel
theorem dX13_tries_106 : decode cX13_tries 106 = .ok (.iaload, 1) := by decide +kernel
theorem dX13_tries_107 : decode cX13_tries 107 = .ok (.imul, 1) := by decide +kernel
theorem dX13_tries_108 : decode cX13_tries 108 = .ok (.aload_n 0, 1) := by decide +kernel
theorem dX13_tries_109 : decode cX13_tries 109 = .ok (.getfield 148, 3) := by decide +kernel
theorem dX13_tries_112 : decode cX13_tries 112 = .ok (.iload_n 1, 1) := by decide +kernel
theorem dX13_tries_113 : decode cX13_tries 113 = .ok (.iaload, 1) := by decide +kernel
theorem dX13_tries_114 : decode cX13_tries 114 = .ok (.iadd, 1) := by decide +kernel
theorem dX13_tries_115 : decode cX13_tries 115 = .ok (.iload_n 2, 1) := by decide +kernel
theorem dX13_tries_116 : decode cX13_tries 116 = .ok (.invokevirtual 408, 3) := by decide +kernel
theorem dX13_tries_119 : decode cX13_tries 119 = .ok (.ireturn, 1) := by decide +kernel
noncomputable def s_X13_tries_59  (rec59 : Int32 → Int32 → Int32 → jM → Option (Int32 × jM)) (l1 : Int32) (l2 : Int32) (l3 : Int32) (σ : jM) : Option (Int32 × jM) :=
  (if 40 ≤ l3 then gd (inb l2 7) (gd (inb l1 7) (bd (f_X13_agrees (l1 + 1) ((8 * (rI σ 361 (Int32.toNatClampNeg l2))) + (rI σ 368 (Int32.toNatClampNeg l1))) l2 σ) (fun r14 σ15 => gd (r14 = 0 ∨ r14 = 1) (some (r14, σ15))))) else gd (inb ((40 * l1) + l3) 320) (gd (inb ((40 * (l1 + 1)) + l3) 320) (rec59 l1 l2 (l3 + 1) (wI σ 369 (Int32.toNatClampNeg ((40 * (l1 + 1)) + l3)) (rI σ 369 (Int32.toNatClampNeg ((40 * l1) + l3)))))))
noncomputable def f_X13_tries_59  (n : Nat) : Int32 → Int32 → Int32 → jM → Option (Int32 × jM) := Nat.rec (motive := fun _ => Int32 → Int32 → Int32 → jM → Option (Int32 × jM)) (fun _ _ _ _ => none) (fun _ q => s_X13_tries_59  q) n
noncomputable def f_X13_tries_51 (rec9 : Int32 → Int32 → Int32 → jM → Option (Int32 × jM)) (l1 : Int32) (l2 : Int32) (l3 : Int32) (σ : jM) : Option (Int32 × jM) :=
  rec9 l1 l2 (l3 + 1) σ
noncomputable def s_X13_tries_9  (rec9 : Int32 → Int32 → Int32 → jM → Option (Int32 × jM)) (l1 : Int32) (l2 : Int32) (l3 : Int32) (σ : jM) : Option (Int32 × jM) :=
  (if l1 ≤ l3 then f_X13_tries_59  Fu l1 l2 0 σ else gd (inb l3 7) (gd (inb (rI σ 367 (Int32.toNatClampNeg l3)) 7) (gd (inb l2 7) ((if (rI σ 361 (Int32.toNatClampNeg (rI σ 367 (Int32.toNatClampNeg l3)))) = (rI σ 361 (Int32.toNatClampNeg l2)) then gd (inb l3 7) (gd (inb l1 7) ((if (rI σ 368 (Int32.toNatClampNeg l3)) = (rI σ 368 (Int32.toNatClampNeg l1)) then some (0, σ) else f_X13_tries_51 rec9 l1 l2 l3 σ))) else f_X13_tries_51 rec9 l1 l2 l3 σ)))))
noncomputable def f_X13_tries_9  (n : Nat) : Int32 → Int32 → Int32 → jM → Option (Int32 × jM) := Nat.rec (motive := fun _ => Int32 → Int32 → Int32 → jM → Option (Int32 × jM)) (fun _ _ _ _ => none) (fun _ q => s_X13_tries_9  q) n
noncomputable def f_X13_tries (a1 : Int32) (σ : jM) : Option (Int32 × jM) :=
  gd (inb a1 7) (f_X13_tries_9  Fu a1 (rI σ 367 (Int32.toNatClampNeg a1)) 0 σ)
set_option maxRecDepth 20000 in
set_option maxHeartbeats 4000000 in
theorem t_X13_tries_59  : ∀ (n : Nat) (l1 : Int32) (l2 : Int32) (l3 : Int32) (σ : jM) (r : Int32 × jM), f_X13_tries_59  n l1 l2 l3 σ = some r → J mi_X13_tries 3 0 0 (jqI r) 59 [(0, .ref 324), (1, .int l1), (2, .int l2), (3, .int l3)] [] (ms σ) := by
  intro n
  induction n with
  | zero =>
    intro l1 l2 l3 σ r  h
    have h : (none : Option (Int32 × jM)) = some r := h
    cases h
  | succ n ih =>
    intro l1 l2 l3 σ r  h
    have h : s_X13_tries_59  (f_X13_tries_59  n) l1 l2 l3 σ = some r := h
    unfold s_X13_tries_59 at h
    refine J_iload_n 3 dX13_tries_59 rfl ?_
    refine J_bipush (v := 40) dX13_tries_60 (by decide) ?_
    refine J_icmp_ge (tgt := 95) dX13_tries_62 (by decide) (fun c20 => ?_) (fun c20 => ?_)
    · have h := (if_pos c20).symm.trans h
      refine J_aload_n 0 dX13_tries_95 rfl ?_
      refine J_iload_n 1 dX13_tries_96 rfl ?_
      refine J_iconst (v := 1) dX13_tries_97 (by decide) ?_
      refine J_iadd dX13_tries_98 ?_
      refine J_bipush (v := 8) dX13_tries_99 (by decide) ?_
      refine J_aload_n 0 dX13_tries_101 rfl ?_
      refine M_getR gf_X13_127_12 dX13_tries_102 (g_324_58 _) k_324 n_324 ?_
      refine J_iload_n 2 dX13_tries_105 rfl ?_
      obtain ⟨g21, h⟩ := gd_inv h
      refine M_iald dX13_tries_106 a_361 n_361 g21 ?_
      refine J_imul dX13_tries_107 ?_
      refine J_aload_n 0 dX13_tries_108 rfl ?_
      refine M_getR gf_X13_148_12 dX13_tries_109 (g_324_66 _) k_324 n_324 ?_
      refine J_iload_n 1 dX13_tries_112 rfl ?_
      obtain ⟨g22, h⟩ := gd_inv h
      refine M_iald dX13_tries_113 a_368 n_368 g22 ?_
      refine J_iadd dX13_tries_114 ?_
      refine J_iload_n 2 dX13_tries_115 rfl ?_
      obtain ⟨r23, σ24, h25, h⟩ := bd_inv h
      refine M_callVI (d' := 2) (k := 324) (As := [.int (l1 + 1), .int ((8 * (rI σ 361 (Int32.toNatClampNeg l2))) + (rI σ 368 (Int32.toNatClampNeg l1))), .int l2]) (st := []) cv_X13_408 dX13_tries_116 rfl (by decide) rfl (Nat.le_of_ble_eq_true rfl) (Nat.le_of_ble_eq_true rfl) (by decide) n_324 k_324 rfl rfl (t_X13_agrees  h25) ?_
      obtain ⟨g26, h⟩ := gd_inv h
      exact J_ret (v := some (.int r23)) rfl ⟨dX13_tries_119, Or.inr (Or.inl ⟨rfl, g26⟩)⟩ (jqI_mk h)
    · have h := (if_neg c20).symm.trans h
      refine J_aload_n 0 dX13_tries_65 rfl ?_
      refine M_getR gf_X13_151_12 dX13_tries_66 (g_324_67 _) k_324 n_324 ?_
      refine J_bipush (v := 40) dX13_tries_69 (by decide) ?_
      refine J_iload_n 1 dX13_tries_71 rfl ?_
      refine J_iconst (v := 1) dX13_tries_72 (by decide) ?_
      refine J_iadd dX13_tries_73 ?_
      refine J_imul dX13_tries_74 ?_
      refine J_iload_n 3 dX13_tries_75 rfl ?_
      refine J_iadd dX13_tries_76 ?_
      refine J_aload_n 0 dX13_tries_77 rfl ?_
      refine M_getR gf_X13_151_12 dX13_tries_78 (g_324_67 _) k_324 n_324 ?_
      refine J_bipush (v := 40) dX13_tries_81 (by decide) ?_
      refine J_iload_n 1 dX13_tries_83 rfl ?_
      refine J_imul dX13_tries_84 ?_
      refine J_iload_n 3 dX13_tries_85 rfl ?_
      refine J_iadd dX13_tries_86 ?_
      obtain ⟨g27, h⟩ := gd_inv h
      refine M_iald dX13_tries_87 a_369 n_369 g27 ?_
      obtain ⟨g28, h⟩ := gd_inv h
      refine M_iast dX13_tries_88 a_369 n_369 g28 ?_
      refine J_iinc (v := (l3 + 1)) (ls' := [(3, .int (l3 + 1)), (0, .ref 324), (1, .int l1), (2, .int l2)]) 3 dX13_tries_89 rfl rfl (by decide) rfl ?_
      refine J_goto (tgt := 59) dX13_tries_92 (by decide) ?_
      refine J_pick [1, 2, 3, 0] rfl ?_
      exact ih _ _ _ _ _  h
set_option maxRecDepth 20000 in
set_option maxHeartbeats 4000000 in
theorem t_X13_tries_51 {rec9 : Int32 → Int32 → Int32 → jM → Option (Int32 × jM)} (hrec9 : ∀ (l1 : Int32) (l2 : Int32) (l3 : Int32) (σ : jM) (r : Int32 × jM), rec9 l1 l2 l3 σ = some r → J mi_X13_tries 3 0 0 (jqI r) 9 [(0, .ref 324), (1, .int l1), (2, .int l2), (3, .int l3)] [] (ms σ)) (l1 : Int32) (l2 : Int32) (l3 : Int32) (σ : jM) (r : Int32 × jM)  (h : f_X13_tries_51 rec9 l1 l2 l3 σ = some r) : J mi_X13_tries 3 0 0 (jqI r) 51 [(0, .ref 324), (1, .int l1), (2, .int l2), (3, .int l3)] [] (ms σ) := by
  unfold f_X13_tries_51 at h
  refine J_iinc (v := (l3 + 1)) (ls' := [(3, .int (l3 + 1)), (0, .ref 324), (1, .int l1), (2, .int l2)]) 3 dX13_tries_51 rfl rfl (by decide) rfl ?_
  refine J_goto (tgt := 9) dX13_tries_54 (by decide) ?_
  refine J_pick [1, 2, 3, 0] rfl ?_
  exact hrec9 _ _ _ _ _  h
set_option maxRecDepth 20000 in
set_option maxHeartbeats 4000000 in
theorem t_X13_tries_9  : ∀ (n : Nat) (l1 : Int32) (l2 : Int32) (l3 : Int32) (σ : jM) (r : Int32 × jM), f_X13_tries_9  n l1 l2 l3 σ = some r → J mi_X13_tries 3 0 0 (jqI r) 9 [(0, .ref 324), (1, .int l1), (2, .int l2), (3, .int l3)] [] (ms σ) := by
  intro n
  induction n with
  | zero =>
    intro l1 l2 l3 σ r  h
    have h : (none : Option (Int32 × jM)) = some r := h
    cases h
  | succ n ih =>
    intro l1 l2 l3 σ r  h
    have h : s_X13_tries_9  (f_X13_tries_9  n) l1 l2 l3 σ = some r := h
    unfold s_X13_tries_9 at h
    refine J_iload_n 3 dX13_tries_9 rfl ?_
    refine J_iload_n 1 dX13_tries_10 rfl ?_
    refine J_icmp_ge (tgt := 57) dX13_tries_11 (by decide) (fun c37 => ?_) (fun c37 => ?_)
    · have h := (if_pos c37).symm.trans h
      refine J_iconst (v := 0) dX13_tries_57 (by decide) ?_
      refine J_istore_n (i := 3) (ls' := [(3, .int 0), (0, .ref 324), (1, .int l1), (2, .int l2)]) dX13_tries_58 rfl (by decide) rfl ?_
      refine J_pick [1, 2, 3, 0] rfl ?_
      exact t_X13_tries_59  _ _ _ _ _ _  h
    · have h := (if_neg c37).symm.trans h
      refine J_aload_n 0 dX13_tries_14 rfl ?_
      refine M_getR gf_X13_127_12 dX13_tries_15 (g_324_58 _) k_324 n_324 ?_
      refine J_aload_n 0 dX13_tries_18 rfl ?_
      refine M_getR gf_X13_145_12 dX13_tries_19 (g_324_65 _) k_324 n_324 ?_
      refine J_iload_n 3 dX13_tries_22 rfl ?_
      obtain ⟨g38, h⟩ := gd_inv h
      refine M_iald dX13_tries_23 a_367 n_367 g38 ?_
      obtain ⟨g39, h⟩ := gd_inv h
      refine M_iald dX13_tries_24 a_361 n_361 g39 ?_
      refine J_aload_n 0 dX13_tries_25 rfl ?_
      refine M_getR gf_X13_127_12 dX13_tries_26 (g_324_58 _) k_324 n_324 ?_
      refine J_iload_n 2 dX13_tries_29 rfl ?_
      obtain ⟨g40, h⟩ := gd_inv h
      refine M_iald dX13_tries_30 a_361 n_361 g40 ?_
      refine J_icmp_ne (tgt := 51) dX13_tries_31 (by decide) (fun c41 => ?_) (fun c41 => ?_)
      · have h := (if_neg c41).symm.trans h
        exact t_X13_tries_51 ih _ _ _ _ _  h
      · have h := (if_pos c41).symm.trans h
        refine J_aload_n 0 dX13_tries_34 rfl ?_
        refine M_getR gf_X13_148_12 dX13_tries_35 (g_324_66 _) k_324 n_324 ?_
        refine J_iload_n 3 dX13_tries_38 rfl ?_
        obtain ⟨g42, h⟩ := gd_inv h
        refine M_iald dX13_tries_39 a_368 n_368 g42 ?_
        refine J_aload_n 0 dX13_tries_40 rfl ?_
        refine M_getR gf_X13_148_12 dX13_tries_41 (g_324_66 _) k_324 n_324 ?_
        refine J_iload_n 1 dX13_tries_44 rfl ?_
        obtain ⟨g43, h⟩ := gd_inv h
        refine M_iald dX13_tries_45 a_368 n_368 g43 ?_
        refine J_icmp_ne (tgt := 51) dX13_tries_46 (by decide) (fun c44 => ?_) (fun c44 => ?_)
        · have h := (if_neg c44).symm.trans h
          exact t_X13_tries_51 ih _ _ _ _ _  h
        · have h := (if_pos c44).symm.trans h
          refine J_iconst (v := 0) dX13_tries_49 (by decide) ?_
          exact J_ret (v := some (.int 0)) rfl ⟨dX13_tries_50, Or.inr (Or.inl ⟨rfl, Or.inl rfl⟩)⟩ (jqI_mk h)
set_option maxRecDepth 20000 in
set_option maxHeartbeats 4000000 in
theorem t_X13_tries {a1 : Int32} {σ : jM} {r : Int32 × jM}  (h : f_X13_tries a1 σ = some r) : J mi_X13_tries 3 0 0 (jqI r) 0 [(0, .ref 324), (1, .int a1)] [] (ms σ) := by
  unfold f_X13_tries at h
  refine J_aload_n 0 dX13_tries_0 rfl ?_
  refine M_getR gf_X13_145_12 dX13_tries_1 (g_324_65 _) k_324 n_324 ?_
  refine J_iload_n 1 dX13_tries_4 rfl ?_
  obtain ⟨g45, h⟩ := gd_inv h
  refine M_iald dX13_tries_5 a_367 n_367 g45 ?_
  refine J_istore_n (i := 2) (ls' := [(2, .int (rI σ 367 (Int32.toNatClampNeg a1))), (0, .ref 324), (1, .int a1)]) dX13_tries_6 rfl (by decide) rfl ?_
  refine J_iconst (v := 0) dX13_tries_7 (by decide) ?_
  refine J_istore_n (i := 3) (ls' := [(3, .int 0), (2, .int (rI σ 367 (Int32.toNatClampNeg a1))), (0, .ref 324), (1, .int a1)]) dX13_tries_8 rfl (by decide) rfl ?_
  refine J_pick [2, 3, 1, 0] rfl ?_
  exact t_X13_tries_9  _ _ _ _ _ _  h
theorem dX13_takes_0 : decode cX13_takes 0 = .ok (.aload_n 0, 1) := by decide +kernel
theorem dX13_takes_1 : decode cX13_takes 1 = .ok (.iload_n 1, 1) := by decide +kernel
theorem dX13_takes_2 : decode cX13_takes 2 = .ok (.invokevirtual 345, 3) := by decide +kernel
theorem dX13_takes_5 : decode cX13_takes 5 = .ok (.aload_n 0, 1) := by decide +kernel
theorem dX13_takes_6 : decode cX13_takes 6 = .ok (.iconst 0, 1) := by decide +kernel
theorem dX13_takes_7 : decode cX13_takes 7 = .ok (.putfield 414, 3) := by decide +kernel
theorem dX13_takes_10 : decode cX13_takes 10 = .ok (.iconst 0, 1) := by decide +kernel
theorem dX13_takes_11 : decode cX13_takes 11 = .ok (.istore_n 3, 1) := by decide +kernel
theorem dX13_takes_12 : decode cX13_takes 12 = .ok (.iload_n 3, 1) := by decide +kernel
theorem dX13_takes_13 : decode cX13_takes 13 = .ok (.aload_n 0, 1) := by decide +kernel
theorem dX13_takes_14 : decode cX13_takes 14 = .ok (.getfield 383, 3) := by decide +kernel
theorem dX13_takes_17 : decode cX13_takes 17 = .ok (.if_icmp .ge 56, 3) := by decide +kernel
theorem dX13_takes_20 : decode cX13_takes 20 = .ok (.aload_n 0, 1) := by decide +kernel
theorem dX13_takes_21 : decode cX13_takes 21 = .ok (.iload_n 3, 1) := by decide +kernel
theorem dX13_takes_22 : decode cX13_takes 22 = .ok (.iload_n 1, 1) := by decide +kernel
theorem dX13_takes_23 : decode cX13_takes 23 = .ok (.invokevirtual 429, 3) := by decide +kernel
theorem dX13_takes_26 : decode cX13_takes 26 = .ok (.ifCond .eq 41, 3) := by decide +kernel
theorem dX13_takes_29 : decode cX13_takes 29 = .ok (.iload_n 2, 1) := by decide +kernel
theorem dX13_takes_30 : decode cX13_takes 30 = .ok (.iload_n 3, 1) := by decide +kernel
theorem dX13_takes_31 : decode cX13_takes 31 = .ok (.ishr, 1) := by decide +kernel
theorem dX13_takes_32 : decode cX13_takes 32 = .ok (.iconst 1, 1) := by decide +kernel
theorem dX13_takes_33 : decode cX13_takes 33 = .ok (.iand, 1) := by decide +kernel
theorem dX13_takes_34 : decode cX13_takes 34 = .ok (.iconst 1, 1) := by decide +kernel
theorem dX13_takes_35 : decode cX13_takes 35 = .ok (.if_icmp .ne 6, 3) := by decide +kernel
theorem dX13_takes_38 : decode cX13_takes 38 = .ok (.goto 29, 3) := by decide +kernel
theorem dX13_takes_41 : decode cX13_takes 41 = .ok (.aload_n 0, 1) := by decide +kernel
theorem dX13_takes_42 : decode cX13_takes 42 = .ok (.iload_n 3, 1) := by decide +kernel
theorem dX13_takes_43 : decode cX13_takes 43 = .ok (.iload_n 1, 1) := by decide +kernel
theorem dX13_takes_44 : decode cX13_takes 44 = .ok (.invokevirtual 401, 3) := by decide +kernel
theorem dX13_takes_47 : decode cX13_takes 47 = .ok (.aload_n 0, 1) := by decide +kernel
theorem dX13_takes_48 : decode cX13_takes 48 = .ok (.getfield 145, 3) := by decide +kernel
theorem dX13_takes_51 : decode cX13_takes 51 = .ok (.aload_n 0, 1) := by decide +kernel
theorem dX13_takes_52 : decode cX13_takes 52 = .ok (.getfield 414, 3) := by decide +kernel
theorem dX13_takes_55 : decode cX13_takes 55 = .ok (.iload_n 3, 1) := by decide +kernel
theorem dX13_takes_56 : decode cX13_takes 56 = .ok (.iastore, 1) := by decide +kernel
theorem dX13_takes_57 : decode cX13_takes 57 = .ok (.aload_n 0, 1) := by decide +kernel
theorem dX13_takes_58 : decode cX13_takes 58 = .ok (.dup, 1) := by decide +kernel
theorem dX13_takes_59 : decode cX13_takes 59 = .ok (.getfield 414, 3) := by decide +kernel
theorem dX13_takes_62 : decode cX13_takes 62 = .ok (.iconst 1, 1) := by decide +kernel
theorem dX13_takes_63 : decode cX13_takes 63 = .ok (.iadd, 1) := by decide +kernel
theorem dX13_takes_64 : decode cX13_takes 64 = .ok (.putfield 414, 3) := by decide +kernel
theorem dX13_takes_67 : decode cX13_takes 67 = .ok (.iinc 3 1, 3) := by decide +kernel
theorem dX13_takes_70 : decode cX13_takes 70 = .ok (.goto (-58), 3) := by decide +kernel
theorem dX13_takes_73 : decode cX13_takes 73 = .ok (.return_, 1) := by decide +kernel
noncomputable def f_X13_takes_67 (rec12 : Int32 → Int32 → Int32 → jM → Option (Unit × jM)) (l1 : Int32) (l2 : Int32) (l3 : Int32) (σ : jM) : Option (Unit × jM) :=
  rec12 l1 l2 (l3 + 1) σ
noncomputable def s_X13_takes_12  (rec12 : Int32 → Int32 → Int32 → jM → Option (Unit × jM)) (l1 : Int32) (l2 : Int32) (l3 : Int32) (σ : jM) : Option (Unit × jM) :=
  (if (rI σ 324 55) ≤ l3 then some ((), σ) else bd (f_X13_nameCounts l3 l1 σ) (fun r3 σ4 => (if r3 = 0 then f_X13_takes_67 rec12 l1 l2 l3 σ4 else (if ((l2 >>> (l3 &&& 31)) &&& 1) = 1 then f_X13_takes_67 rec12 l1 l2 l3 σ4 else bd (f_X13_spells l3 l1 σ4) (fun _ σ9 => gd (inb (rI σ9 324 64) 7) (f_X13_takes_67 rec12 l1 l2 l3 (wI (wI σ9 367 (Int32.toNatClampNeg (rI σ9 324 64)) l3) 324 64 ((rI (wI σ9 367 (Int32.toNatClampNeg (rI σ9 324 64)) l3) 324 64) + 1))))))))
noncomputable def f_X13_takes_12  (n : Nat) : Int32 → Int32 → Int32 → jM → Option (Unit × jM) := Nat.rec (motive := fun _ => Int32 → Int32 → Int32 → jM → Option (Unit × jM)) (fun _ _ _ _ => none) (fun _ q => s_X13_takes_12  q) n
noncomputable def f_X13_takes (a1 : Int32) (a2 : Int32) (σ : jM) : Option (Unit × jM) :=
  bd (f_X13_findLinks a1 σ) (fun _ σ23 => f_X13_takes_12  Fu a1 a2 0 (wI σ23 324 64 0))
set_option maxRecDepth 20000 in
set_option maxHeartbeats 4000000 in
theorem t_X13_takes_67 {rec12 : Int32 → Int32 → Int32 → jM → Option (Unit × jM)} (hrec12 : ∀ (l1 : Int32) (l2 : Int32) (l3 : Int32) (σ : jM) (r : Unit × jM), rec12 l1 l2 l3 σ = some r → J mi_X13_takes 5 0 0 (jqV r) 12 [(0, .ref 324), (1, .int l1), (2, .int l2), (3, .int l3)] [] (ms σ)) (l1 : Int32) (l2 : Int32) (l3 : Int32) (σ : jM) (r : Unit × jM)  (h : f_X13_takes_67 rec12 l1 l2 l3 σ = some r) : J mi_X13_takes 5 0 0 (jqV r) 67 [(0, .ref 324), (1, .int l1), (2, .int l2), (3, .int l3)] [] (ms σ) := by
  unfold f_X13_takes_67 at h
  refine J_iinc (v := (l3 + 1)) (ls' := [(3, .int (l3 + 1)), (0, .ref 324), (1, .int l1), (2, .int l2)]) 3 dX13_takes_67 rfl rfl (by decide) rfl ?_
  refine J_goto (tgt := 12) dX13_takes_70 (by decide) ?_
  refine J_pick [1, 2, 3, 0] rfl ?_
  exact hrec12 _ _ _ _ _  h
set_option maxRecDepth 20000 in
set_option maxHeartbeats 4000000 in
theorem t_X13_takes_12  : ∀ (n : Nat) (l1 : Int32) (l2 : Int32) (l3 : Int32) (σ : jM) (r : Unit × jM), f_X13_takes_12  n l1 l2 l3 σ = some r → J mi_X13_takes 5 0 0 (jqV r) 12 [(0, .ref 324), (1, .int l1), (2, .int l2), (3, .int l3)] [] (ms σ) := by
  intro n
  induction n with
  | zero =>
    intro l1 l2 l3 σ r  h
    have h : (none : Option (Unit × jM)) = some r := h
    cases h
  | succ n ih =>
    intro l1 l2 l3 σ r  h
    have h : s_X13_takes_12  (f_X13_takes_12  n) l1 l2 l3 σ = some r := h
    unfold s_X13_takes_12 at h
    refine J_iload_n 3 dX13_takes_12 rfl ?_
    refine J_aload_n 0 dX13_takes_13 rfl ?_
    refine M_getI gf_X13_383_12 dX13_takes_14 k_324 n_324 ?_
    refine J_icmp_ge (tgt := 73) dX13_takes_17 (by decide) (fun c12 => ?_) (fun c12 => ?_)
    · have h := (if_pos c12).symm.trans h
      exact J_ret (v := none) rfl ⟨dX13_takes_73, rfl⟩ (jqV_mk h)
    · have h := (if_neg c12).symm.trans h
      refine J_aload_n 0 dX13_takes_20 rfl ?_
      refine J_iload_n 3 dX13_takes_21 rfl ?_
      refine J_iload_n 1 dX13_takes_22 rfl ?_
      obtain ⟨r13, σ14, h15, h⟩ := bd_inv h
      refine M_callVI (d' := 3) (k := 324) (As := [.int l3, .int l1]) (st := []) cv_X13_429 dX13_takes_23 rfl (by decide) rfl (Nat.le_of_ble_eq_true rfl) (Nat.le_of_ble_eq_true rfl) (by decide) n_324 k_324 rfl rfl (t_X13_nameCounts  h15) ?_
      refine J_if_eq (tgt := 67) dX13_takes_26 (by decide) (fun c16 => ?_) (fun c16 => ?_)
      · have h := (if_pos c16).symm.trans h
        exact t_X13_takes_67 ih _ _ _ _ _  h
      · have h := (if_neg c16).symm.trans h
        refine J_iload_n 2 dX13_takes_29 rfl ?_
        refine J_iload_n 3 dX13_takes_30 rfl ?_
        refine J_ishr dX13_takes_31 ?_
        refine J_iconst (v := 1) dX13_takes_32 (by decide) ?_
        refine J_iand dX13_takes_33 ?_
        refine J_iconst (v := 1) dX13_takes_34 (by decide) ?_
        refine J_icmp_ne (tgt := 41) dX13_takes_35 (by decide) (fun c17 => ?_) (fun c17 => ?_)
        · have h := (if_neg c17).symm.trans h
          refine J_aload_n 0 dX13_takes_41 rfl ?_
          refine J_iload_n 3 dX13_takes_42 rfl ?_
          refine J_iload_n 1 dX13_takes_43 rfl ?_
          obtain ⟨_, σ19, h20, h⟩ := bd_inv h
          refine M_callVV (d' := 3) (k := 324) (As := [.int l3, .int l1]) (st := []) cv_X13_401 dX13_takes_44 rfl (by decide) rfl (Nat.le_of_ble_eq_true rfl) (Nat.le_of_ble_eq_true rfl) (by decide) n_324 k_324 rfl rfl (t_X13_spells  h20) ?_
          refine J_aload_n 0 dX13_takes_47 rfl ?_
          refine M_getR gf_X13_145_12 dX13_takes_48 (g_324_65 _) k_324 n_324 ?_
          refine J_aload_n 0 dX13_takes_51 rfl ?_
          refine M_getI gf_X13_414_12 dX13_takes_52 k_324 n_324 ?_
          refine J_iload_n 3 dX13_takes_55 rfl ?_
          obtain ⟨g21, h⟩ := gd_inv h
          refine M_iast dX13_takes_56 a_367 n_367 g21 ?_
          refine J_aload_n 0 dX13_takes_57 rfl ?_
          refine J_dup dX13_takes_58 rfl ?_
          refine M_getI gf_X13_414_12 dX13_takes_59 k_324 n_324 ?_
          refine J_iconst (v := 1) dX13_takes_62 (by decide) ?_
          refine J_iadd dX13_takes_63 ?_
          refine M_putI pf_X13_414_12 dX13_takes_64 k_324 n_324 ⟨rfl, rfl⟩ ?_
          exact t_X13_takes_67 ih _ _ _ _ _  h
        · have h := (if_pos c17).symm.trans h
          refine J_goto (tgt := 67) dX13_takes_38 (by decide) ?_
          exact t_X13_takes_67 ih _ _ _ _ _  h
set_option maxRecDepth 20000 in
set_option maxHeartbeats 4000000 in
theorem t_X13_takes {a1 : Int32} {a2 : Int32} {σ : jM} {r : Unit × jM}  (h : f_X13_takes a1 a2 σ = some r) : J mi_X13_takes 5 0 0 (jqV r) 0 [(0, .ref 324), (1, .int a1), (2, .int a2)] [] (ms σ) := by
  unfold f_X13_takes at h
  refine J_aload_n 0 dX13_takes_0 rfl ?_
  refine J_iload_n 1 dX13_takes_1 rfl ?_
  obtain ⟨_, σ23, h24, h⟩ := bd_inv h
  refine M_callVV (d' := 4) (k := 324) (As := [.int a1]) (st := []) cv_X13_345 dX13_takes_2 rfl (by decide) rfl (Nat.le_of_ble_eq_true rfl) (Nat.le_of_ble_eq_true rfl) (by decide) n_324 k_324 rfl rfl (t_X13_findLinks  h24) ?_
  refine J_aload_n 0 dX13_takes_5 rfl ?_
  refine J_iconst (v := 0) dX13_takes_6 (by decide) ?_
  refine M_putI pf_X13_414_12 dX13_takes_7 k_324 n_324 ⟨rfl, rfl⟩ ?_
  refine J_iconst (v := 0) dX13_takes_10 (by decide) ?_
  refine J_istore_n (i := 3) (ls' := [(3, .int 0), (0, .ref 324), (1, .int a1), (2, .int a2)]) dX13_takes_11 rfl (by decide) rfl ?_
  refine J_pick [1, 2, 3, 0] rfl ?_
  exact t_X13_takes_12  _ _ _ _ _ _  h
