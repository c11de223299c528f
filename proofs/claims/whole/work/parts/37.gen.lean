theorem dX12_doubt_0 : decode cX12_doubt 0 = .ok (.iload_n 2, 1) := by decide +kernel
theorem dX12_doubt_1 : decode cX12_doubt 1 = .ok (.ifCond .lt 16, 3) := by decide +kernel
theorem dX12_doubt_4 : decode cX12_doubt 4 = .ok (.iload_n 2, 1) := by decide +kernel
theorem dX12_doubt_5 : decode cX12_doubt 5 = .ok (.iconst 1, 1) := by decide +kernel
theorem dX12_doubt_6 : decode cX12_doubt 6 = .ok (.if_icmp .gt 11, 3) := by decide +kernel
theorem dX12_doubt_9 : decode cX12_doubt 9 = .ok (.aload_n 0, 1) := by decide +kernel
theorem dX12_doubt_10 : decode cX12_doubt 10 = .ok (.iload_n 1, 1) := by decide +kernel
theorem dX12_doubt_11 : decode cX12_doubt 11 = .ok (.invokevirtual 228, 3) := by decide +kernel
theorem dX12_doubt_14 : decode cX12_doubt 14 = .ok (.ifCond .ne 5, 3) := by decide +kernel
theorem dX12_doubt_17 : decode cX12_doubt 17 = .ok (.iconst (-1), 1) := by decide +kernel
theorem dX12_doubt_18 : decode cX12_doubt 18 = .ok (.ireturn, 1) := by decide +kernel
theorem dX12_doubt_19 : decode cX12_doubt 19 = .ok (.aload_n 0, 1) := by decide +kernel
theorem dX12_doubt_20 : decode cX12_doubt 20 = .ok (.getfield 62, 3) := by decide +kernel
theorem dX12_doubt_23 : decode cX12_doubt 23 = .ok (.invokevirtual 339, 3) := by decide +kernel
theorem dX12_doubt_26 : decode cX12_doubt 26 = .ok (.iload_n 2, 1) := by decide +kernel
theorem dX12_doubt_27 : decode cX12_doubt 27 = .ok (.ifCond .ne 16, 3) := by decide +kernel
theorem dX12_doubt_30 : decode cX12_doubt 30 = .ok (.aload_n 0, 1) := by decide +kernel
theorem dX12_doubt_31 : decode cX12_doubt 31 = .ok (.getfield 62, 3) := by decide +kernel
theorem dX12_doubt_34 : decode cX12_doubt 34 = .ok (.getfield 342, 3) := by decide +kernel
theorem dX12_doubt_37 : decode cX12_doubt 37 = .ok (.invokestatic 345, 3) := by decide +kernel
theorem dX12_doubt_40 : decode cX12_doubt 40 = .ok (.goto 10, 3) := by decide +kernel
theorem dX12_doubt_43 : decode cX12_doubt 43 = .ok (.aload_n 0, 1) := by decide +kernel
theorem dX12_doubt_44 : decode cX12_doubt 44 = .ok (.getfield 62, 3) := by decide +kernel
theorem dX12_doubt_47 : decode cX12_doubt 47 = .ok (.getfield 342, 3) := by decide +kernel
theorem dX12_doubt_50 : decode cX12_doubt 50 = .ok (.ireturn, 1) := by decide +kernel
noncomputable def f_X12_doubt_17   (σ : jM) : Option (Int32 × jM) :=
  some ((-1), σ)
noncomputable def f_X12_doubt_50  (s0 : Int32) (σ : jM) : Option (Int32 × jM) :=
  some (s0, σ)
noncomputable def f_X12_doubt (a1 : Int32) (a2 : Int32) (σ : jM) : Option (Int32 × jM) :=
  (if a2 < 0 then f_X12_doubt_17   σ else (if 1 < a2 then f_X12_doubt_17   σ else bd (f_X12_seeGrid a1 σ) (fun r3 σ4 => (if r3 = 0 then f_X12_doubt_17   σ4 else bd (f_X1_findDoubt  σ4) (fun _ σ8 => (if a2 = 0 then bd (f_J6_bitCount_0f7a4 (rI σ8 322 1) σ8) (fun r11 σ12 => f_X12_doubt_50  r11 σ12) else f_X12_doubt_50  (rI σ8 322 1) σ8))))))
set_option maxRecDepth 20000 in
set_option maxHeartbeats 4000000 in
theorem t_X12_doubt_17   (σ : jM) (r : Int32 × jM)  (h : f_X12_doubt_17   σ = some r) : J mi_X12_doubt 17 0 0 (jqI r) 17 [] [] (ms σ) := by
  unfold f_X12_doubt_17 at h
  refine J_iconst (v := (-1)) dX12_doubt_17 (by decide) ?_
  exact J_ret (v := some (.int (-1))) rfl ⟨dX12_doubt_18, Or.inl rfl⟩ (jqI_mk h)
set_option maxRecDepth 20000 in
set_option maxHeartbeats 4000000 in
theorem t_X12_doubt_50  (s0 : Int32) (σ : jM) (r : Int32 × jM)  (h : f_X12_doubt_50  s0 σ = some r) : J mi_X12_doubt 17 0 0 (jqI r) 50 [] [.int s0] (ms σ) := by
  unfold f_X12_doubt_50 at h
  exact J_ret (v := some (.int s0)) rfl ⟨dX12_doubt_50, Or.inl rfl⟩ (jqI_mk h)
set_option maxRecDepth 20000 in
set_option maxHeartbeats 4000000 in
theorem t_X12_doubt {a1 : Int32} {a2 : Int32} {σ : jM} {r : Int32 × jM}  (h : f_X12_doubt a1 a2 σ = some r) : J mi_X12_doubt 17 0 0 (jqI r) 0 [(0, .ref 0), (1, .int a1), (2, .int a2)] [] (ms σ) := by
  unfold f_X12_doubt at h
  refine J_iload_n 2 dX12_doubt_0 rfl ?_
  refine J_if_lt (tgt := 17) dX12_doubt_1 (by decide) (fun c1 => ?_) (fun c1 => ?_)
  · have h := (if_pos c1).symm.trans h
    refine J_pick [] rfl ?_
    exact t_X12_doubt_17   _ _  h
  · have h := (if_neg c1).symm.trans h
    refine J_iload_n 2 dX12_doubt_4 rfl ?_
    refine J_iconst (v := 1) dX12_doubt_5 (by decide) ?_
    refine J_icmp_gt (tgt := 17) dX12_doubt_6 (by decide) (fun c2 => ?_) (fun c2 => ?_)
    · have h := (if_pos c2).symm.trans h
      refine J_pick [] rfl ?_
      exact t_X12_doubt_17   _ _  h
    · have h := (if_neg c2).symm.trans h
      refine J_aload_n 0 dX12_doubt_9 rfl ?_
      refine J_iload_n 1 dX12_doubt_10 rfl ?_
      obtain ⟨r3, σ4, h5, h⟩ := bd_inv h
      refine M_callVI (d' := 7) (k := 0) (As := [.int a1]) (st := []) cv_X12_228 dX12_doubt_11 rfl (by decide) rfl (Nat.le_of_ble_eq_true rfl) (Nat.le_of_ble_eq_true rfl) (by decide) n_0 k_0 rfl rfl (t_X12_seeGrid  h5) ?_
      refine J_if_ne (tgt := 19) dX12_doubt_14 (by decide) (fun c6 => ?_) (fun c6 => ?_)
      · have h := (if_neg c6).symm.trans h
        refine J_aload_n 0 dX12_doubt_19 rfl ?_
        refine M_getR gf_X12_62_11 dX12_doubt_20 (g_0_5 _) k_0 n_0 ?_
        obtain ⟨_, σ8, h9, h⟩ := bd_inv h
        refine M_callVV (d' := 16) (k := 322) (As := []) (st := []) cv_X12_339 dX12_doubt_23 rfl (by decide) rfl (Nat.le_of_ble_eq_true rfl) (Nat.le_of_ble_eq_true rfl) (by decide) n_322 k_322 rfl rfl (t_X1_findDoubt  h9) ?_
        refine J_iload_n 2 dX12_doubt_26 rfl ?_
        refine J_if_ne (tgt := 43) dX12_doubt_27 (by decide) (fun c10 => ?_) (fun c10 => ?_)
        · have h := (if_neg c10).symm.trans h
          refine J_aload_n 0 dX12_doubt_43 rfl ?_
          refine M_getR gf_X12_62_11 dX12_doubt_44 (g_0_5 _) k_0 n_0 ?_
          refine M_getI gf_X12_342_1 dX12_doubt_47 k_322 n_322 ?_
          refine J_pick [] rfl ?_
          exact t_X12_doubt_50  _ _ _  h
        · have h := (if_pos c10).symm.trans h
          refine J_aload_n 0 dX12_doubt_30 rfl ?_
          refine M_getR gf_X12_62_11 dX12_doubt_31 (g_0_5 _) k_0 n_0 ?_
          refine M_getI gf_X12_342_1 dX12_doubt_34 k_322 n_322 ?_
          obtain ⟨r11, σ12, h13, h⟩ := bd_inv h
          refine M_callSI (d' := 1) (As := [.int (rI σ8 322 1)]) (st := []) cs_X12_345 dX12_doubt_37 rfl (Nat.le_of_ble_eq_true rfl) (Nat.le_of_ble_eq_true rfl) (by decide) rfl rfl (t_J6_bitCount_0f7a4  h13) ?_
          refine J_goto (tgt := 50) dX12_doubt_40 (by decide) ?_
          refine J_pick [] rfl ?_
          exact t_X12_doubt_50  _ _ _  h
      · have h := (if_pos c6).symm.trans h
        refine J_pick [] rfl ?_
        exact t_X12_doubt_17   _ _  h
theorem dX12_could_0 : decode cX12_could 0 = .ok (.iload_n 2, 1) := by decide +kernel
theorem dX12_could_1 : decode cX12_could 1 = .ok (.invokestatic 144, 3) := by decide +kernel
theorem dX12_could_4 : decode cX12_could 4 = .ok (.ifCond .eq 26, 3) := by decide +kernel
theorem dX12_could_7 : decode cX12_could 7 = .ok (.iload_n 3, 1) := by decide +kernel
theorem dX12_could_8 : decode cX12_could 8 = .ok (.ifCond .lt 22, 3) := by decide +kernel
theorem dX12_could_11 : decode cX12_could 11 = .ok (.iload 4, 2) := by decide +kernel
theorem dX12_could_13 : decode cX12_could 13 = .ok (.ifCond .lt 17, 3) := by decide +kernel
theorem dX12_could_16 : decode cX12_could 16 = .ok (.iload 4, 2) := by decide +kernel
theorem dX12_could_18 : decode cX12_could 18 = .ok (.iconst 1, 1) := by decide +kernel
theorem dX12_could_19 : decode cX12_could 19 = .ok (.if_icmp .gt 11, 3) := by decide +kernel
theorem dX12_could_22 : decode cX12_could 22 = .ok (.aload_n 0, 1) := by decide +kernel
theorem dX12_could_23 : decode cX12_could 23 = .ok (.iload_n 1, 1) := by decide +kernel
theorem dX12_could_24 : decode cX12_could 24 = .ok (.invokevirtual 228, 3) := by decide +kernel
theorem dX12_could_27 : decode cX12_could 27 = .ok (.ifCond .ne 5, 3) := by decide +kernel
theorem dX12_could_30 : decode cX12_could 30 = .ok (.iconst (-1), 1) := by decide +kernel
theorem dX12_could_31 : decode cX12_could 31 = .ok (.ireturn, 1) := by decide +kernel
theorem dX12_could_32 : decode cX12_could 32 = .ok (.aload_n 0, 1) := by decide +kernel
theorem dX12_could_33 : decode cX12_could 33 = .ok (.getfield 62, 3) := by decide +kernel
theorem dX12_could_36 : decode cX12_could 36 = .ok (.invokevirtual 291, 3) := by decide +kernel
theorem dX12_could_39 : decode cX12_could 39 = .ok (.aload_n 0, 1) := by decide +kernel
theorem dX12_could_40 : decode cX12_could 40 = .ok (.getfield 19, 3) := by decide +kernel
theorem dX12_could_43 : decode cX12_could 43 = .ok (.getfield 205, 3) := by decide +kernel
theorem dX12_could_46 : decode cX12_could 46 = .ok (.iload_n 2, 1) := by decide +kernel
theorem dX12_could_47 : decode cX12_could 47 = .ok (.iaload, 1) := by decide +kernel
theorem dX12_could_48 : decode cX12_could 48 = .ok (.istore 5, 2) := by decide +kernel
theorem dX12_could_50 : decode cX12_could 50 = .ok (.aload_n 0, 1) := by decide +kernel
theorem dX12_could_51 : decode cX12_could 51 = .ok (.getfield 62, 3) := by decide +kernel
theorem dX12_could_54 : decode cX12_could 54 = .ok (.iload 5, 2) := by decide +kernel
theorem dX12_could_56 : decode cX12_could 56 = .ok (.iload_n 3, 1) := by decide +kernel
theorem dX12_could_57 : decode cX12_could 57 = .ok (.invokevirtual 350, 3) := by decide +kernel
theorem dX12_could_60 : decode cX12_could 60 = .ok (.istore 6, 2) := by decide +kernel
theorem dX12_could_62 : decode cX12_could 62 = .ok (.iload 4, 2) := by decide +kernel
theorem dX12_could_64 : decode cX12_could 64 = .ok (.ifCond .eq 9, 3) := by decide +kernel
theorem dX12_could_67 : decode cX12_could 67 = .ok (.iload 6, 2) := by decide +kernel
theorem dX12_could_69 : decode cX12_could 69 = .ok (.iconst (-1), 1) := by decide +kernel
theorem dX12_could_70 : decode cX12_could 70 = .ok (.if_icmp .ne 8, 3) := by decide +kernel
theorem dX12_could_73 : decode cX12_could 73 = .ok (.iload 6, 2) := by decide +kernel
theorem dX12_could_75 : decode cX12_could 75 = .ok (.goto 14, 3) := by decide +kernel
theorem dX12_could_78 : decode cX12_could 78 = .ok (.aload_n 0, 1) := by decide +kernel
theorem dX12_could_79 : decode cX12_could 79 = .ok (.getfield 62, 3) := by decide +kernel
theorem dX12_could_82 : decode cX12_could 82 = .ok (.iload 5, 2) := by decide +kernel
theorem dX12_could_84 : decode cX12_could 84 = .ok (.iload 6, 2) := by decide +kernel
theorem dX12_could_86 : decode cX12_could 86 = .ok (.invokevirtual 353, 3) := by decide +kernel
theorem dX12_could_89 : decode cX12_could 89 = .ok (.ireturn, 1) := by decide +kernel
noncomputable def f_X12_could_30   (σ : jM) : Option (Int32 × jM) :=
  some ((-1), σ)
noncomputable def f_X12_could_89  (s0 : Int32) (σ : jM) : Option (Int32 × jM) :=
  some (s0, σ)
noncomputable def f_X12_could_73  (l6 : Int32) (σ : jM) : Option (Int32 × jM) :=
  f_X12_could_89  l6 σ
noncomputable def f_X12_could (a1 : Int32) (a2 : Int32) (a3 : Int32) (a4 : Int32) (σ : jM) : Option (Int32 × jM) :=
  bd (f_X12_isSign a2 σ) (fun r2 σ3 => (if r2 = 0 then f_X12_could_30   σ3 else (if a3 < 0 then f_X12_could_30   σ3 else (if a4 < 0 then f_X12_could_30   σ3 else (if 1 < a4 then f_X12_could_30   σ3 else bd (f_X12_seeGrid a1 σ3) (fun r9 σ10 => (if r9 = 0 then f_X12_could_30   σ10 else bd (f_X1_countWays  σ10) (fun _ σ14 => gd (inb a2 40) (bd (f_X1_possibleCell (rI σ14 18 (Int32.toNatClampNeg a2)) a3 σ14) (fun r17 σ18 => (if a4 = 0 then f_X12_could_73  r17 σ18 else (if r17 = (-1) then f_X12_could_73  r17 σ18 else bd (f_X1_waysWith (rI σ14 18 (Int32.toNatClampNeg a2)) r17 σ18) (fun r22 σ23 => f_X12_could_89  r22 σ23)))))))))))))
set_option maxRecDepth 20000 in
set_option maxHeartbeats 4000000 in
theorem t_X12_could_30   (σ : jM) (r : Int32 × jM)  (h : f_X12_could_30   σ = some r) : J mi_X12_could 17 0 0 (jqI r) 30 [] [] (ms σ) := by
  unfold f_X12_could_30 at h
  refine J_iconst (v := (-1)) dX12_could_30 (by decide) ?_
  exact J_ret (v := some (.int (-1))) rfl ⟨dX12_could_31, Or.inl rfl⟩ (jqI_mk h)
set_option maxRecDepth 20000 in
set_option maxHeartbeats 4000000 in
theorem t_X12_could_89  (s0 : Int32) (σ : jM) (r : Int32 × jM)  (h : f_X12_could_89  s0 σ = some r) : J mi_X12_could 17 0 0 (jqI r) 89 [] [.int s0] (ms σ) := by
  unfold f_X12_could_89 at h
  exact J_ret (v := some (.int s0)) rfl ⟨dX12_could_89, Or.inl rfl⟩ (jqI_mk h)
set_option maxRecDepth 20000 in
set_option maxHeartbeats 4000000 in
theorem t_X12_could_73  (l6 : Int32) (σ : jM) (r : Int32 × jM)  (h : f_X12_could_73  l6 σ = some r) : J mi_X12_could 17 0 0 (jqI r) 73 [(6, .int l6)] [] (ms σ) := by
  unfold f_X12_could_73 at h
  refine J_iload 0 dX12_could_73 rfl ?_
  refine J_goto (tgt := 89) dX12_could_75 (by decide) ?_
  refine J_pick [] rfl ?_
  exact t_X12_could_89  _ _ _  h
set_option maxRecDepth 20000 in
set_option maxHeartbeats 4000000 in
theorem t_X12_could {a1 : Int32} {a2 : Int32} {a3 : Int32} {a4 : Int32} {σ : jM} {r : Int32 × jM}  (h : f_X12_could a1 a2 a3 a4 σ = some r) : J mi_X12_could 17 0 0 (jqI r) 0 [(0, .ref 0), (1, .int a1), (2, .int a2), (3, .int a3), (4, .int a4)] [] (ms σ) := by
  unfold f_X12_could at h
  refine J_iload_n 2 dX12_could_0 rfl ?_
  obtain ⟨r2, σ3, h4, h⟩ := bd_inv h
  refine M_callSI (d' := 1) (As := [.int a2]) (st := []) cs_X12_144 dX12_could_1 rfl (Nat.le_of_ble_eq_true rfl) (Nat.le_of_ble_eq_true rfl) (by decide) rfl rfl (t_X12_isSign  h4) ?_
  refine J_if_eq (tgt := 30) dX12_could_4 (by decide) (fun c5 => ?_) (fun c5 => ?_)
  · have h := (if_pos c5).symm.trans h
    refine J_pick [] rfl ?_
    exact t_X12_could_30   _ _  h
  · have h := (if_neg c5).symm.trans h
    refine J_iload_n 3 dX12_could_7 rfl ?_
    refine J_if_lt (tgt := 30) dX12_could_8 (by decide) (fun c6 => ?_) (fun c6 => ?_)
    · have h := (if_pos c6).symm.trans h
      refine J_pick [] rfl ?_
      exact t_X12_could_30   _ _  h
    · have h := (if_neg c6).symm.trans h
      refine J_iload 4 dX12_could_11 rfl ?_
      refine J_if_lt (tgt := 30) dX12_could_13 (by decide) (fun c7 => ?_) (fun c7 => ?_)
      · have h := (if_pos c7).symm.trans h
        refine J_pick [] rfl ?_
        exact t_X12_could_30   _ _  h
      · have h := (if_neg c7).symm.trans h
        refine J_iload 4 dX12_could_16 rfl ?_
        refine J_iconst (v := 1) dX12_could_18 (by decide) ?_
        refine J_icmp_gt (tgt := 30) dX12_could_19 (by decide) (fun c8 => ?_) (fun c8 => ?_)
        · have h := (if_pos c8).symm.trans h
          refine J_pick [] rfl ?_
          exact t_X12_could_30   _ _  h
        · have h := (if_neg c8).symm.trans h
          refine J_aload_n 0 dX12_could_22 rfl ?_
          refine J_iload_n 1 dX12_could_23 rfl ?_
          obtain ⟨r9, σ10, h11, h⟩ := bd_inv h
          refine M_callVI (d' := 7) (k := 0) (As := [.int a1]) (st := []) cv_X12_228 dX12_could_24 rfl (by decide) rfl (Nat.le_of_ble_eq_true rfl) (Nat.le_of_ble_eq_true rfl) (by decide) n_0 k_0 rfl rfl (t_X12_seeGrid  h11) ?_
          refine J_if_ne (tgt := 32) dX12_could_27 (by decide) (fun c12 => ?_) (fun c12 => ?_)
          · have h := (if_neg c12).symm.trans h
            refine J_aload_n 0 dX12_could_32 rfl ?_
            refine M_getR gf_X12_62_11 dX12_could_33 (g_0_5 _) k_0 n_0 ?_
            obtain ⟨_, σ14, h15, h⟩ := bd_inv h
            refine M_callVV (d' := 16) (k := 322) (As := []) (st := []) cv_X12_291 dX12_could_36 rfl (by decide) rfl (Nat.le_of_ble_eq_true rfl) (Nat.le_of_ble_eq_true rfl) (by decide) n_322 k_322 rfl rfl (t_X1_countWays  h15) ?_
            refine J_aload_n 0 dX12_could_39 rfl ?_
            refine M_getR gf_X12_19_11 dX12_could_40 (g_0_0 _) k_0 n_0 ?_
            refine M_getR gf_X12_205_0 dX12_could_43 (g_3_11 _) k_3 n_3 ?_
            refine J_iload_n 2 dX12_could_46 rfl ?_
            obtain ⟨g16, h⟩ := gd_inv h
            refine M_iald dX12_could_47 a_18 n_18 g16 ?_
            refine J_istore (i := 5) (ls' := [(5, .int (rI σ14 18 (Int32.toNatClampNeg a2))), (0, .ref 0), (1, .int a1), (2, .int a2), (3, .int a3), (4, .int a4)]) dX12_could_48 (by decide) rfl ?_
            refine J_aload_n 1 dX12_could_50 rfl ?_
            refine M_getR gf_X12_62_11 dX12_could_51 (g_0_5 _) k_0 n_0 ?_
            refine J_iload 0 dX12_could_54 rfl ?_
            refine J_iload_n 4 dX12_could_56 rfl ?_
            obtain ⟨r17, σ18, h19, h⟩ := bd_inv h
            refine M_callVI (d' := 2) (k := 322) (As := [.int (rI σ14 18 (Int32.toNatClampNeg a2)), .int a3]) (st := []) cv_X12_350 dX12_could_57 rfl (by decide) rfl (Nat.le_of_ble_eq_true rfl) (Nat.le_of_ble_eq_true rfl) (by decide) n_322 k_322 rfl rfl (t_X1_possibleCell  h19) ?_
            refine J_istore (i := 6) (ls' := [(6, .int r17), (5, .int (rI σ14 18 (Int32.toNatClampNeg a2))), (0, .ref 0), (1, .int a1), (2, .int a2), (3, .int a3), (4, .int a4)]) dX12_could_60 (by decide) rfl ?_
            refine J_iload 6 dX12_could_62 rfl ?_
            refine J_if_eq (tgt := 73) dX12_could_64 (by decide) (fun c20 => ?_) (fun c20 => ?_)
            · have h := (if_pos c20).symm.trans h
              refine J_pick [0] rfl ?_
              exact t_X12_could_73  _ _ _  h
            · have h := (if_neg c20).symm.trans h
              refine J_iload 0 dX12_could_67 rfl ?_
              refine J_iconst (v := (-1)) dX12_could_69 (by decide) ?_
              refine J_icmp_ne (tgt := 78) dX12_could_70 (by decide) (fun c21 => ?_) (fun c21 => ?_)
              · have h := (if_neg c21).symm.trans h
                refine J_aload_n 2 dX12_could_78 rfl ?_
                refine M_getR gf_X12_62_11 dX12_could_79 (g_0_5 _) k_0 n_0 ?_
                refine J_iload 1 dX12_could_82 rfl ?_
                refine J_iload 0 dX12_could_84 rfl ?_
                obtain ⟨r22, σ23, h24, h⟩ := bd_inv h
                refine M_callVI (d' := 1) (k := 322) (As := [.int (rI σ14 18 (Int32.toNatClampNeg a2)), .int r17]) (st := []) cv_X12_353 dX12_could_86 rfl (by decide) rfl (Nat.le_of_ble_eq_true rfl) (Nat.le_of_ble_eq_true rfl) (by decide) n_322 k_322 rfl rfl (t_X1_waysWith  h24) ?_
                refine J_pick [] rfl ?_
                exact t_X12_could_89  _ _ _  h
              · have h := (if_pos c21).symm.trans h
                refine J_pick [0] rfl ?_
                exact t_X12_could_73  _ _ _  h
          · have h := (if_pos c12).symm.trans h
            refine J_pick [] rfl ?_
            exact t_X12_could_30   _ _  h
theorem dX12_inGrid_0 : decode cX12_inGrid 0 = .ok (.iload_n 2, 1) := by decide +kernel
theorem dX12_inGrid_1 : decode cX12_inGrid 1 = .ok (.ifCond .lt 18, 3) := by decide +kernel
theorem dX12_inGrid_4 : decode cX12_inGrid 4 = .ok (.iload_n 2, 1) := by decide +kernel
theorem dX12_inGrid_5 : decode cX12_inGrid 5 = .ok (.sipush 135, 3) := by decide +kernel
theorem dX12_inGrid_8 : decode cX12_inGrid 8 = .ok (.if_icmp .ge 11, 3) := by decide +kernel
theorem dX12_inGrid_11 : decode cX12_inGrid 11 = .ok (.aload_n 0, 1) := by decide +kernel
theorem dX12_inGrid_12 : decode cX12_inGrid 12 = .ok (.iload_n 1, 1) := by decide +kernel
theorem dX12_inGrid_13 : decode cX12_inGrid 13 = .ok (.invokevirtual 228, 3) := by decide +kernel
theorem dX12_inGrid_16 : decode cX12_inGrid 16 = .ok (.ifCond .ne 5, 3) := by decide +kernel
theorem dX12_inGrid_19 : decode cX12_inGrid 19 = .ok (.iconst (-1), 1) := by decide +kernel
theorem dX12_inGrid_20 : decode cX12_inGrid 20 = .ok (.ireturn, 1) := by decide +kernel
theorem dX12_inGrid_21 : decode cX12_inGrid 21 = .ok (.aload_n 0, 1) := by decide +kernel
theorem dX12_inGrid_22 : decode cX12_inGrid 22 = .ok (.getfield 62, 3) := by decide +kernel
theorem dX12_inGrid_25 : decode cX12_inGrid 25 = .ok (.invokevirtual 291, 3) := by decide +kernel
theorem dX12_inGrid_28 : decode cX12_inGrid 28 = .ok (.aload_n 0, 1) := by decide +kernel
theorem dX12_inGrid_29 : decode cX12_inGrid 29 = .ok (.getfield 62, 3) := by decide +kernel
theorem dX12_inGrid_32 : decode cX12_inGrid 32 = .ok (.iload_n 2, 1) := by decide +kernel
theorem dX12_inGrid_33 : decode cX12_inGrid 33 = .ok (.invokevirtual 356, 3) := by decide +kernel
theorem dX12_inGrid_36 : decode cX12_inGrid 36 = .ok (.ireturn, 1) := by decide +kernel
noncomputable def f_X12_inGrid_19   (σ : jM) : Option (Int32 × jM) :=
  some ((-1), σ)
noncomputable def f_X12_inGrid (a1 : Int32) (a2 : Int32) (σ : jM) : Option (Int32 × jM) :=
  (if a2 < 0 then f_X12_inGrid_19   σ else (if 135 ≤ a2 then f_X12_inGrid_19   σ else bd (f_X12_seeGrid a1 σ) (fun r3 σ4 => (if r3 = 0 then f_X12_inGrid_19   σ4 else bd (f_X1_countWays  σ4) (fun _ σ8 => bd (f_X1_holderOf a2 σ8) (fun r10 σ11 => some (r10, σ11)))))))
set_option maxRecDepth 20000 in
set_option maxHeartbeats 4000000 in
theorem t_X12_inGrid_19   (σ : jM) (r : Int32 × jM)  (h : f_X12_inGrid_19   σ = some r) : J mi_X12_inGrid 17 0 0 (jqI r) 19 [] [] (ms σ) := by
  unfold f_X12_inGrid_19 at h
  refine J_iconst (v := (-1)) dX12_inGrid_19 (by decide) ?_
  exact J_ret (v := some (.int (-1))) rfl ⟨dX12_inGrid_20, Or.inl rfl⟩ (jqI_mk h)
set_option maxRecDepth 20000 in
set_option maxHeartbeats 4000000 in
theorem t_X12_inGrid {a1 : Int32} {a2 : Int32} {σ : jM} {r : Int32 × jM}  (h : f_X12_inGrid a1 a2 σ = some r) : J mi_X12_inGrid 17 0 0 (jqI r) 0 [(0, .ref 0), (1, .int a1), (2, .int a2)] [] (ms σ) := by
  unfold f_X12_inGrid at h
  refine J_iload_n 2 dX12_inGrid_0 rfl ?_
  refine J_if_lt (tgt := 19) dX12_inGrid_1 (by decide) (fun c1 => ?_) (fun c1 => ?_)
  · have h := (if_pos c1).symm.trans h
    refine J_pick [] rfl ?_
    exact t_X12_inGrid_19   _ _  h
  · have h := (if_neg c1).symm.trans h
    refine J_iload_n 2 dX12_inGrid_4 rfl ?_
    refine J_sipush (v := 135) dX12_inGrid_5 (by decide) ?_
    refine J_icmp_ge (tgt := 19) dX12_inGrid_8 (by decide) (fun c2 => ?_) (fun c2 => ?_)
    · have h := (if_pos c2).symm.trans h
      refine J_pick [] rfl ?_
      exact t_X12_inGrid_19   _ _  h
    · have h := (if_neg c2).symm.trans h
      refine J_aload_n 0 dX12_inGrid_11 rfl ?_
      refine J_iload_n 1 dX12_inGrid_12 rfl ?_
      obtain ⟨r3, σ4, h5, h⟩ := bd_inv h
      refine M_callVI (d' := 7) (k := 0) (As := [.int a1]) (st := []) cv_X12_228 dX12_inGrid_13 rfl (by decide) rfl (Nat.le_of_ble_eq_true rfl) (Nat.le_of_ble_eq_true rfl) (by decide) n_0 k_0 rfl rfl (t_X12_seeGrid  h5) ?_
      refine J_if_ne (tgt := 21) dX12_inGrid_16 (by decide) (fun c6 => ?_) (fun c6 => ?_)
      · have h := (if_neg c6).symm.trans h
        refine J_aload_n 0 dX12_inGrid_21 rfl ?_
        refine M_getR gf_X12_62_11 dX12_inGrid_22 (g_0_5 _) k_0 n_0 ?_
        obtain ⟨_, σ8, h9, h⟩ := bd_inv h
        refine M_callVV (d' := 16) (k := 322) (As := []) (st := []) cv_X12_291 dX12_inGrid_25 rfl (by decide) rfl (Nat.le_of_ble_eq_true rfl) (Nat.le_of_ble_eq_true rfl) (by decide) n_322 k_322 rfl rfl (t_X1_countWays  h9) ?_
        refine J_aload_n 0 dX12_inGrid_28 rfl ?_
        refine M_getR gf_X12_62_11 dX12_inGrid_29 (g_0_5 _) k_0 n_0 ?_
        refine J_iload_n 2 dX12_inGrid_32 rfl ?_
        obtain ⟨r10, σ11, h12, h⟩ := bd_inv h
        refine M_callVI (d' := 2) (k := 322) (As := [.int a2]) (st := []) cv_X12_356 dX12_inGrid_33 rfl (by decide) rfl (Nat.le_of_ble_eq_true rfl) (Nat.le_of_ble_eq_true rfl) (by decide) n_322 k_322 rfl rfl (t_X1_holderOf  h12) ?_
        exact J_ret (v := some (.int r10)) rfl ⟨dX12_inGrid_36, Or.inl rfl⟩ (jqI_mk h)
      · have h := (if_pos c6).symm.trans h
        refine J_pick [] rfl ?_
        exact t_X12_inGrid_19   _ _  h
