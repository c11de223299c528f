theorem dX13_takesName_0 : decode cX13_takesName 0 = .ok (.aload_n 0, 1) := by decide +kernel
theorem dX13_takesName_1 : decode cX13_takesName 1 = .ok (.getfield 121, 3) := by decide +kernel
theorem dX13_takesName_4 : decode cX13_takesName 4 = .ok (.iload_n 1, 1) := by decide +kernel
theorem dX13_takesName_5 : decode cX13_takesName 5 = .ok (.aload_n 0, 1) := by decide +kernel
theorem dX13_takesName_6 : decode cX13_takesName 6 = .ok (.getfield 180, 3) := by decide +kernel
theorem dX13_takesName_9 : decode cX13_takesName 9 = .ok (.iastore, 1) := by decide +kernel
theorem dX13_takesName_10 : decode cX13_takesName 10 = .ok (.iconst 0, 1) := by decide +kernel
theorem dX13_takesName_11 : decode cX13_takesName 11 = .ok (.istore_n 3, 1) := by decide +kernel
theorem dX13_takesName_12 : decode cX13_takesName 12 = .ok (.iload_n 3, 1) := by decide +kernel
theorem dX13_takesName_13 : decode cX13_takesName 13 = .ok (.aload_n 0, 1) := by decide +kernel
theorem dX13_takesName_14 : decode cX13_takesName 14 = .ok (.getfield 180, 3) := by decide +kernel
theorem dX13_takesName_17 : decode cX13_takesName 17 = .ok (.if_icmp .ge 26, 3) := by decide +kernel
theorem dX13_takesName_20 : decode cX13_takesName 20 = .ok (.aload_n 0, 1) := by decide +kernel
theorem dX13_takesName_21 : decode cX13_takesName 21 = .ok (.getfield 124, 3) := by decide +kernel
theorem dX13_takesName_24 : decode cX13_takesName 24 = .ok (.bipush 8, 2) := by decide +kernel
theorem dX13_takesName_26 : decode cX13_takesName 26 = .ok (.iload_n 1, 1) := by decide +kernel
theorem dX13_takesName_27 : decode cX13_takesName 27 = .ok (.imul, 1) := by decide +kernel
theorem dX13_takesName_28 : decode cX13_takesName 28 = .ok (.iload_n 3, 1) := by decide +kernel
theorem dX13_takesName_29 : decode cX13_takesName 29 = .ok (.iadd, 1) := by decide +kernel
theorem dX13_takesName_30 : decode cX13_takesName 30 = .ok (.aload_n 0, 1) := by decide +kernel
theorem dX13_takesName_31 : decode cX13_takesName 31 = .ok (.getfield 47, 3) := by decide +kernel
theorem dX13_takesName_34 : decode cX13_takesName 34 = .ok (.iload_n 3, 1) := by decide +kernel
theorem dX13_takesName_35 : decode cX13_takesName 35 = .ok (.baload, 1) := by decide +kernel
theorem dX13_takesName_36 : decode cX13_takesName 36 = .ok (.iastore, 1) := by decide +kernel
theorem dX13_takesName_37 : decode cX13_takesName 37 = .ok (.iinc 3 1, 3) := by decide +kernel
theorem dX13_takesName_40 : decode cX13_takesName 40 = .ok (.goto (-28), 3) := by decide +kernel
theorem dX13_takesName_43 : decode cX13_takesName 43 = .ok (.aload_n 0, 1) := by decide +kernel
theorem dX13_takesName_44 : decode cX13_takesName 44 = .ok (.getfield 127, 3) := by decide +kernel
theorem dX13_takesName_47 : decode cX13_takesName 47 = .ok (.iload_n 1, 1) := by decide +kernel
theorem dX13_takesName_48 : decode cX13_takesName 48 = .ok (.iload_n 2, 1) := by decide +kernel
theorem dX13_takesName_49 : decode cX13_takesName 49 = .ok (.iastore, 1) := by decide +kernel
theorem dX13_takesName_50 : decode cX13_takesName 50 = .ok (.aload_n 0, 1) := by decide +kernel
theorem dX13_takesName_51 : decode cX13_takesName 51 = .ok (.iconst 0, 1) := by decide +kernel
theorem dX13_takesName_52 : decode cX13_takesName 52 = .ok (.putfield 180, 3) := by decide +kernel
theorem dX13_takesName_55 : decode cX13_takesName 55 = .ok (.return_, 1) := by decide +kernel
noncomputable def s_X13_takesName_12  (rec12 : Int32 → Int32 → Int32 → jM → Option (Unit × jM)) (l1 : Int32) (l2 : Int32) (l3 : Int32) (σ : jM) : Option (Unit × jM) :=
  (if (rI σ 324 16) ≤ l3 then gd (inb l1 7) (some ((), wI (wI σ 361 (Int32.toNatClampNeg l1) l2) 324 16 0)) else gd (inb l3 300) (gd (inb ((8 * l1) + l3) 56) (rec12 l1 l2 (l3 + 1) (wI σ 360 (Int32.toNatClampNeg ((8 * l1) + l3)) (rI σ 336 (Int32.toNatClampNeg l3))))))
noncomputable def f_X13_takesName_12  (n : Nat) : Int32 → Int32 → Int32 → jM → Option (Unit × jM) := Nat.rec (motive := fun _ => Int32 → Int32 → Int32 → jM → Option (Unit × jM)) (fun _ _ _ _ => none) (fun _ q => s_X13_takesName_12  q) n
noncomputable def f_X13_takesName (a1 : Int32) (a2 : Int32) (σ : jM) : Option (Unit × jM) :=
  gd (inb a1 7) (f_X13_takesName_12  Fu a1 a2 0 (wI σ 359 (Int32.toNatClampNeg a1) (rI σ 324 16)))
set_option maxRecDepth 20000 in
set_option maxHeartbeats 4000000 in
theorem t_X13_takesName_12  : ∀ (n : Nat) (l1 : Int32) (l2 : Int32) (l3 : Int32) (σ : jM) (r : Unit × jM), f_X13_takesName_12  n l1 l2 l3 σ = some r → J mi_X13_takesName 1 0 0 (jqV r) 12 [(0, .ref 324), (1, .int l1), (2, .int l2), (3, .int l3)] [] (ms σ) := by
  intro n
  induction n with
  | zero =>
    intro l1 l2 l3 σ r  h
    have h : (none : Option (Unit × jM)) = some r := h
    cases h
  | succ n ih =>
    intro l1 l2 l3 σ r  h
    have h : s_X13_takesName_12  (f_X13_takesName_12  n) l1 l2 l3 σ = some r := h
    unfold s_X13_takesName_12 at h
    refine J_iload_n 3 dX13_takesName_12 rfl ?_
    refine J_aload_n 0 dX13_takesName_13 rfl ?_
    refine M_getI gf_X13_180_12 dX13_takesName_14 k_324 n_324 ?_
    refine J_icmp_ge (tgt := 43) dX13_takesName_17 (by decide) (fun c9 => ?_) (fun c9 => ?_)
    · have h := (if_pos c9).symm.trans h
      refine J_aload_n 0 dX13_takesName_43 rfl ?_
      refine M_getR gf_X13_127_12 dX13_takesName_44 (g_324_58 _) k_324 n_324 ?_
      refine J_iload_n 1 dX13_takesName_47 rfl ?_
      refine J_iload_n 2 dX13_takesName_48 rfl ?_
      obtain ⟨g10, h⟩ := gd_inv h
      refine M_iast dX13_takesName_49 a_361 n_361 g10 ?_
      refine J_aload_n 0 dX13_takesName_50 rfl ?_
      refine J_iconst (v := 0) dX13_takesName_51 (by decide) ?_
      refine M_putI pf_X13_180_12 dX13_takesName_52 k_324 n_324 ⟨rfl, rfl⟩ ?_
      exact J_ret (v := none) rfl ⟨dX13_takesName_55, rfl⟩ (jqV_mk h)
    · have h := (if_neg c9).symm.trans h
      refine J_aload_n 0 dX13_takesName_20 rfl ?_
      refine M_getR gf_X13_124_12 dX13_takesName_21 (g_324_57 _) k_324 n_324 ?_
      refine J_bipush (v := 8) dX13_takesName_24 (by decide) ?_
      refine J_iload_n 1 dX13_takesName_26 rfl ?_
      refine J_imul dX13_takesName_27 ?_
      refine J_iload_n 3 dX13_takesName_28 rfl ?_
      refine J_iadd dX13_takesName_29 ?_
      refine J_aload_n 0 dX13_takesName_30 rfl ?_
      refine M_getR gf_X13_47_12 dX13_takesName_31 (g_324_15 _) k_324 n_324 ?_
      refine J_iload_n 3 dX13_takesName_34 rfl ?_
      obtain ⟨g11, h⟩ := gd_inv h
      refine M_bald dX13_takesName_35 a_336 n_336 g11 ?_
      obtain ⟨g12, h⟩ := gd_inv h
      refine M_iast dX13_takesName_36 a_360 n_360 g12 ?_
      refine J_iinc (v := (l3 + 1)) (ls' := [(3, .int (l3 + 1)), (0, .ref 324), (1, .int l1), (2, .int l2)]) 3 dX13_takesName_37 rfl rfl (by decide) rfl ?_
      refine J_goto (tgt := 12) dX13_takesName_40 (by decide) ?_
      refine J_pick [1, 2, 3, 0] rfl ?_
      exact ih _ _ _ _ _  h
set_option maxRecDepth 20000 in
set_option maxHeartbeats 4000000 in
theorem t_X13_takesName {a1 : Int32} {a2 : Int32} {σ : jM} {r : Unit × jM}  (h : f_X13_takesName a1 a2 σ = some r) : J mi_X13_takesName 1 0 0 (jqV r) 0 [(0, .ref 324), (1, .int a1), (2, .int a2)] [] (ms σ) := by
  unfold f_X13_takesName at h
  refine J_aload_n 0 dX13_takesName_0 rfl ?_
  refine M_getR gf_X13_121_12 dX13_takesName_1 (g_324_56 _) k_324 n_324 ?_
  refine J_iload_n 1 dX13_takesName_4 rfl ?_
  refine J_aload_n 0 dX13_takesName_5 rfl ?_
  refine M_getI gf_X13_180_12 dX13_takesName_6 k_324 n_324 ?_
  obtain ⟨g13, h⟩ := gd_inv h
  refine M_iast dX13_takesName_9 a_359 n_359 g13 ?_
  refine J_iconst (v := 0) dX13_takesName_10 (by decide) ?_
  refine J_istore_n (i := 3) (ls' := [(3, .int 0), (0, .ref 324), (1, .int a1), (2, .int a2)]) dX13_takesName_11 rfl (by decide) rfl ?_
  refine J_pick [1, 2, 3, 0] rfl ?_
  exact t_X13_takesName_12  _ _ _ _ _ _  h
theorem dX13_name_0 : decode cX13_name 0 = .ok (.aload_n 0, 1) := by decide +kernel
theorem dX13_name_1 : decode cX13_name 1 = .ok (.iconst 0, 1) := by decide +kernel
theorem dX13_name_2 : decode cX13_name 2 = .ok (.putfield 1, 3) := by decide +kernel
theorem dX13_name_5 : decode cX13_name 5 = .ok (.iload_n 1, 1) := by decide +kernel
theorem dX13_name_6 : decode cX13_name 6 = .ok (.iconst 0, 1) := by decide +kernel
theorem dX13_name_7 : decode cX13_name 7 = .ok (.aload_n 0, 1) := by decide +kernel
theorem dX13_name_8 : decode cX13_name 8 = .ok (.getfield 243, 3) := by decide +kernel
theorem dX13_name_11 : decode cX13_name 11 = .ok (.iconst 1, 1) := by decide +kernel
theorem dX13_name_12 : decode cX13_name 12 = .ok (.isub, 1) := by decide +kernel
theorem dX13_name_13 : decode cX13_name 13 = .ok (.invokestatic 169, 3) := by decide +kernel
theorem dX13_name_16 : decode cX13_name 16 = .ok (.ifCond .eq 19, 3) := by decide +kernel
theorem dX13_name_19 : decode cX13_name 19 = .ok (.aload_n 0, 1) := by decide +kernel
theorem dX13_name_20 : decode cX13_name 20 = .ok (.invokevirtual 380, 3) := by decide +kernel
theorem dX13_name_23 : decode cX13_name 23 = .ok (.ifCond .eq 12, 3) := by decide +kernel
theorem dX13_name_26 : decode cX13_name 26 = .ok (.aload_n 0, 1) := by decide +kernel
theorem dX13_name_27 : decode cX13_name 27 = .ok (.getfield 383, 3) := by decide +kernel
theorem dX13_name_30 : decode cX13_name 30 = .ok (.bipush 6, 2) := by decide +kernel
theorem dX13_name_32 : decode cX13_name 32 = .ok (.if_icmp .ne 5, 3) := by decide +kernel
theorem dX13_name_35 : decode cX13_name 35 = .ok (.iconst (-1), 1) := by decide +kernel
theorem dX13_name_36 : decode cX13_name 36 = .ok (.ireturn, 1) := by decide +kernel
theorem dX13_name_37 : decode cX13_name 37 = .ok (.aload_n 0, 1) := by decide +kernel
theorem dX13_name_38 : decode cX13_name 38 = .ok (.aload_n 0, 1) := by decide +kernel
theorem dX13_name_39 : decode cX13_name 39 = .ok (.getfield 383, 3) := by decide +kernel
theorem dX13_name_42 : decode cX13_name 42 = .ok (.iload_n 1, 1) := by decide +kernel
theorem dX13_name_43 : decode cX13_name 43 = .ok (.invokevirtual 386, 3) := by decide +kernel
theorem dX13_name_46 : decode cX13_name 46 = .ok (.aload_n 0, 1) := by decide +kernel
theorem dX13_name_47 : decode cX13_name 47 = .ok (.getfield 130, 3) := by decide +kernel
theorem dX13_name_50 : decode cX13_name 50 = .ok (.aload_n 0, 1) := by decide +kernel
theorem dX13_name_51 : decode cX13_name 51 = .ok (.getfield 383, 3) := by decide +kernel
theorem dX13_name_54 : decode cX13_name 54 = .ok (.aload_n 0, 1) := by decide +kernel
theorem dX13_name_55 : decode cX13_name 55 = .ok (.getfield 173, 3) := by decide +kernel
theorem dX13_name_58 : decode cX13_name 58 = .ok (.iastore, 1) := by decide +kernel
theorem dX13_name_59 : decode cX13_name 59 = .ok (.aload_n 0, 1) := by decide +kernel
theorem dX13_name_60 : decode cX13_name 60 = .ok (.getfield 133, 3) := by decide +kernel
theorem dX13_name_63 : decode cX13_name 63 = .ok (.aload_n 0, 1) := by decide +kernel
theorem dX13_name_64 : decode cX13_name 64 = .ok (.getfield 383, 3) := by decide +kernel
theorem dX13_name_67 : decode cX13_name 67 = .ok (.ldc 255, 2) := by decide +kernel
theorem dX13_name_69 : decode cX13_name 69 = .ok (.iastore, 1) := by decide +kernel
theorem dX13_name_70 : decode cX13_name 70 = .ok (.aload_n 0, 1) := by decide +kernel
theorem dX13_name_71 : decode cX13_name 71 = .ok (.dup, 1) := by decide +kernel
theorem dX13_name_72 : decode cX13_name 72 = .ok (.getfield 383, 3) := by decide +kernel
theorem dX13_name_75 : decode cX13_name 75 = .ok (.iconst 1, 1) := by decide +kernel
theorem dX13_name_76 : decode cX13_name 76 = .ok (.iadd, 1) := by decide +kernel
theorem dX13_name_77 : decode cX13_name 77 = .ok (.putfield 383, 3) := by decide +kernel
theorem dX13_name_80 : decode cX13_name 80 = .ok (.aload_n 0, 1) := by decide +kernel
theorem dX13_name_81 : decode cX13_name 81 = .ok (.getfield 383, 3) := by decide +kernel
theorem dX13_name_84 : decode cX13_name 84 = .ok (.iconst 1, 1) := by decide +kernel
theorem dX13_name_85 : decode cX13_name 85 = .ok (.isub, 1) := by decide +kernel
theorem dX13_name_86 : decode cX13_name 86 = .ok (.ireturn, 1) := by decide +kernel
noncomputable def f_X13_name_35   (σ : jM) : Option (Int32 × jM) :=
  some ((-1), σ)
noncomputable def f_X13_name (a1 : Int32) (σ : jM) : Option (Int32 × jM) :=
  bd (f_X13_within a1 0 ((rI (wI σ 324 0 0) 324 2) - 1) (wI σ 324 0 0)) (fun r3 σ4 => (if r3 = 0 then f_X13_name_35   σ4 else bd (f_X13_isName  σ4) (fun r7 σ8 => (if r7 = 0 then f_X13_name_35   σ8 else (if (rI σ8 324 55) = 6 then f_X13_name_35   σ8 else bd (f_X13_takesName (rI σ8 324 55) a1 σ8) (fun _ σ13 => gd (inb (rI σ13 324 55) 6) (gd (inb (rI (wI σ13 362 (Int32.toNatClampNeg (rI σ13 324 55)) (rI σ13 324 1)) 324 55) 6) (some (((rI (wI (wI (wI σ13 362 (Int32.toNatClampNeg (rI σ13 324 55)) (rI σ13 324 1)) 363 (Int32.toNatClampNeg (rI (wI σ13 362 (Int32.toNatClampNeg (rI σ13 324 55)) (rI σ13 324 1)) 324 55)) 1000000) 324 55 ((rI (wI (wI σ13 362 (Int32.toNatClampNeg (rI σ13 324 55)) (rI σ13 324 1)) 363 (Int32.toNatClampNeg (rI (wI σ13 362 (Int32.toNatClampNeg (rI σ13 324 55)) (rI σ13 324 1)) 324 55)) 1000000) 324 55) + 1)) 324 55) - 1), wI (wI (wI σ13 362 (Int32.toNatClampNeg (rI σ13 324 55)) (rI σ13 324 1)) 363 (Int32.toNatClampNeg (rI (wI σ13 362 (Int32.toNatClampNeg (rI σ13 324 55)) (rI σ13 324 1)) 324 55)) 1000000) 324 55 ((rI (wI (wI σ13 362 (Int32.toNatClampNeg (rI σ13 324 55)) (rI σ13 324 1)) 363 (Int32.toNatClampNeg (rI (wI σ13 362 (Int32.toNatClampNeg (rI σ13 324 55)) (rI σ13 324 1)) 324 55)) 1000000) 324 55) + 1))))))))))
set_option maxRecDepth 20000 in
set_option maxHeartbeats 4000000 in
theorem t_X13_name_35   (σ : jM) (r : Int32 × jM)  (h : f_X13_name_35   σ = some r) : J mi_X13_name 3 0 0 (jqI r) 35 [] [] (ms σ) := by
  unfold f_X13_name_35 at h
  refine J_iconst (v := (-1)) dX13_name_35 (by decide) ?_
  exact J_ret (v := some (.int (-1))) rfl ⟨dX13_name_36, Or.inl rfl⟩ (jqI_mk h)
set_option maxRecDepth 20000 in
set_option maxHeartbeats 4000000 in
theorem t_X13_name {a1 : Int32} {σ : jM} {r : Int32 × jM}  (h : f_X13_name a1 σ = some r) : J mi_X13_name 3 0 0 (jqI r) 0 [(0, .ref 324), (1, .int a1)] [] (ms σ) := by
  unfold f_X13_name at h
  refine J_aload_n 0 dX13_name_0 rfl ?_
  refine J_iconst (v := 0) dX13_name_1 (by decide) ?_
  refine M_putI pf_X13_1_12 dX13_name_2 k_324 n_324 ⟨rfl, rfl⟩ ?_
  refine J_iload_n 1 dX13_name_5 rfl ?_
  refine J_iconst (v := 0) dX13_name_6 (by decide) ?_
  refine J_aload_n 0 dX13_name_7 rfl ?_
  refine M_getI gf_X13_243_12 dX13_name_8 k_324 n_324 ?_
  refine J_iconst (v := 1) dX13_name_11 (by decide) ?_
  refine J_isub dX13_name_12 ?_
  obtain ⟨r3, σ4, h5, h⟩ := bd_inv h
  refine M_callSI (d' := 1) (As := [.int a1, .int 0, .int ((rI (wI σ 324 0 0) 324 2) - 1)]) (st := []) cs_X13_169 dX13_name_13 rfl (Nat.le_of_ble_eq_true rfl) (Nat.le_of_ble_eq_true rfl) (by decide) rfl rfl (t_X13_within  h5) ?_
  refine J_if_eq (tgt := 35) dX13_name_16 (by decide) (fun c6 => ?_) (fun c6 => ?_)
  · have h := (if_pos c6).symm.trans h
    refine J_pick [] rfl ?_
    exact t_X13_name_35   _ _  h
  · have h := (if_neg c6).symm.trans h
    refine J_aload_n 0 dX13_name_19 rfl ?_
    obtain ⟨r7, σ8, h9, h⟩ := bd_inv h
    refine M_callVI (d' := 2) (k := 324) (As := []) (st := []) cv_X13_380 dX13_name_20 rfl (by decide) rfl (Nat.le_of_ble_eq_true rfl) (Nat.le_of_ble_eq_true rfl) (by decide) n_324 k_324 rfl rfl (t_X13_isName  h9) ?_
    refine J_if_eq (tgt := 35) dX13_name_23 (by decide) (fun c10 => ?_) (fun c10 => ?_)
    · have h := (if_pos c10).symm.trans h
      refine J_pick [] rfl ?_
      exact t_X13_name_35   _ _  h
    · have h := (if_neg c10).symm.trans h
      refine J_aload_n 0 dX13_name_26 rfl ?_
      refine M_getI gf_X13_383_12 dX13_name_27 k_324 n_324 ?_
      refine J_bipush (v := 6) dX13_name_30 (by decide) ?_
      refine J_icmp_ne (tgt := 37) dX13_name_32 (by decide) (fun c11 => ?_) (fun c11 => ?_)
      · have h := (if_neg c11).symm.trans h
        refine J_aload_n 0 dX13_name_37 rfl ?_
        refine J_aload_n 0 dX13_name_38 rfl ?_
        refine M_getI gf_X13_383_12 dX13_name_39 k_324 n_324 ?_
        refine J_iload_n 1 dX13_name_42 rfl ?_
        obtain ⟨_, σ13, h14, h⟩ := bd_inv h
        refine M_callVV (d' := 1) (k := 324) (As := [.int (rI σ8 324 55), .int a1]) (st := []) cv_X13_386 dX13_name_43 rfl (by decide) rfl (Nat.le_of_ble_eq_true rfl) (Nat.le_of_ble_eq_true rfl) (by decide) n_324 k_324 rfl rfl (t_X13_takesName  h14) ?_
        refine J_aload_n 0 dX13_name_46 rfl ?_
        refine M_getR gf_X13_130_12 dX13_name_47 (g_324_59 _) k_324 n_324 ?_
        refine J_aload_n 0 dX13_name_50 rfl ?_
        refine M_getI gf_X13_383_12 dX13_name_51 k_324 n_324 ?_
        refine J_aload_n 0 dX13_name_54 rfl ?_
        refine M_getI gf_X13_173_12 dX13_name_55 k_324 n_324 ?_
        obtain ⟨g15, h⟩ := gd_inv h
        refine M_iast dX13_name_58 a_362 n_362 g15 ?_
        refine J_aload_n 0 dX13_name_59 rfl ?_
        refine M_getR gf_X13_133_12 dX13_name_60 (g_324_60 _) k_324 n_324 ?_
        refine J_aload_n 0 dX13_name_63 rfl ?_
        refine M_getI gf_X13_383_12 dX13_name_64 k_324 n_324 ?_
        refine J_ldc dX13_name_67 ct_X13_255 ?_
        obtain ⟨g16, h⟩ := gd_inv h
        refine M_iast dX13_name_69 a_363 n_363 g16 ?_
        refine J_aload_n 0 dX13_name_70 rfl ?_
        refine J_dup dX13_name_71 rfl ?_
        refine M_getI gf_X13_383_12 dX13_name_72 k_324 n_324 ?_
        refine J_iconst (v := 1) dX13_name_75 (by decide) ?_
        refine J_iadd dX13_name_76 ?_
        refine M_putI pf_X13_383_12 dX13_name_77 k_324 n_324 ⟨rfl, rfl⟩ ?_
        refine J_aload_n 0 dX13_name_80 rfl ?_
        refine M_getI gf_X13_383_12 dX13_name_81 k_324 n_324 ?_
        refine J_iconst (v := 1) dX13_name_84 (by decide) ?_
        refine J_isub dX13_name_85 ?_
        exact J_ret (v := some (.int ((rI (wI (wI (wI σ13 362 (Int32.toNatClampNeg (rI σ13 324 55)) (rI σ13 324 1)) 363 (Int32.toNatClampNeg (rI (wI σ13 362 (Int32.toNatClampNeg (rI σ13 324 55)) (rI σ13 324 1)) 324 55)) 1000000) 324 55 ((rI (wI (wI σ13 362 (Int32.toNatClampNeg (rI σ13 324 55)) (rI σ13 324 1)) 363 (Int32.toNatClampNeg (rI (wI σ13 362 (Int32.toNatClampNeg (rI σ13 324 55)) (rI σ13 324 1)) 324 55)) 1000000) 324 55) + 1)) 324 55) - 1))) rfl ⟨dX13_name_86, Or.inl rfl⟩ (jqI_mk h)
      · have h := (if_pos c11).symm.trans h
        refine J_pick [] rfl ?_
        exact t_X13_name_35   _ _  h
theorem dX13_away_0 : decode cX13_away 0 = .ok (.aload_n 0, 1) := by decide +kernel
theorem dX13_away_1 : decode cX13_away 1 = .ok (.iconst 0, 1) := by decide +kernel
theorem dX13_away_2 : decode cX13_away 2 = .ok (.putfield 1, 3) := by decide +kernel
theorem dX13_away_5 : decode cX13_away 5 = .ok (.iload_n 1, 1) := by decide +kernel
theorem dX13_away_6 : decode cX13_away 6 = .ok (.ifCond .ne 10, 3) := by decide +kernel
theorem dX13_away_9 : decode cX13_away 9 = .ok (.aload_n 0, 1) := by decide +kernel
theorem dX13_away_10 : decode cX13_away 10 = .ok (.getfield 243, 3) := by decide +kernel
theorem dX13_away_13 : decode cX13_away 13 = .ok (.goto 28, 3) := by decide +kernel
theorem dX13_away_16 : decode cX13_away 16 = .ok (.iload_n 1, 1) := by decide +kernel
theorem dX13_away_17 : decode cX13_away 17 = .ok (.iconst 1, 1) := by decide +kernel
theorem dX13_away_18 : decode cX13_away 18 = .ok (.if_icmp .ne 10, 3) := by decide +kernel
theorem dX13_away_21 : decode cX13_away 21 = .ok (.aload_n 0, 1) := by decide +kernel
theorem dX13_away_22 : decode cX13_away 22 = .ok (.getfield 304, 3) := by decide +kernel
theorem dX13_away_25 : decode cX13_away 25 = .ok (.goto 16, 3) := by decide +kernel
theorem dX13_away_28 : decode cX13_away 28 = .ok (.iload_n 1, 1) := by decide +kernel
theorem dX13_away_29 : decode cX13_away 29 = .ok (.iconst 2, 1) := by decide +kernel
theorem dX13_away_30 : decode cX13_away 30 = .ok (.if_icmp .ne 10, 3) := by decide +kernel
theorem dX13_away_33 : decode cX13_away 33 = .ok (.aload_n 0, 1) := by decide +kernel
theorem dX13_away_34 : decode cX13_away 34 = .ok (.getfield 383, 3) := by decide +kernel
theorem dX13_away_37 : decode cX13_away 37 = .ok (.goto 4, 3) := by decide +kernel
theorem dX13_away_40 : decode cX13_away 40 = .ok (.iconst 0, 1) := by decide +kernel
theorem dX13_away_41 : decode cX13_away 41 = .ok (.istore_n 3, 1) := by decide +kernel
theorem dX13_away_42 : decode cX13_away 42 = .ok (.iload_n 2, 1) := by decide +kernel
theorem dX13_away_43 : decode cX13_away 43 = .ok (.iconst 0, 1) := by decide +kernel
theorem dX13_away_44 : decode cX13_away 44 = .ok (.iload_n 3, 1) := by decide +kernel
theorem dX13_away_45 : decode cX13_away 45 = .ok (.iconst 1, 1) := by decide +kernel
theorem dX13_away_46 : decode cX13_away 46 = .ok (.isub, 1) := by decide +kernel
theorem dX13_away_47 : decode cX13_away 47 = .ok (.invokestatic 169, 3) := by decide +kernel
theorem dX13_away_50 : decode cX13_away 50 = .ok (.ifCond .ne 5, 3) := by decide +kernel
theorem dX13_away_53 : decode cX13_away 53 = .ok (.iconst 0, 1) := by decide +kernel
theorem dX13_away_54 : decode cX13_away 54 = .ok (.ireturn, 1) := by decide +kernel
theorem dX13_away_55 : decode cX13_away 55 = .ok (.iload_n 1, 1) := by decide +kernel
theorem dX13_away_56 : decode cX13_away 56 = .ok (.ifCond .ne 10, 3) := by decide +kernel
theorem dX13_away_59 : decode cX13_away 59 = .ok (.aload_n 0, 1) := by decide +kernel
theorem dX13_away_60 : decode cX13_away 60 = .ok (.getfield 17, 3) := by decide +kernel
theorem dX13_away_63 : decode cX13_away 63 = .ok (.goto 19, 3) := by decide +kernel
theorem dX13_away_66 : decode cX13_away 66 = .ok (.iload_n 1, 1) := by decide +kernel
theorem dX13_away_67 : decode cX13_away 67 = .ok (.iconst 1, 1) := by decide +kernel
theorem dX13_away_68 : decode cX13_away 68 = .ok (.if_icmp .ne 10, 3) := by decide +kernel
theorem dX13_away_71 : decode cX13_away 71 = .ok (.aload_n 0, 1) := by decide +kernel
theorem dX13_away_72 : decode cX13_away 72 = .ok (.getfield 91, 3) := by decide +kernel
theorem dX13_away_75 : decode cX13_away 75 = .ok (.goto 7, 3) := by decide +kernel
theorem dX13_away_78 : decode cX13_away 78 = .ok (.aload_n 0, 1) := by decide +kernel
theorem dX13_away_79 : decode cX13_away 79 = .ok (.getfield 133, 3) := by decide +kernel
theorem dX13_away_82 : decode cX13_away 82 = .ok (.astore 4, 2) := by decide +kernel
theorem dX13_away_84 : decode cX13_away 84 = .ok (.aload 4, 2) := by decide +kernel
theorem dX13_away_86 : decode cX13_away 86 = .ok (.iload_n 2, 1) := by decide +kernel
theorem dX13_away_87 : decode cX13_away 87 = .ok (.iaload, 1) := by decide +kernel
theorem dX13_away_88 : decode cX13_away 88 = .ok (.ldc 255, 2) := by decide +kernel
theorem dX13_away_90 : decode cX13_away 90 = .ok (.if_icmp .eq 5, 3) := by decide +kernel
theorem dX13_away_93 : decode cX13_away 93 = .ok (.iconst 0, 1) := by decide +kernel
theorem dX13_away_94 : decode cX13_away 94 = .ok (.ireturn, 1) := by decide +kernel
theorem dX13_away_95 : decode cX13_away 95 = .ok (.aload 4, 2) := by decide +kernel
theorem dX13_away_97 : decode cX13_away 97 = .ok (.iload_n 2, 1) := by decide +kernel
theorem dX13_away_98 : decode cX13_away 98 = .ok (.aload_n 0, 1) := by decide +kernel
theorem dX13_away_99 : decode cX13_away 99 = .ok (.getfield 173, 3) := by decide +kernel
theorem dX13_away_102 : decode cX13_away 102 = .ok (.iastore, 1) := by decide +kernel
theorem dX13_away_103 : decode cX13_away 103 = .ok (.iconst 1, 1) := by decide +kernel
theorem dX13_away_104 : decode cX13_away 104 = .ok (.ireturn, 1) := by decide +kernel
noncomputable def f_X13_away_82  (l2 : Int32) (s0 : Nat) (σ : jM) : Option (Int32 × jM) :=
  gd (inb l2 (shf s0).2) ((if (rI σ s0 (Int32.toNatClampNeg l2)) = 1000000 then gd (inb l2 (shf s0).2) (some (1, wI σ s0 (Int32.toNatClampNeg l2) (rI σ 324 1))) else some (0, σ)))
noncomputable def f_X13_away_41  (l1 : Int32) (l2 : Int32) (s0 : Int32) (σ : jM) : Option (Int32 × jM) :=
  bd (f_X13_within l2 0 (s0 - 1) σ) (fun r11 σ12 => (if r11 = 0 then some (0, σ12) else (if l1 = 0 then f_X13_away_82  l2 326 σ12 else (if l1 = 1 then f_X13_away_82  l2 349 σ12 else f_X13_away_82  l2 363 σ12))))
noncomputable def f_X13_away (a1 : Int32) (a2 : Int32) (σ : jM) : Option (Int32 × jM) :=
  (if a1 = 0 then f_X13_away_41  a1 a2 (rI (wI σ 324 0 0) 324 2) (wI σ 324 0 0) else (if a1 = 1 then f_X13_away_41  a1 a2 (rI (wI σ 324 0 0) 324 32) (wI σ 324 0 0) else (if a1 = 2 then f_X13_away_41  a1 a2 (rI (wI σ 324 0 0) 324 55) (wI σ 324 0 0) else f_X13_away_41  a1 a2 0 (wI σ 324 0 0))))
set_option maxRecDepth 20000 in
set_option maxHeartbeats 4000000 in
theorem t_X13_away_82  (l2 : Int32) (s0 : Nat) (σ : jM) (r : Int32 × jM) (hs0 : (shf s0).1 = 14 ∧ s0 < 376) (h : f_X13_away_82  l2 s0 σ = some r) : J mi_X13_away 2 0 0 (jqI r) 82 [(0, .ref 324), (2, .int l2)] [.ref s0] (ms σ) := by
  unfold f_X13_away_82 at h
  refine J_astore (i := 4) (ls' := [(4, .ref s0), (0, .ref 324), (2, .int l2)]) dX13_away_82 (by decide) rfl ?_
  refine J_aload 0 dX13_away_84 rfl ?_
  refine J_iload_n 2 dX13_away_86 rfl ?_
  obtain ⟨g8, h⟩ := gd_inv h
  refine M_iald dX13_away_87 (shf_fst hs0.1) hs0.2 g8 ?_
  refine J_ldc dX13_away_88 ct_X13_255 ?_
  refine J_icmp_eq (tgt := 95) dX13_away_90 (by decide) (fun c9 => ?_) (fun c9 => ?_)
  · have h := (if_pos c9).symm.trans h
    refine J_aload 0 dX13_away_95 rfl ?_
    refine J_iload_n 2 dX13_away_97 rfl ?_
    refine J_aload_n 1 dX13_away_98 rfl ?_
    refine M_getI gf_X13_173_12 dX13_away_99 k_324 n_324 ?_
    obtain ⟨g10, h⟩ := gd_inv h
    refine M_iast dX13_away_102 (shf_fst hs0.1) hs0.2 g10 ?_
    refine J_iconst (v := 1) dX13_away_103 (by decide) ?_
    exact J_ret (v := some (.int 1)) rfl ⟨dX13_away_104, Or.inr (Or.inl ⟨rfl, Or.inr rfl⟩)⟩ (jqI_mk h)
  · have h := (if_neg c9).symm.trans h
    refine J_iconst (v := 0) dX13_away_93 (by decide) ?_
    exact J_ret (v := some (.int 0)) rfl ⟨dX13_away_94, Or.inr (Or.inl ⟨rfl, Or.inl rfl⟩)⟩ (jqI_mk h)
set_option maxRecDepth 20000 in
set_option maxHeartbeats 4000000 in
theorem t_X13_away_41  (l1 : Int32) (l2 : Int32) (s0 : Int32) (σ : jM) (r : Int32 × jM)  (h : f_X13_away_41  l1 l2 s0 σ = some r) : J mi_X13_away 2 0 0 (jqI r) 41 [(0, .ref 324), (1, .int l1), (2, .int l2)] [.int s0] (ms σ) := by
  unfold f_X13_away_41 at h
  refine J_istore_n (i := 3) (ls' := [(3, .int s0), (0, .ref 324), (1, .int l1), (2, .int l2)]) dX13_away_41 rfl (by decide) rfl ?_
  refine J_iload_n 3 dX13_away_42 rfl ?_
  refine J_iconst (v := 0) dX13_away_43 (by decide) ?_
  refine J_iload_n 0 dX13_away_44 rfl ?_
  refine J_iconst (v := 1) dX13_away_45 (by decide) ?_
  refine J_isub dX13_away_46 ?_
  obtain ⟨r17, σ18, h19, h⟩ := bd_inv h
  refine M_callSI (d' := 1) (As := [.int l2, .int 0, .int (s0 - 1)]) (st := []) cs_X13_169 dX13_away_47 rfl (Nat.le_of_ble_eq_true rfl) (Nat.le_of_ble_eq_true rfl) (by decide) rfl rfl (t_X13_within  h19) ?_
  refine J_if_ne (tgt := 55) dX13_away_50 (by decide) (fun c20 => ?_) (fun c20 => ?_)
  · have h := (if_neg c20).symm.trans h
    refine J_iload_n 2 dX13_away_55 rfl ?_
    refine J_if_ne (tgt := 66) dX13_away_56 (by decide) (fun c21 => ?_) (fun c21 => ?_)
    · have h := (if_neg c21).symm.trans h
      refine J_iload_n 2 dX13_away_66 rfl ?_
      refine J_iconst (v := 1) dX13_away_67 (by decide) ?_
      refine J_icmp_ne (tgt := 78) dX13_away_68 (by decide) (fun c22 => ?_) (fun c22 => ?_)
      · have h := (if_neg c22).symm.trans h
        refine J_aload_n 1 dX13_away_78 rfl ?_
        refine M_getR gf_X13_133_12 dX13_away_79 (g_324_60 _) k_324 n_324 ?_
        refine J_pick [1, 3] rfl ?_
        exact t_X13_away_82  _ _ _ _ ⟨congrArg Prod.fst a_363, n_363⟩ h
      · have h := (if_pos c22).symm.trans h
        refine J_aload_n 1 dX13_away_71 rfl ?_
        refine M_getR gf_X13_91_12 dX13_away_72 (g_324_38 _) k_324 n_324 ?_
        refine J_goto (tgt := 82) dX13_away_75 (by decide) ?_
        refine J_pick [1, 3] rfl ?_
        exact t_X13_away_82  _ _ _ _ ⟨congrArg Prod.fst a_349, n_349⟩ h
    · have h := (if_pos c21).symm.trans h
      refine J_aload_n 1 dX13_away_59 rfl ?_
      refine M_getR gf_X13_17_12 dX13_away_60 (g_324_4 _) k_324 n_324 ?_
      refine J_goto (tgt := 82) dX13_away_63 (by decide) ?_
      refine J_pick [1, 3] rfl ?_
      exact t_X13_away_82  _ _ _ _ ⟨congrArg Prod.fst a_326, n_326⟩ h
  · have h := (if_pos c20).symm.trans h
    refine J_iconst (v := 0) dX13_away_53 (by decide) ?_
    exact J_ret (v := some (.int 0)) rfl ⟨dX13_away_54, Or.inr (Or.inl ⟨rfl, Or.inl rfl⟩)⟩ (jqI_mk h)
set_option maxRecDepth 20000 in
set_option maxHeartbeats 4000000 in
theorem t_X13_away {a1 : Int32} {a2 : Int32} {σ : jM} {r : Int32 × jM}  (h : f_X13_away a1 a2 σ = some r) : J mi_X13_away 2 0 0 (jqI r) 0 [(0, .ref 324), (1, .int a1), (2, .int a2)] [] (ms σ) := by
  unfold f_X13_away at h
  refine J_aload_n 0 dX13_away_0 rfl ?_
  refine J_iconst (v := 0) dX13_away_1 (by decide) ?_
  refine M_putI pf_X13_1_12 dX13_away_2 k_324 n_324 ⟨rfl, rfl⟩ ?_
  refine J_iload_n 1 dX13_away_5 rfl ?_
  refine J_if_ne (tgt := 16) dX13_away_6 (by decide) (fun c23 => ?_) (fun c23 => ?_)
  · have h := (if_neg c23).symm.trans h
    refine J_iload_n 1 dX13_away_16 rfl ?_
    refine J_iconst (v := 1) dX13_away_17 (by decide) ?_
    refine J_icmp_ne (tgt := 28) dX13_away_18 (by decide) (fun c24 => ?_) (fun c24 => ?_)
    · have h := (if_neg c24).symm.trans h
      refine J_iload_n 1 dX13_away_28 rfl ?_
      refine J_iconst (v := 2) dX13_away_29 (by decide) ?_
      refine J_icmp_ne (tgt := 40) dX13_away_30 (by decide) (fun c25 => ?_) (fun c25 => ?_)
      · have h := (if_neg c25).symm.trans h
        refine J_iconst (v := 0) dX13_away_40 (by decide) ?_
        exact t_X13_away_41  _ _ _ _ _  h
      · have h := (if_pos c25).symm.trans h
        refine J_aload_n 0 dX13_away_33 rfl ?_
        refine M_getI gf_X13_383_12 dX13_away_34 k_324 n_324 ?_
        refine J_goto (tgt := 41) dX13_away_37 (by decide) ?_
        exact t_X13_away_41  _ _ _ _ _  h
    · have h := (if_pos c24).symm.trans h
      refine J_aload_n 0 dX13_away_21 rfl ?_
      refine M_getI gf_X13_304_12 dX13_away_22 k_324 n_324 ?_
      refine J_goto (tgt := 41) dX13_away_25 (by decide) ?_
      exact t_X13_away_41  _ _ _ _ _  h
  · have h := (if_pos c23).symm.trans h
    refine J_aload_n 0 dX13_away_9 rfl ?_
    refine M_getI gf_X13_243_12 dX13_away_10 k_324 n_324 ?_
    refine J_goto (tgt := 41) dX13_away_13 (by decide) ?_
    exact t_X13_away_41  _ _ _ _ _  h
theorem dX13_writes_0 : decode cX13_writes 0 = .ok (.iload_n 2, 1) := by decide +kernel
theorem dX13_writes_1 : decode cX13_writes 1 = .ok (.istore_n 3, 1) := by decide +kernel
theorem dX13_writes_2 : decode cX13_writes 2 = .ok (.iconst 0, 1) := by decide +kernel
theorem dX13_writes_3 : decode cX13_writes 3 = .ok (.istore 4, 2) := by decide +kernel
theorem dX13_writes_5 : decode cX13_writes 5 = .ok (.iload_n 1, 1) := by decide +kernel
theorem dX13_writes_6 : decode cX13_writes 6 = .ok (.iconst (-1), 1) := by decide +kernel
theorem dX13_writes_7 : decode cX13_writes 7 = .ok (.if_icmp .eq 65, 3) := by decide +kernel
theorem dX13_writes_10 : decode cX13_writes 10 = .ok (.iload 4, 2) := by decide +kernel
theorem dX13_writes_12 : decode cX13_writes 12 = .ok (.aload_n 0, 1) := by decide +kernel
theorem dX13_writes_13 : decode cX13_writes 13 = .ok (.getfield 32, 3) := by decide +kernel
theorem dX13_writes_16 : decode cX13_writes 16 = .ok (.iload_n 1, 1) := by decide +kernel
theorem dX13_writes_17 : decode cX13_writes 17 = .ok (.iaload, 1) := by decide +kernel
theorem dX13_writes_18 : decode cX13_writes 18 = .ok (.if_icmp .ge 54, 3) := by decide +kernel
theorem dX13_writes_21 : decode cX13_writes 21 = .ok (.aload_n 0, 1) := by decide +kernel
theorem dX13_writes_22 : decode cX13_writes 22 = .ok (.getfield 35, 3) := by decide +kernel
theorem dX13_writes_25 : decode cX13_writes 25 = .ok (.bipush 12, 2) := by decide +kernel
theorem dX13_writes_27 : decode cX13_writes 27 = .ok (.iload_n 1, 1) := by decide +kernel
theorem dX13_writes_28 : decode cX13_writes 28 = .ok (.imul, 1) := by decide +kernel
theorem dX13_writes_29 : decode cX13_writes 29 = .ok (.iload 4, 2) := by decide +kernel
theorem dX13_writes_31 : decode cX13_writes 31 = .ok (.iadd, 1) := by decide +kernel
theorem dX13_writes_32 : decode cX13_writes 32 = .ok (.iaload, 1) := by decide +kernel
theorem dX13_writes_33 : decode cX13_writes 33 = .ok (.iconst 2, 1) := by decide +kernel
theorem dX13_writes_34 : decode cX13_writes 34 = .ok (.if_icmp .ne 32, 3) := by decide +kernel
theorem dX13_writes_37 : decode cX13_writes 37 = .ok (.aload_n 0, 1) := by decide +kernel
theorem dX13_writes_38 : decode cX13_writes 38 = .ok (.getfield 38, 3) := by decide +kernel
theorem dX13_writes_41 : decode cX13_writes 41 = .ok (.bipush 12, 2) := by decide +kernel
theorem dX13_writes_43 : decode cX13_writes 43 = .ok (.iload_n 1, 1) := by decide +kernel
theorem dX13_writes_44 : decode cX13_writes 44 = .ok (.imul, 1) := by decide +kernel
theorem dX13_writes_45 : decode cX13_writes 45 = .ok (.iload 4, 2) := by decide +kernel
theorem dX13_writes_47 : decode cX13_writes 47 = .ok (.iadd, 1) := by decide +kernel
theorem dX13_writes_48 : decode cX13_writes 48 = .ok (.iaload, 1) := by decide +kernel
theorem dX13_writes_49 : decode cX13_writes 49 = .ok (.iload_n 2, 1) := by decide +kernel
theorem dX13_writes_50 : decode cX13_writes 50 = .ok (.if_icmp .ne 16, 3) := by decide +kernel
theorem dX13_writes_53 : decode cX13_writes 53 = .ok (.aload_n 0, 1) := by decide +kernel
theorem dX13_writes_54 : decode cX13_writes 54 = .ok (.getfield 41, 3) := by decide +kernel
theorem dX13_writes_57 : decode cX13_writes 57 = .ok (.bipush 12, 2) := by decide +kernel
theorem dX13_writes_59 : decode cX13_writes 59 = .ok (.iload_n 1, 1) := by decide +kernel
theorem dX13_writes_60 : decode cX13_writes 60 = .ok (.imul, 1) := by decide +kernel
theorem dX13_writes_61 : decode cX13_writes 61 = .ok (.iload 4, 2) := by decide +kernel
theorem dX13_writes_63 : decode cX13_writes 63 = .ok (.iadd, 1) := by decide +kernel
theorem dX13_writes_64 : decode cX13_writes 64 = .ok (.iaload, 1) := by decide +kernel
theorem dX13_writes_65 : decode cX13_writes 65 = .ok (.istore_n 3, 1) := by decide +kernel
theorem dX13_writes_66 : decode cX13_writes 66 = .ok (.iinc 4 1, 3) := by decide +kernel
theorem dX13_writes_69 : decode cX13_writes 69 = .ok (.goto (-64), 3) := by decide +kernel
theorem dX13_writes_72 : decode cX13_writes 72 = .ok (.iload_n 3, 1) := by decide +kernel
theorem dX13_writes_73 : decode cX13_writes 73 = .ok (.ireturn, 1) := by decide +kernel
noncomputable def f_X13_writes_72  (l3 : Int32) (σ : jM) : Option (Int32 × jM) :=
  some (l3, σ)
noncomputable def f_X13_writes_66 (rec5 : Int32 → Int32 → Int32 → Int32 → jM → Option (Int32 × jM)) (l1 : Int32) (l2 : Int32) (l3 : Int32) (l4 : Int32) (σ : jM) : Option (Int32 × jM) :=
  rec5 l1 l2 l3 (l4 + 1) σ
noncomputable def s_X13_writes_5  (rec5 : Int32 → Int32 → Int32 → Int32 → jM → Option (Int32 × jM)) (l1 : Int32) (l2 : Int32) (l3 : Int32) (l4 : Int32) (σ : jM) : Option (Int32 × jM) :=
  (if l1 = (-1) then f_X13_writes_72  l3 σ else gd (inb l1 11) ((if (rI σ 331 (Int32.toNatClampNeg l1)) ≤ l4 then f_X13_writes_72  l3 σ else gd (inb ((12 * l1) + l4) 132) ((if (rI σ 332 (Int32.toNatClampNeg ((12 * l1) + l4))) = 2 then gd (inb ((12 * l1) + l4) 132) ((if (rI σ 333 (Int32.toNatClampNeg ((12 * l1) + l4))) = l2 then gd (inb ((12 * l1) + l4) 132) (f_X13_writes_66 rec5 l1 l2 (rI σ 334 (Int32.toNatClampNeg ((12 * l1) + l4))) l4 σ) else f_X13_writes_66 rec5 l1 l2 l3 l4 σ)) else f_X13_writes_66 rec5 l1 l2 l3 l4 σ)))))
noncomputable def f_X13_writes_5  (n : Nat) : Int32 → Int32 → Int32 → Int32 → jM → Option (Int32 × jM) := Nat.rec (motive := fun _ => Int32 → Int32 → Int32 → Int32 → jM → Option (Int32 × jM)) (fun _ _ _ _ _ => none) (fun _ q => s_X13_writes_5  q) n
noncomputable def f_X13_writes (a1 : Int32) (a2 : Int32) (σ : jM) : Option (Int32 × jM) :=
  f_X13_writes_5  Fu a1 a2 a2 0 σ
set_option maxRecDepth 20000 in
set_option maxHeartbeats 4000000 in
theorem t_X13_writes_72  (l3 : Int32) (σ : jM) (r : Int32 × jM)  (h : f_X13_writes_72  l3 σ = some r) : J mi_X13_writes 1 0 0 (jqI r) 72 [(3, .int l3)] [] (ms σ) := by
  unfold f_X13_writes_72 at h
  refine J_iload_n 0 dX13_writes_72 rfl ?_
  exact J_ret (v := some (.int l3)) rfl ⟨dX13_writes_73, Or.inl rfl⟩ (jqI_mk h)
set_option maxRecDepth 20000 in
set_option maxHeartbeats 4000000 in
theorem t_X13_writes_66 {rec5 : Int32 → Int32 → Int32 → Int32 → jM → Option (Int32 × jM)} (hrec5 : ∀ (l1 : Int32) (l2 : Int32) (l3 : Int32) (l4 : Int32) (σ : jM) (r : Int32 × jM), rec5 l1 l2 l3 l4 σ = some r → J mi_X13_writes 1 0 0 (jqI r) 5 [(0, .ref 324), (1, .int l1), (2, .int l2), (3, .int l3), (4, .int l4)] [] (ms σ)) (l1 : Int32) (l2 : Int32) (l3 : Int32) (l4 : Int32) (σ : jM) (r : Int32 × jM)  (h : f_X13_writes_66 rec5 l1 l2 l3 l4 σ = some r) : J mi_X13_writes 1 0 0 (jqI r) 66 [(0, .ref 324), (1, .int l1), (2, .int l2), (3, .int l3), (4, .int l4)] [] (ms σ) := by
  unfold f_X13_writes_66 at h
  refine J_iinc (v := (l4 + 1)) (ls' := [(4, .int (l4 + 1)), (0, .ref 324), (1, .int l1), (2, .int l2), (3, .int l3)]) 4 dX13_writes_66 rfl rfl (by decide) rfl ?_
  refine J_goto (tgt := 5) dX13_writes_69 (by decide) ?_
  refine J_pick [1, 2, 3, 4, 0] rfl ?_
  exact hrec5 _ _ _ _ _ _  h
set_option maxRecDepth 20000 in
set_option maxHeartbeats 4000000 in
theorem t_X13_writes_5  : ∀ (n : Nat) (l1 : Int32) (l2 : Int32) (l3 : Int32) (l4 : Int32) (σ : jM) (r : Int32 × jM), f_X13_writes_5  n l1 l2 l3 l4 σ = some r → J mi_X13_writes 1 0 0 (jqI r) 5 [(0, .ref 324), (1, .int l1), (2, .int l2), (3, .int l3), (4, .int l4)] [] (ms σ) := by
  intro n
  induction n with
  | zero =>
    intro l1 l2 l3 l4 σ r  h
    have h : (none : Option (Int32 × jM)) = some r := h
    cases h
  | succ n ih =>
    intro l1 l2 l3 l4 σ r  h
    have h : s_X13_writes_5  (f_X13_writes_5  n) l1 l2 l3 l4 σ = some r := h
    unfold s_X13_writes_5 at h
    refine J_iload_n 1 dX13_writes_5 rfl ?_
    refine J_iconst (v := (-1)) dX13_writes_6 (by decide) ?_
    refine J_icmp_eq (tgt := 72) dX13_writes_7 (by decide) (fun c13 => ?_) (fun c13 => ?_)
    · have h := (if_pos c13).symm.trans h
      refine J_pick [3] rfl ?_
      exact t_X13_writes_72  _ _ _  h
    · have h := (if_neg c13).symm.trans h
      refine J_iload 4 dX13_writes_10 rfl ?_
      refine J_aload_n 0 dX13_writes_12 rfl ?_
      refine M_getR gf_X13_32_12 dX13_writes_13 (g_324_10 _) k_324 n_324 ?_
      refine J_iload_n 1 dX13_writes_16 rfl ?_
      obtain ⟨g14, h⟩ := gd_inv h
      refine M_iald dX13_writes_17 a_331 n_331 g14 ?_
      refine J_icmp_ge (tgt := 72) dX13_writes_18 (by decide) (fun c15 => ?_) (fun c15 => ?_)
      · have h := (if_pos c15).symm.trans h
        refine J_pick [3] rfl ?_
        exact t_X13_writes_72  _ _ _  h
      · have h := (if_neg c15).symm.trans h
        refine J_aload_n 0 dX13_writes_21 rfl ?_
        refine M_getR gf_X13_35_12 dX13_writes_22 (g_324_11 _) k_324 n_324 ?_
        refine J_bipush (v := 12) dX13_writes_25 (by decide) ?_
        refine J_iload_n 1 dX13_writes_27 rfl ?_
        refine J_imul dX13_writes_28 ?_
        refine J_iload 4 dX13_writes_29 rfl ?_
        refine J_iadd dX13_writes_31 ?_
        obtain ⟨g16, h⟩ := gd_inv h
        refine M_iald dX13_writes_32 a_332 n_332 g16 ?_
        refine J_iconst (v := 2) dX13_writes_33 (by decide) ?_
        refine J_icmp_ne (tgt := 66) dX13_writes_34 (by decide) (fun c17 => ?_) (fun c17 => ?_)
        · have h := (if_neg c17).symm.trans h
          exact t_X13_writes_66 ih _ _ _ _ _ _  h
        · have h := (if_pos c17).symm.trans h
          refine J_aload_n 0 dX13_writes_37 rfl ?_
          refine M_getR gf_X13_38_12 dX13_writes_38 (g_324_12 _) k_324 n_324 ?_
          refine J_bipush (v := 12) dX13_writes_41 (by decide) ?_
          refine J_iload_n 1 dX13_writes_43 rfl ?_
          refine J_imul dX13_writes_44 ?_
          refine J_iload 4 dX13_writes_45 rfl ?_
          refine J_iadd dX13_writes_47 ?_
          obtain ⟨g18, h⟩ := gd_inv h
          refine M_iald dX13_writes_48 a_333 n_333 g18 ?_
          refine J_iload_n 2 dX13_writes_49 rfl ?_
          refine J_icmp_ne (tgt := 66) dX13_writes_50 (by decide) (fun c19 => ?_) (fun c19 => ?_)
          · have h := (if_neg c19).symm.trans h
            exact t_X13_writes_66 ih _ _ _ _ _ _  h
          · have h := (if_pos c19).symm.trans h
            refine J_aload_n 0 dX13_writes_53 rfl ?_
            refine M_getR gf_X13_41_12 dX13_writes_54 (g_324_13 _) k_324 n_324 ?_
            refine J_bipush (v := 12) dX13_writes_57 (by decide) ?_
            refine J_iload_n 1 dX13_writes_59 rfl ?_
            refine J_imul dX13_writes_60 ?_
            refine J_iload 4 dX13_writes_61 rfl ?_
            refine J_iadd dX13_writes_63 ?_
            obtain ⟨g20, h⟩ := gd_inv h
            refine M_iald dX13_writes_64 a_334 n_334 g20 ?_
            refine J_istore_n (i := 3) (ls' := [(3, .int (rI σ 334 (Int32.toNatClampNeg ((12 * l1) + l4)))), (0, .ref 324), (1, .int l1), (2, .int l2), (4, .int l4)]) dX13_writes_65 rfl (by decide) rfl ?_
            refine J_pick [1, 2, 3, 0, 4] rfl ?_
            exact t_X13_writes_66 ih _ _ _ _ _ _  h
set_option maxRecDepth 20000 in
set_option maxHeartbeats 4000000 in
theorem t_X13_writes {a1 : Int32} {a2 : Int32} {σ : jM} {r : Int32 × jM}  (h : f_X13_writes a1 a2 σ = some r) : J mi_X13_writes 1 0 0 (jqI r) 0 [(0, .ref 324), (1, .int a1), (2, .int a2)] [] (ms σ) := by
  unfold f_X13_writes at h
  refine J_iload_n 2 dX13_writes_0 rfl ?_
  refine J_istore_n (i := 3) (ls' := [(3, .int a2), (0, .ref 324), (1, .int a1), (2, .int a2)]) dX13_writes_1 rfl (by decide) rfl ?_
  refine J_iconst (v := 0) dX13_writes_2 (by decide) ?_
  refine J_istore (i := 4) (ls' := [(4, .int 0), (3, .int a2), (0, .ref 324), (1, .int a1), (2, .int a2)]) dX13_writes_3 (by decide) rfl ?_
  refine J_pick [2, 3, 4, 1, 0] rfl ?_
  exact t_X13_writes_5  _ _ _ _ _ _ _  h
theorem dX13_drops_0 : decode cX13_drops 0 = .ok (.iconst 0, 1) := by decide +kernel
theorem dX13_drops_1 : decode cX13_drops 1 = .ok (.istore_n 3, 1) := by decide +kernel
theorem dX13_drops_2 : decode cX13_drops 2 = .ok (.iconst 0, 1) := by decide +kernel
theorem dX13_drops_3 : decode cX13_drops 3 = .ok (.istore 4, 2) := by decide +kernel
theorem dX13_drops_5 : decode cX13_drops 5 = .ok (.iload_n 1, 1) := by decide +kernel
theorem dX13_drops_6 : decode cX13_drops 6 = .ok (.iconst (-1), 1) := by decide +kernel
theorem dX13_drops_7 : decode cX13_drops 7 = .ok (.if_icmp .eq 62, 3) := by decide +kernel
theorem dX13_drops_10 : decode cX13_drops 10 = .ok (.iload 4, 2) := by decide +kernel
theorem dX13_drops_12 : decode cX13_drops 12 = .ok (.aload_n 0, 1) := by decide +kernel
theorem dX13_drops_13 : decode cX13_drops 13 = .ok (.getfield 32, 3) := by decide +kernel
theorem dX13_drops_16 : decode cX13_drops 16 = .ok (.iload_n 1, 1) := by decide +kernel
theorem dX13_drops_17 : decode cX13_drops 17 = .ok (.iaload, 1) := by decide +kernel
theorem dX13_drops_18 : decode cX13_drops 18 = .ok (.if_icmp .ge 51, 3) := by decide +kernel
theorem dX13_drops_21 : decode cX13_drops 21 = .ok (.iload_n 3, 1) := by decide +kernel
theorem dX13_drops_22 : decode cX13_drops 22 = .ok (.ifCond .ne 35, 3) := by decide +kernel
theorem dX13_drops_25 : decode cX13_drops 25 = .ok (.aload_n 0, 1) := by decide +kernel
theorem dX13_drops_26 : decode cX13_drops 26 = .ok (.getfield 35, 3) := by decide +kernel
theorem dX13_drops_29 : decode cX13_drops 29 = .ok (.bipush 12, 2) := by decide +kernel
theorem dX13_drops_31 : decode cX13_drops 31 = .ok (.iload_n 1, 1) := by decide +kernel
theorem dX13_drops_32 : decode cX13_drops 32 = .ok (.imul, 1) := by decide +kernel
theorem dX13_drops_33 : decode cX13_drops 33 = .ok (.iload 4, 2) := by decide +kernel
theorem dX13_drops_35 : decode cX13_drops 35 = .ok (.iadd, 1) := by decide +kernel
theorem dX13_drops_36 : decode cX13_drops 36 = .ok (.iaload, 1) := by decide +kernel
theorem dX13_drops_37 : decode cX13_drops 37 = .ok (.iconst 3, 1) := by decide +kernel
theorem dX13_drops_38 : decode cX13_drops 38 = .ok (.if_icmp .ne 23, 3) := by decide +kernel
theorem dX13_drops_41 : decode cX13_drops 41 = .ok (.aload_n 0, 1) := by decide +kernel
theorem dX13_drops_42 : decode cX13_drops 42 = .ok (.getfield 38, 3) := by decide +kernel
theorem dX13_drops_45 : decode cX13_drops 45 = .ok (.bipush 12, 2) := by decide +kernel
theorem dX13_drops_47 : decode cX13_drops 47 = .ok (.iload_n 1, 1) := by decide +kernel
theorem dX13_drops_48 : decode cX13_drops 48 = .ok (.imul, 1) := by decide +kernel
theorem dX13_drops_49 : decode cX13_drops 49 = .ok (.iload 4, 2) := by decide +kernel
theorem dX13_drops_51 : decode cX13_drops 51 = .ok (.iadd, 1) := by decide +kernel
theorem dX13_drops_52 : decode cX13_drops 52 = .ok (.iaload, 1) := by decide +kernel
theorem dX13_drops_53 : decode cX13_drops 53 = .ok (.iload_n 2, 1) := by decide +kernel
theorem dX13_drops_54 : decode cX13_drops 54 = .ok (.if_icmp .ne 7, 3) := by decide +kernel
theorem dX13_drops_57 : decode cX13_drops 57 = .ok (.iconst 1, 1) := by decide +kernel
theorem dX13_drops_58 : decode cX13_drops 58 = .ok (.goto 4, 3) := by decide +kernel
theorem dX13_drops_61 : decode cX13_drops 61 = .ok (.iconst 0, 1) := by decide +kernel
theorem dX13_drops_62 : decode cX13_drops 62 = .ok (.istore_n 3, 1) := by decide +kernel
theorem dX13_drops_63 : decode cX13_drops 63 = .ok (.iinc 4 1, 3) := by decide +kernel
theorem dX13_drops_66 : decode cX13_drops 66 = .ok (.goto (-61), 3) := by decide +kernel
theorem dX13_drops_69 : decode cX13_drops 69 = .ok (.iload_n 3, 1) := by decide +kernel
theorem dX13_drops_70 : decode cX13_drops 70 = .ok (.ireturn, 1) := by decide +kernel
noncomputable def f_X13_drops_69  (l3 : Int32) (σ : jM) : Option (Int32 × jM) :=
  gd (l3 = 0 ∨ l3 = 1) (some (l3, σ))
noncomputable def f_X13_drops_62 (rec5 : Int32 → Int32 → Int32 → Int32 → jM → Option (Int32 × jM)) (l1 : Int32) (l2 : Int32) (l4 : Int32) (s0 : Int32) (σ : jM) : Option (Int32 × jM) :=
  rec5 l1 l2 s0 (l4 + 1) σ
noncomputable def f_X13_drops_57 (rec5 : Int32 → Int32 → Int32 → Int32 → jM → Option (Int32 × jM)) (l1 : Int32) (l2 : Int32) (l4 : Int32) (σ : jM) : Option (Int32 × jM) :=
  f_X13_drops_62 rec5 l1 l2 l4 1 σ
noncomputable def f_X13_drops_61 (rec5 : Int32 → Int32 → Int32 → Int32 → jM → Option (Int32 × jM)) (l1 : Int32) (l2 : Int32) (l4 : Int32) (σ : jM) : Option (Int32 × jM) :=
  f_X13_drops_62 rec5 l1 l2 l4 0 σ
noncomputable def s_X13_drops_5  (rec5 : Int32 → Int32 → Int32 → Int32 → jM → Option (Int32 × jM)) (l1 : Int32) (l2 : Int32) (l3 : Int32) (l4 : Int32) (σ : jM) : Option (Int32 × jM) :=
  (if l1 = (-1) then f_X13_drops_69  l3 σ else gd (inb l1 11) ((if (rI σ 331 (Int32.toNatClampNeg l1)) ≤ l4 then f_X13_drops_69  l3 σ else (if l3 = 0 then gd (inb ((12 * l1) + l4) 132) ((if (rI σ 332 (Int32.toNatClampNeg ((12 * l1) + l4))) = 3 then gd (inb ((12 * l1) + l4) 132) ((if (rI σ 333 (Int32.toNatClampNeg ((12 * l1) + l4))) = l2 then f_X13_drops_57 rec5 l1 l2 l4 σ else f_X13_drops_61 rec5 l1 l2 l4 σ)) else f_X13_drops_61 rec5 l1 l2 l4 σ)) else f_X13_drops_57 rec5 l1 l2 l4 σ))))
noncomputable def f_X13_drops_5  (n : Nat) : Int32 → Int32 → Int32 → Int32 → jM → Option (Int32 × jM) := Nat.rec (motive := fun _ => Int32 → Int32 → Int32 → Int32 → jM → Option (Int32 × jM)) (fun _ _ _ _ _ => none) (fun _ q => s_X13_drops_5  q) n
noncomputable def f_X13_drops (a1 : Int32) (a2 : Int32) (σ : jM) : Option (Int32 × jM) :=
  f_X13_drops_5  Fu a1 a2 0 0 σ
set_option maxRecDepth 20000 in
set_option maxHeartbeats 4000000 in
theorem t_X13_drops_69  (l3 : Int32) (σ : jM) (r : Int32 × jM)  (h : f_X13_drops_69  l3 σ = some r) : J mi_X13_drops 1 0 0 (jqI r) 69 [(3, .int l3)] [] (ms σ) := by
  unfold f_X13_drops_69 at h
  refine J_iload_n 0 dX13_drops_69 rfl ?_
  obtain ⟨g5, h⟩ := gd_inv h
  exact J_ret (v := some (.int l3)) rfl ⟨dX13_drops_70, Or.inr (Or.inl ⟨rfl, g5⟩)⟩ (jqI_mk h)
set_option maxRecDepth 20000 in
set_option maxHeartbeats 4000000 in
theorem t_X13_drops_62 {rec5 : Int32 → Int32 → Int32 → Int32 → jM → Option (Int32 × jM)} (hrec5 : ∀ (l1 : Int32) (l2 : Int32) (l3 : Int32) (l4 : Int32) (σ : jM) (r : Int32 × jM), rec5 l1 l2 l3 l4 σ = some r → J mi_X13_drops 1 0 0 (jqI r) 5 [(0, .ref 324), (1, .int l1), (2, .int l2), (3, .int l3), (4, .int l4)] [] (ms σ)) (l1 : Int32) (l2 : Int32) (l4 : Int32) (s0 : Int32) (σ : jM) (r : Int32 × jM)  (h : f_X13_drops_62 rec5 l1 l2 l4 s0 σ = some r) : J mi_X13_drops 1 0 0 (jqI r) 62 [(0, .ref 324), (1, .int l1), (2, .int l2), (4, .int l4)] [.int s0] (ms σ) := by
  unfold f_X13_drops_62 at h
  refine J_istore_n (i := 3) (ls' := [(3, .int s0), (0, .ref 324), (1, .int l1), (2, .int l2), (4, .int l4)]) dX13_drops_62 rfl (by decide) rfl ?_
  refine J_iinc (v := (l4 + 1)) (ls' := [(4, .int (l4 + 1)), (3, .int s0), (0, .ref 324), (1, .int l1), (2, .int l2)]) 4 dX13_drops_63 rfl rfl (by decide) rfl ?_
  refine J_goto (tgt := 5) dX13_drops_66 (by decide) ?_
  refine J_pick [2, 3, 4, 1, 0] rfl ?_
  exact hrec5 _ _ _ _ _ _  h
set_option maxRecDepth 20000 in
set_option maxHeartbeats 4000000 in
theorem t_X13_drops_57 {rec5 : Int32 → Int32 → Int32 → Int32 → jM → Option (Int32 × jM)} (hrec5 : ∀ (l1 : Int32) (l2 : Int32) (l3 : Int32) (l4 : Int32) (σ : jM) (r : Int32 × jM), rec5 l1 l2 l3 l4 σ = some r → J mi_X13_drops 1 0 0 (jqI r) 5 [(0, .ref 324), (1, .int l1), (2, .int l2), (3, .int l3), (4, .int l4)] [] (ms σ)) (l1 : Int32) (l2 : Int32) (l4 : Int32) (σ : jM) (r : Int32 × jM)  (h : f_X13_drops_57 rec5 l1 l2 l4 σ = some r) : J mi_X13_drops 1 0 0 (jqI r) 57 [(0, .ref 324), (1, .int l1), (2, .int l2), (4, .int l4)] [] (ms σ) := by
  unfold f_X13_drops_57 at h
  refine J_iconst (v := 1) dX13_drops_57 (by decide) ?_
  refine J_goto (tgt := 62) dX13_drops_58 (by decide) ?_
  exact t_X13_drops_62 hrec5 _ _ _ _ _ _  h
set_option maxRecDepth 20000 in
set_option maxHeartbeats 4000000 in
theorem t_X13_drops_61 {rec5 : Int32 → Int32 → Int32 → Int32 → jM → Option (Int32 × jM)} (hrec5 : ∀ (l1 : Int32) (l2 : Int32) (l3 : Int32) (l4 : Int32) (σ : jM) (r : Int32 × jM), rec5 l1 l2 l3 l4 σ = some r → J mi_X13_drops 1 0 0 (jqI r) 5 [(0, .ref 324), (1, .int l1), (2, .int l2), (3, .int l3), (4, .int l4)] [] (ms σ)) (l1 : Int32) (l2 : Int32) (l4 : Int32) (σ : jM) (r : Int32 × jM)  (h : f_X13_drops_61 rec5 l1 l2 l4 σ = some r) : J mi_X13_drops 1 0 0 (jqI r) 61 [(0, .ref 324), (1, .int l1), (2, .int l2), (4, .int l4)] [] (ms σ) := by
  unfold f_X13_drops_61 at h
  refine J_iconst (v := 0) dX13_drops_61 (by decide) ?_
  exact t_X13_drops_62 hrec5 _ _ _ _ _ _  h
set_option maxRecDepth 20000 in
set_option maxHeartbeats 4000000 in
theorem t_X13_drops_5  : ∀ (n : Nat) (l1 : Int32) (l2 : Int32) (l3 : Int32) (l4 : Int32) (σ : jM) (r : Int32 × jM), f_X13_drops_5  n l1 l2 l3 l4 σ = some r → J mi_X13_drops 1 0 0 (jqI r) 5 [(0, .ref 324), (1, .int l1), (2, .int l2), (3, .int l3), (4, .int l4)] [] (ms σ) := by
  intro n
  induction n with
  | zero =>
    intro l1 l2 l3 l4 σ r  h
    have h : (none : Option (Int32 × jM)) = some r := h
    cases h
  | succ n ih =>
    intro l1 l2 l3 l4 σ r  h
    have h : s_X13_drops_5  (f_X13_drops_5  n) l1 l2 l3 l4 σ = some r := h
    unfold s_X13_drops_5 at h
    refine J_iload_n 1 dX13_drops_5 rfl ?_
    refine J_iconst (v := (-1)) dX13_drops_6 (by decide) ?_
    refine J_icmp_eq (tgt := 69) dX13_drops_7 (by decide) (fun c14 => ?_) (fun c14 => ?_)
    · have h := (if_pos c14).symm.trans h
      refine J_pick [3] rfl ?_
      exact t_X13_drops_69  _ _ _  h
    · have h := (if_neg c14).symm.trans h
      refine J_iload 4 dX13_drops_10 rfl ?_
      refine J_aload_n 0 dX13_drops_12 rfl ?_
      refine M_getR gf_X13_32_12 dX13_drops_13 (g_324_10 _) k_324 n_324 ?_
      refine J_iload_n 1 dX13_drops_16 rfl ?_
      obtain ⟨g15, h⟩ := gd_inv h
      refine M_iald dX13_drops_17 a_331 n_331 g15 ?_
      refine J_icmp_ge (tgt := 69) dX13_drops_18 (by decide) (fun c16 => ?_) (fun c16 => ?_)
      · have h := (if_pos c16).symm.trans h
        refine J_pick [3] rfl ?_
        exact t_X13_drops_69  _ _ _  h
      · have h := (if_neg c16).symm.trans h
        refine J_iload_n 3 dX13_drops_21 rfl ?_
        refine J_if_ne (tgt := 57) dX13_drops_22 (by decide) (fun c17 => ?_) (fun c17 => ?_)
        · have h := (if_neg c17).symm.trans h
          refine J_pick [0, 1, 2, 4] rfl ?_
          exact t_X13_drops_57 ih _ _ _ _ _  h
        · have h := (if_pos c17).symm.trans h
          refine J_aload_n 0 dX13_drops_25 rfl ?_
          refine M_getR gf_X13_35_12 dX13_drops_26 (g_324_11 _) k_324 n_324 ?_
          refine J_bipush (v := 12) dX13_drops_29 (by decide) ?_
          refine J_iload_n 1 dX13_drops_31 rfl ?_
          refine J_imul dX13_drops_32 ?_
          refine J_iload 4 dX13_drops_33 rfl ?_
          refine J_iadd dX13_drops_35 ?_
          obtain ⟨g18, h⟩ := gd_inv h
          refine M_iald dX13_drops_36 a_332 n_332 g18 ?_
          refine J_iconst (v := 3) dX13_drops_37 (by decide) ?_
          refine J_icmp_ne (tgt := 61) dX13_drops_38 (by decide) (fun c19 => ?_) (fun c19 => ?_)
          · have h := (if_neg c19).symm.trans h
            refine J_pick [0, 1, 2, 4] rfl ?_
            exact t_X13_drops_61 ih _ _ _ _ _  h
          · have h := (if_pos c19).symm.trans h
            refine J_aload_n 0 dX13_drops_41 rfl ?_
            refine M_getR gf_X13_38_12 dX13_drops_42 (g_324_12 _) k_324 n_324 ?_
            refine J_bipush (v := 12) dX13_drops_45 (by decide) ?_
            refine J_iload_n 1 dX13_drops_47 rfl ?_
            refine J_imul dX13_drops_48 ?_
            refine J_iload 4 dX13_drops_49 rfl ?_
            refine J_iadd dX13_drops_51 ?_
            obtain ⟨g20, h⟩ := gd_inv h
            refine M_iald dX13_drops_52 a_333 n_333 g20 ?_
            refine J_iload_n 2 dX13_drops_53 rfl ?_
            refine J_icmp_ne (tgt := 61) dX13_drops_54 (by decide) (fun c21 => ?_) (fun c21 => ?_)
            · have h := (if_neg c21).symm.trans h
              refine J_pick [0, 1, 2, 4] rfl ?_
              exact t_X13_drops_61 ih _ _ _ _ _  h
            · have h := (if_pos c21).symm.trans h
              refine J_pick [0, 1, 2, 4] rfl ?_
              exact t_X13_drops_57 ih _ _ _ _ _  h
set_option maxRecDepth 20000 in
set_option maxHeartbeats 4000000 in
theorem t_X13_drops {a1 : Int32} {a2 : Int32} {σ : jM} {r : Int32 × jM}  (h : f_X13_drops a1 a2 σ = some r) : J mi_X13_drops 1 0 0 (jqI r) 0 [(0, .ref 324), (1, .int a1), (2, .int a2)] [] (ms σ) := by
  unfold f_X13_drops at h
  refine J_iconst (v := 0) dX13_drops_0 (by decide) ?_
  refine J_istore_n (i := 3) (ls' := [(3, .int 0), (0, .ref 324), (1, .int a1), (2, .int a2)]) dX13_drops_1 rfl (by decide) rfl ?_
  refine J_iconst (v := 0) dX13_drops_2 (by decide) ?_
  refine J_istore (i := 4) (ls' := [(4, .int 0), (3, .int 0), (0, .ref 324), (1, .int a1), (2, .int a2)]) dX13_drops_3 (by decide) rfl ?_
  refine J_pick [2, 3, 4, 1, 0] rfl ?_
  exact t_X13_drops_5  _ _ _ _ _ _ _  h
theorem dX13_addCell_0 : decode cX13_addCell 0 = .ok (.aload_n 0, 1) := by decide +kernel
theorem dX13_addCell_1 : decode cX13_addCell 1 = .ok (.getfield 136, 3) := by decide +kernel
theorem dX13_addCell_4 : decode cX13_addCell 4 = .ok (.bipush 8, 2) := by decide +kernel
theorem dX13_addCell_6 : decode cX13_addCell 6 = .ok (.iload_n 1, 1) := by decide +kernel
theorem dX13_addCell_7 : decode cX13_addCell 7 = .ok (.imul, 1) := by decide +kernel
theorem dX13_addCell_8 : decode cX13_addCell 8 = .ok (.aload_n 0, 1) := by decide +kernel
theorem dX13_addCell_9 : decode cX13_addCell 9 = .ok (.getfield 139, 3) := by decide +kernel
theorem dX13_addCell_12 : decode cX13_addCell 12 = .ok (.iload_n 1, 1) := by decide +kernel
theorem dX13_addCell_13 : decode cX13_addCell 13 = .ok (.iaload, 1) := by decide +kernel
theorem dX13_addCell_14 : decode cX13_addCell 14 = .ok (.iadd, 1) := by decide +kernel
theorem dX13_addCell_15 : decode cX13_addCell 15 = .ok (.iconst 5, 1) := by decide +kernel
theorem dX13_addCell_16 : decode cX13_addCell 16 = .ok (.iload_n 2, 1) := by decide +kernel
theorem dX13_addCell_17 : decode cX13_addCell 17 = .ok (.ifCond .ne 7, 3) := by decide +kernel
theorem dX13_addCell_20 : decode cX13_addCell 20 = .ok (.iconst 0, 1) := by decide +kernel
theorem dX13_addCell_21 : decode cX13_addCell 21 = .ok (.goto 9, 3) := by decide +kernel
theorem dX13_addCell_24 : decode cX13_addCell 24 = .ok (.iload_n 2, 1) := by decide +kernel
theorem dX13_addCell_25 : decode cX13_addCell 25 = .ok (.bipush 97, 2) := by decide +kernel
theorem dX13_addCell_27 : decode cX13_addCell 27 = .ok (.isub, 1) := by decide +kernel
theorem dX13_addCell_28 : decode cX13_addCell 28 = .ok (.iconst 1, 1) := by decide +kernel
theorem dX13_addCell_29 : decode cX13_addCell 29 = .ok (.iadd, 1) := by decide +kernel
theorem dX13_addCell_30 : decode cX13_addCell 30 = .ok (.imul, 1) := by decide +kernel
theorem dX13_addCell_31 : decode cX13_addCell 31 = .ok (.iload_n 3, 1) := by decide +kernel
theorem dX13_addCell_32 : decode cX13_addCell 32 = .ok (.iadd, 1) := by decide +kernel
theorem dX13_addCell_33 : decode cX13_addCell 33 = .ok (.iastore, 1) := by decide +kernel
theorem dX13_addCell_34 : decode cX13_addCell 34 = .ok (.aload_n 0, 1) := by decide +kernel
theorem dX13_addCell_35 : decode cX13_addCell 35 = .ok (.getfield 139, 3) := by decide +kernel
theorem dX13_addCell_38 : decode cX13_addCell 38 = .ok (.iload_n 1, 1) := by decide +kernel
theorem dX13_addCell_39 : decode cX13_addCell 39 = .ok (.dup2, 1) := by decide +kernel
theorem dX13_addCell_40 : decode cX13_addCell 40 = .ok (.iaload, 1) := by decide +kernel
theorem dX13_addCell_41 : decode cX13_addCell 41 = .ok (.iconst 1, 1) := by decide +kernel
theorem dX13_addCell_42 : decode cX13_addCell 42 = .ok (.iadd, 1) := by decide +kernel
theorem dX13_addCell_43 : decode cX13_addCell 43 = .ok (.iastore, 1) := by decide +kernel
theorem dX13_addCell_44 : decode cX13_addCell 44 = .ok (.return_, 1) := by decide +kernel
noncomputable def f_X13_addCell_30  (l1 : Int32) (l3 : Int32) (s1 : Int32) (s2 : Int32) (s3 : Int32) (σ : jM) : Option (Unit × jM) :=
  gd (inb s1 56) (gd (inb l1 7) (gd (inb l1 7) (some ((), wI (wI σ 364 (Int32.toNatClampNeg s1) ((s2 * s3) + l3)) 365 (Int32.toNatClampNeg l1) ((rI (wI σ 364 (Int32.toNatClampNeg s1) ((s2 * s3) + l3)) 365 (Int32.toNatClampNeg l1)) + 1)))))
noncomputable def f_X13_addCell (a1 : Int32) (a2 : Int32) (a3 : Int32) (σ : jM) : Option (Unit × jM) :=
  gd (inb a1 7) ((if a2 = 0 then f_X13_addCell_30  a1 a3 ((8 * a1) + (rI σ 365 (Int32.toNatClampNeg a1))) 5 0 σ else f_X13_addCell_30  a1 a3 ((8 * a1) + (rI σ 365 (Int32.toNatClampNeg a1))) 5 ((a2 - 97) + 1) σ))
set_option maxRecDepth 20000 in
set_option maxHeartbeats 4000000 in
theorem t_X13_addCell_30  (l1 : Int32) (l3 : Int32) (s1 : Int32) (s2 : Int32) (s3 : Int32) (σ : jM) (r : Unit × jM)  (h : f_X13_addCell_30  l1 l3 s1 s2 s3 σ = some r) : J mi_X13_addCell 1 0 0 (jqV r) 30 [(0, .ref 324), (1, .int l1), (3, .int l3)] [.int s3, .int s2, .int s1, .ref 364] (ms σ) := by
  unfold f_X13_addCell_30 at h
  refine J_imul dX13_addCell_30 ?_
  refine J_iload_n 2 dX13_addCell_31 rfl ?_
  refine J_iadd dX13_addCell_32 ?_
  obtain ⟨g8, h⟩ := gd_inv h
  refine M_iast dX13_addCell_33 a_364 n_364 g8 ?_
  refine J_aload_n 0 dX13_addCell_34 rfl ?_
  refine M_getR gf_X13_139_12 dX13_addCell_35 (g_324_62 _) k_324 n_324 ?_
  refine J_iload_n 1 dX13_addCell_38 rfl ?_
  refine J_dup2 dX13_addCell_39 rfl rfl ?_
  obtain ⟨g9, h⟩ := gd_inv h
  refine M_iald dX13_addCell_40 a_365 n_365 g9 ?_
  refine J_iconst (v := 1) dX13_addCell_41 (by decide) ?_
  refine J_iadd dX13_addCell_42 ?_
  obtain ⟨g10, h⟩ := gd_inv h
  refine M_iast dX13_addCell_43 a_365 n_365 g10 ?_
  exact J_ret (v := none) rfl ⟨dX13_addCell_44, rfl⟩ (jqV_mk h)
set_option maxRecDepth 20000 in
set_option maxHeartbeats 4000000 in
theorem t_X13_addCell {a1 : Int32} {a2 : Int32} {a3 : Int32} {σ : jM} {r : Unit × jM}  (h : f_X13_addCell a1 a2 a3 σ = some r) : J mi_X13_addCell 1 0 0 (jqV r) 0 [(0, .ref 324), (1, .int a1), (2, .int a2), (3, .int a3)] [] (ms σ) := by
  unfold f_X13_addCell at h
  refine J_aload_n 0 dX13_addCell_0 rfl ?_
  refine M_getR gf_X13_136_12 dX13_addCell_1 (g_324_61 _) k_324 n_324 ?_
  refine J_bipush (v := 8) dX13_addCell_4 (by decide) ?_
  refine J_iload_n 1 dX13_addCell_6 rfl ?_
  refine J_imul dX13_addCell_7 ?_
  refine J_aload_n 0 dX13_addCell_8 rfl ?_
  refine M_getR gf_X13_139_12 dX13_addCell_9 (g_324_62 _) k_324 n_324 ?_
  refine J_iload_n 1 dX13_addCell_12 rfl ?_
  obtain ⟨g11, h⟩ := gd_inv h
  refine M_iald dX13_addCell_13 a_365 n_365 g11 ?_
  refine J_iadd dX13_addCell_14 ?_
  refine J_iconst (v := 5) dX13_addCell_15 (by decide) ?_
  refine J_iload_n 2 dX13_addCell_16 rfl ?_
  refine J_if_ne (tgt := 24) dX13_addCell_17 (by decide) (fun c12 => ?_) (fun c12 => ?_)
  · have h := (if_neg c12).symm.trans h
    refine J_iload_n 2 dX13_addCell_24 rfl ?_
    refine J_bipush (v := 97) dX13_addCell_25 (by decide) ?_
    refine J_isub dX13_addCell_27 ?_
    refine J_iconst (v := 1) dX13_addCell_28 (by decide) ?_
    refine J_iadd dX13_addCell_29 ?_
    refine J_pick [0, 1, 3] rfl ?_
    exact t_X13_addCell_30  _ _ _ _ _ _ _  h
  · have h := (if_pos c12).symm.trans h
    refine J_iconst (v := 0) dX13_addCell_20 (by decide) ?_
    refine J_goto (tgt := 30) dX13_addCell_21 (by decide) ?_
    refine J_pick [0, 1, 3] rfl ?_
    exact t_X13_addCell_30  _ _ _ _ _ _ _  h
theorem dX13_vowelFor_0 : decode cX13_vowelFor 0 = .ok (.iload_n 1, 1) := by decide +kernel
theorem dX13_vowelFor_1 : decode cX13_vowelFor 1 = .ok (.iconst 1, 1) := by decide +kernel
theorem dX13_vowelFor_2 : decode cX13_vowelFor 2 = .ok (.iadd, 1) := by decide +kernel
theorem dX13_vowelFor_3 : decode cX13_vowelFor 3 = .ok (.istore_n 3, 1) := by decide +kernel
theorem dX13_vowelFor_4 : decode cX13_vowelFor 4 = .ok (.iload_n 3, 1) := by decide +kernel
theorem dX13_vowelFor_5 : decode cX13_vowelFor 5 = .ok (.iload_n 2, 1) := by decide +kernel
theorem dX13_vowelFor_6 : decode cX13_vowelFor 6 = .ok (.if_icmp .ge 32, 3) := by decide +kernel
theorem dX13_vowelFor_9 : decode cX13_vowelFor 9 = .ok (.aload_n 0, 1) := by decide +kernel
theorem dX13_vowelFor_10 : decode cX13_vowelFor 10 = .ok (.getfield 142, 3) := by decide +kernel
theorem dX13_vowelFor_13 : decode cX13_vowelFor 13 = .ok (.iload_n 3, 1) := by decide +kernel
theorem dX13_vowelFor_14 : decode cX13_vowelFor 14 = .ok (.iaload, 1) := by decide +kernel
theorem dX13_vowelFor_15 : decode cX13_vowelFor 15 = .ok (.invokestatic 278, 3) := by decide +kernel
theorem dX13_vowelFor_18 : decode cX13_vowelFor 18 = .ok (.iconst (-1), 1) := by decide +kernel
theorem dX13_vowelFor_19 : decode cX13_vowelFor 19 = .ok (.if_icmp .eq 13, 3) := by decide +kernel
theorem dX13_vowelFor_22 : decode cX13_vowelFor 22 = .ok (.aload_n 0, 1) := by decide +kernel
theorem dX13_vowelFor_23 : decode cX13_vowelFor 23 = .ok (.getfield 142, 3) := by decide +kernel
theorem dX13_vowelFor_26 : decode cX13_vowelFor 26 = .ok (.iload_n 3, 1) := by decide +kernel
theorem dX13_vowelFor_27 : decode cX13_vowelFor 27 = .ok (.iaload, 1) := by decide +kernel
theorem dX13_vowelFor_28 : decode cX13_vowelFor 28 = .ok (.invokestatic 278, 3) := by decide +kernel
theorem dX13_vowelFor_31 : decode cX13_vowelFor 31 = .ok (.ireturn, 1) := by decide +kernel
theorem dX13_vowelFor_32 : decode cX13_vowelFor 32 = .ok (.iinc 3 1, 3) := by decide +kernel
theorem dX13_vowelFor_35 : decode cX13_vowelFor 35 = .ok (.goto (-31), 3) := by decide +kernel
theorem dX13_vowelFor_38 : decode cX13_vowelFor 38 = .ok (.iload_n 1, 1) := by decide +kernel
theorem dX13_vowelFor_39 : decode cX13_vowelFor 39 = .ok (.iconst 1, 1) := by decide +kernel
theorem dX13_vowelFor_40 : decode cX13_vowelFor 40 = .ok (.isub, 1) := by decide +kernel
theorem dX13_vowelFor_41 : decode cX13_vowelFor 41 = .ok (.istore_n 3, 1) := by decide +kernel
theorem dX13_vowelFor_42 : decode cX13_vowelFor 42 = .ok (.iload_n 3, 1) := by decide +kernel
theorem dX13_vowelFor_43 : decode cX13_vowelFor 43 = .ok (.ifCond .lt 32, 3) := by decide +kernel
theorem dX13_vowelFor_46 : decode cX13_vowelFor 46 = .ok (.aload_n 0, 1) := by decide +kernel
theorem dX13_vowelFor_47 : decode cX13_vowelFor 47 = .ok (.getfield 142, 3) := by decide +kernel
theorem dX13_vowelFor_50 : decode cX13_vowelFor 50 = .ok (.iload_n 3, 1) := by decide +kernel
theorem dX13_vowelFor_51 : decode cX13_vowelFor 51 = .ok (.iaload, 1) := by decide +kernel
theorem dX13_vowelFor_52 : decode cX13_vowelFor 52 = .ok (.invokestatic 278, 3) := by decide +kernel
theorem dX13_vowelFor_55 : decode cX13_vowelFor 55 = .ok (.iconst (-1), 1) := by decide +kernel
theorem dX13_vowelFor_56 : decode cX13_vowelFor 56 = .ok (.if_icmp .eq 13, 3) := by decide +kernel
theorem dX13_vowelFor_59 : decode cX13_vowelFor 59 = .ok (.aload_n 0, 1) := by decide +kernel
theorem dX13_vowelFor_60 : decode cX13_vowelFor 60 = .ok (.getfield 142, 3) := by decide +kernel
theorem dX13_vowelFor_63 : decode cX13_vowelFor 63 = .ok (.iload_n 3, 1) := by decide +kernel
theorem dX13_vowelFor_64 : decode cX13_vowelFor 64 = .ok (.iaload, 1) := by decide +kernel
theorem dX13_vowelFor_65 : decode cX13_vowelFor 65 = .ok (.invokestatic 278, 3) := by decide +kernel
theorem dX13_vowelFor_68 : decode cX13_vowelFor 68 = .ok (.ireturn, 1) := by decide +kernel
theorem dX13_vowelFor_69 : decode cX13_vowelFor 69 = .ok (.iinc 3 (-1), 3) := by decide +kernel
theorem dX13_vowelFor_72 : decode cX13_vowelFor 72 = .ok (.goto (-30), 3) := by decide +kernel
theorem dX13_vowelFor_75 : decode cX13_vowelFor 75 = .ok (.iconst (-1), 1) := by decide +kernel
theorem dX13_vowelFor_76 : decode cX13_vowelFor 76 = .ok (.ireturn, 1) := by decide +kernel
noncomputable def s_X13_vowelFor_42  (rec42 : Int32 → jM → Option (Int32 × jM)) (l3 : Int32) (σ : jM) : Option (Int32 × jM) :=
  (if l3 < 0 then some ((-1), σ) else gd (inb l3 8) (bd (f_X13_vowel (rI σ 366 (Int32.toNatClampNeg l3)) σ) (fun r7 σ8 => (if r7 = (-1) then rec42 (l3 + (-1)) σ8 else gd (inb l3 8) (bd (f_X13_vowel (rI σ8 366 (Int32.toNatClampNeg l3)) σ8) (fun r12 σ13 => some (r12, σ13)))))))
noncomputable def f_X13_vowelFor_42  (n : Nat) : Int32 → jM → Option (Int32 × jM) := Nat.rec (motive := fun _ => Int32 → jM → Option (Int32 × jM)) (fun _ _ => none) (fun _ q => s_X13_vowelFor_42  q) n
noncomputable def s_X13_vowelFor_4  (rec4 : Int32 → Int32 → Int32 → jM → Option (Int32 × jM)) (l1 : Int32) (l2 : Int32) (l3 : Int32) (σ : jM) : Option (Int32 × jM) :=
  (if l2 ≤ l3 then f_X13_vowelFor_42  Fu (l1 - 1) σ else gd (inb l3 8) (bd (f_X13_vowel (rI σ 366 (Int32.toNatClampNeg l3)) σ) (fun r27 σ28 => (if r27 = (-1) then rec4 l1 l2 (l3 + 1) σ28 else gd (inb l3 8) (bd (f_X13_vowel (rI σ28 366 (Int32.toNatClampNeg l3)) σ28) (fun r32 σ33 => some (r32, σ33)))))))
noncomputable def f_X13_vowelFor_4  (n : Nat) : Int32 → Int32 → Int32 → jM → Option (Int32 × jM) := Nat.rec (motive := fun _ => Int32 → Int32 → Int32 → jM → Option (Int32 × jM)) (fun _ _ _ _ => none) (fun _ q => s_X13_vowelFor_4  q) n
noncomputable def f_X13_vowelFor (a1 : Int32) (a2 : Int32) (σ : jM) : Option (Int32 × jM) :=
  f_X13_vowelFor_4  Fu a1 a2 (a1 + 1) σ
set_option maxRecDepth 20000 in
set_option maxHeartbeats 4000000 in
theorem t_X13_vowelFor_42  : ∀ (n : Nat) (l3 : Int32) (σ : jM) (r : Int32 × jM), f_X13_vowelFor_42  n l3 σ = some r → J mi_X13_vowelFor 2 0 0 (jqI r) 42 [(0, .ref 324), (3, .int l3)] [] (ms σ) := by
  intro n
  induction n with
  | zero =>
    intro l3 σ r  h
    have h : (none : Option (Int32 × jM)) = some r := h
    cases h
  | succ n ih =>
    intro l3 σ r  h
    have h : s_X13_vowelFor_42  (f_X13_vowelFor_42  n) l3 σ = some r := h
    unfold s_X13_vowelFor_42 at h
    refine J_iload_n 1 dX13_vowelFor_42 rfl ?_
    refine J_if_lt (tgt := 75) dX13_vowelFor_43 (by decide) (fun c15 => ?_) (fun c15 => ?_)
    · have h := (if_pos c15).symm.trans h
      refine J_iconst (v := (-1)) dX13_vowelFor_75 (by decide) ?_
      exact J_ret (v := some (.int (-1))) rfl ⟨dX13_vowelFor_76, Or.inl rfl⟩ (jqI_mk h)
    · have h := (if_neg c15).symm.trans h
      refine J_aload_n 0 dX13_vowelFor_46 rfl ?_
      refine M_getR gf_X13_142_12 dX13_vowelFor_47 (g_324_63 _) k_324 n_324 ?_
      refine J_iload_n 1 dX13_vowelFor_50 rfl ?_
      obtain ⟨g16, h⟩ := gd_inv h
      refine M_iald dX13_vowelFor_51 a_366 n_366 g16 ?_
      obtain ⟨r17, σ18, h19, h⟩ := bd_inv h
      refine M_callSI (d' := 1) (As := [.int (rI σ 366 (Int32.toNatClampNeg l3))]) (st := []) cs_X13_278 dX13_vowelFor_52 rfl (Nat.le_of_ble_eq_true rfl) (Nat.le_of_ble_eq_true rfl) (by decide) rfl rfl (t_X13_vowel  h19) ?_
      refine J_iconst (v := (-1)) dX13_vowelFor_55 (by decide) ?_
      refine J_icmp_eq (tgt := 69) dX13_vowelFor_56 (by decide) (fun c20 => ?_) (fun c20 => ?_)
      · have h := (if_pos c20).symm.trans h
        refine J_iinc (v := (l3 + (-1))) (ls' := [(3, .int (l3 + (-1))), (0, .ref 324)]) 1 dX13_vowelFor_69 rfl rfl (by decide) rfl ?_
        refine J_goto (tgt := 42) dX13_vowelFor_72 (by decide) ?_
        refine J_pick [1, 0] rfl ?_
        exact ih _ _ _  h
      · have h := (if_neg c20).symm.trans h
        refine J_aload_n 0 dX13_vowelFor_59 rfl ?_
        refine M_getR gf_X13_142_12 dX13_vowelFor_60 (g_324_63 _) k_324 n_324 ?_
        refine J_iload_n 1 dX13_vowelFor_63 rfl ?_
        obtain ⟨g21, h⟩ := gd_inv h
        refine M_iald dX13_vowelFor_64 a_366 n_366 g21 ?_
        obtain ⟨r22, σ23, h24, h⟩ := bd_inv h
        refine M_callSI (d' := 1) (As := [.int (rI σ18 366 (Int32.toNatClampNeg l3))]) (st := []) cs_X13_278 dX13_vowelFor_65 rfl (Nat.le_of_ble_eq_true rfl) (Nat.le_of_ble_eq_true rfl) (by decide) rfl rfl (t_X13_vowel  h24) ?_
        exact J_ret (v := some (.int r22)) rfl ⟨dX13_vowelFor_68, Or.inl rfl⟩ (jqI_mk h)
set_option maxRecDepth 20000 in
set_option maxHeartbeats 4000000 in
theorem t_X13_vowelFor_4  : ∀ (n : Nat) (l1 : Int32) (l2 : Int32) (l3 : Int32) (σ : jM) (r : Int32 × jM), f_X13_vowelFor_4  n l1 l2 l3 σ = some r → J mi_X13_vowelFor 2 0 0 (jqI r) 4 [(0, .ref 324), (1, .int l1), (2, .int l2), (3, .int l3)] [] (ms σ) := by
  intro n
  induction n with
  | zero =>
    intro l1 l2 l3 σ r  h
    have h : (none : Option (Int32 × jM)) = some r := h
    cases h
  | succ n ih =>
    intro l1 l2 l3 σ r  h
    have h : s_X13_vowelFor_4  (f_X13_vowelFor_4  n) l1 l2 l3 σ = some r := h
    unfold s_X13_vowelFor_4 at h
    refine J_iload_n 3 dX13_vowelFor_4 rfl ?_
    refine J_iload_n 2 dX13_vowelFor_5 rfl ?_
    refine J_icmp_ge (tgt := 38) dX13_vowelFor_6 (by decide) (fun c35 => ?_) (fun c35 => ?_)
    · have h := (if_pos c35).symm.trans h
      refine J_iload_n 1 dX13_vowelFor_38 rfl ?_
      refine J_iconst (v := 1) dX13_vowelFor_39 (by decide) ?_
      refine J_isub dX13_vowelFor_40 ?_
      refine J_istore_n (i := 3) (ls' := [(3, .int (l1 - 1)), (0, .ref 324), (1, .int l1), (2, .int l2)]) dX13_vowelFor_41 rfl (by decide) rfl ?_
      refine J_pick [1, 0] rfl ?_
      exact t_X13_vowelFor_42  _ _ _ _  h
    · have h := (if_neg c35).symm.trans h
      refine J_aload_n 0 dX13_vowelFor_9 rfl ?_
      refine M_getR gf_X13_142_12 dX13_vowelFor_10 (g_324_63 _) k_324 n_324 ?_
      refine J_iload_n 3 dX13_vowelFor_13 rfl ?_
      obtain ⟨g36, h⟩ := gd_inv h
      refine M_iald dX13_vowelFor_14 a_366 n_366 g36 ?_
      obtain ⟨r37, σ38, h39, h⟩ := bd_inv h
      refine M_callSI (d' := 1) (As := [.int (rI σ 366 (Int32.toNatClampNeg l3))]) (st := []) cs_X13_278 dX13_vowelFor_15 rfl (Nat.le_of_ble_eq_true rfl) (Nat.le_of_ble_eq_true rfl) (by decide) rfl rfl (t_X13_vowel  h39) ?_
      refine J_iconst (v := (-1)) dX13_vowelFor_18 (by decide) ?_
      refine J_icmp_eq (tgt := 32) dX13_vowelFor_19 (by decide) (fun c40 => ?_) (fun c40 => ?_)
      · have h := (if_pos c40).symm.trans h
        refine J_iinc (v := (l3 + 1)) (ls' := [(3, .int (l3 + 1)), (0, .ref 324), (1, .int l1), (2, .int l2)]) 3 dX13_vowelFor_32 rfl rfl (by decide) rfl ?_
        refine J_goto (tgt := 4) dX13_vowelFor_35 (by decide) ?_
        refine J_pick [1, 2, 3, 0] rfl ?_
        exact ih _ _ _ _ _  h
      · have h := (if_neg c40).symm.trans h
        refine J_aload_n 0 dX13_vowelFor_22 rfl ?_
        refine M_getR gf_X13_142_12 dX13_vowelFor_23 (g_324_63 _) k_324 n_324 ?_
        refine J_iload_n 3 dX13_vowelFor_26 rfl ?_
        obtain ⟨g41, h⟩ := gd_inv h
        refine M_iald dX13_vowelFor_27 a_366 n_366 g41 ?_
        obtain ⟨r42, σ43, h44, h⟩ := bd_inv h
        refine M_callSI (d' := 1) (As := [.int (rI σ38 366 (Int32.toNatClampNeg l3))]) (st := []) cs_X13_278 dX13_vowelFor_28 rfl (Nat.le_of_ble_eq_true rfl) (Nat.le_of_ble_eq_true rfl) (by decide) rfl rfl (t_X13_vowel  h44) ?_
        exact J_ret (v := some (.int r42)) rfl ⟨dX13_vowelFor_31, Or.inl rfl⟩ (jqI_mk h)
set_option maxRecDepth 20000 in
set_option maxHeartbeats 4000000 in
theorem t_X13_vowelFor {a1 : Int32} {a2 : Int32} {σ : jM} {r : Int32 × jM}  (h : f_X13_vowelFor a1 a2 σ = some r) : J mi_X13_vowelFor 2 0 0 (jqI r) 0 [(0, .ref 324), (1, .int a1), (2, .int a2)] [] (ms σ) := by
  unfold f_X13_vowelFor at h
  refine J_iload_n 1 dX13_vowelFor_0 rfl ?_
  refine J_iconst (v := 1) dX13_vowelFor_1 (by decide) ?_
  refine J_iadd dX13_vowelFor_2 ?_
  refine J_istore_n (i := 3) (ls' := [(3, .int (a1 + 1)), (0, .ref 324), (1, .int a1), (2, .int a2)]) dX13_vowelFor_3 rfl (by decide) rfl ?_
  refine J_pick [1, 2, 3, 0] rfl ?_
  exact t_X13_vowelFor_4  _ _ _ _ _ _  h
