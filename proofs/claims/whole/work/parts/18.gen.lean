theorem dX13_addWhole_0 : decode cX13_addWhole 0 = .ok (.aload_n 0, 1) := by decide +kernel
theorem dX13_addWhole_1 : decode cX13_addWhole 1 = .ok (.getfield 94, 3) := by decide +kernel
theorem dX13_addWhole_4 : decode cX13_addWhole 4 = .ok (.aload_n 0, 1) := by decide +kernel
theorem dX13_addWhole_5 : decode cX13_addWhole 5 = .ok (.getfield 307, 3) := by decide +kernel
theorem dX13_addWhole_8 : decode cX13_addWhole 8 = .ok (.aload_n 0, 1) := by decide +kernel
theorem dX13_addWhole_9 : decode cX13_addWhole 9 = .ok (.getfield 23, 3) := by decide +kernel
theorem dX13_addWhole_12 : decode cX13_addWhole 12 = .ok (.iload_n 1, 1) := by decide +kernel
theorem dX13_addWhole_13 : decode cX13_addWhole 13 = .ok (.iaload, 1) := by decide +kernel
theorem dX13_addWhole_14 : decode cX13_addWhole 14 = .ok (.iastore, 1) := by decide +kernel
theorem dX13_addWhole_15 : decode cX13_addWhole 15 = .ok (.iconst 0, 1) := by decide +kernel
theorem dX13_addWhole_16 : decode cX13_addWhole 16 = .ok (.istore_n 2, 1) := by decide +kernel
theorem dX13_addWhole_17 : decode cX13_addWhole 17 = .ok (.iload_n 2, 1) := by decide +kernel
theorem dX13_addWhole_18 : decode cX13_addWhole 18 = .ok (.aload_n 0, 1) := by decide +kernel
theorem dX13_addWhole_19 : decode cX13_addWhole 19 = .ok (.getfield 23, 3) := by decide +kernel
theorem dX13_addWhole_22 : decode cX13_addWhole 22 = .ok (.iload_n 1, 1) := by decide +kernel
theorem dX13_addWhole_23 : decode cX13_addWhole 23 = .ok (.iaload, 1) := by decide +kernel
theorem dX13_addWhole_24 : decode cX13_addWhole 24 = .ok (.if_icmp .ge 47, 3) := by decide +kernel
theorem dX13_addWhole_27 : decode cX13_addWhole 27 = .ok (.aload_n 0, 1) := by decide +kernel
theorem dX13_addWhole_28 : decode cX13_addWhole 28 = .ok (.getfield 26, 3) := by decide +kernel
theorem dX13_addWhole_31 : decode cX13_addWhole 31 = .ok (.bipush 6, 2) := by decide +kernel
theorem dX13_addWhole_33 : decode cX13_addWhole 33 = .ok (.iload_n 1, 1) := by decide +kernel
theorem dX13_addWhole_34 : decode cX13_addWhole 34 = .ok (.imul, 1) := by decide +kernel
theorem dX13_addWhole_35 : decode cX13_addWhole 35 = .ok (.iload_n 2, 1) := by decide +kernel
theorem dX13_addWhole_36 : decode cX13_addWhole 36 = .ok (.iadd, 1) := by decide +kernel
theorem dX13_addWhole_37 : decode cX13_addWhole 37 = .ok (.iaload, 1) := by decide +kernel
theorem dX13_addWhole_38 : decode cX13_addWhole 38 = .ok (.istore_n 3, 1) := by decide +kernel
theorem dX13_addWhole_39 : decode cX13_addWhole 39 = .ok (.iload_n 3, 1) := by decide +kernel
theorem dX13_addWhole_40 : decode cX13_addWhole 40 = .ok (.iconst (-1), 1) := by decide +kernel
theorem dX13_addWhole_41 : decode cX13_addWhole 41 = .ok (.if_icmp .ne 4, 3) := by decide +kernel
theorem dX13_addWhole_44 : decode cX13_addWhole 44 = .ok (.return_, 1) := by decide +kernel
theorem dX13_addWhole_45 : decode cX13_addWhole 45 = .ok (.aload_n 0, 1) := by decide +kernel
theorem dX13_addWhole_46 : decode cX13_addWhole 46 = .ok (.getfield 97, 3) := by decide +kernel
theorem dX13_addWhole_49 : decode cX13_addWhole 49 = .ok (.bipush 6, 2) := by decide +kernel
theorem dX13_addWhole_51 : decode cX13_addWhole 51 = .ok (.aload_n 0, 1) := by decide +kernel
theorem dX13_addWhole_52 : decode cX13_addWhole 52 = .ok (.getfield 307, 3) := by decide +kernel
theorem dX13_addWhole_55 : decode cX13_addWhole 55 = .ok (.imul, 1) := by decide +kernel
theorem dX13_addWhole_56 : decode cX13_addWhole 56 = .ok (.iload_n 2, 1) := by decide +kernel
theorem dX13_addWhole_57 : decode cX13_addWhole 57 = .ok (.iadd, 1) := by decide +kernel
theorem dX13_addWhole_58 : decode cX13_addWhole 58 = .ok (.aload_n 0, 1) := by decide +kernel
theorem dX13_addWhole_59 : decode cX13_addWhole 59 = .ok (.getfield 72, 3) := by decide +kernel
theorem dX13_addWhole_62 : decode cX13_addWhole 62 = .ok (.iload_n 3, 1) := by decide +kernel
theorem dX13_addWhole_63 : decode cX13_addWhole 63 = .ok (.iaload, 1) := by decide +kernel
theorem dX13_addWhole_64 : decode cX13_addWhole 64 = .ok (.iastore, 1) := by decide +kernel
theorem dX13_addWhole_65 : decode cX13_addWhole 65 = .ok (.iinc 2 1, 3) := by decide +kernel
theorem dX13_addWhole_68 : decode cX13_addWhole 68 = .ok (.goto (-51), 3) := by decide +kernel
theorem dX13_addWhole_71 : decode cX13_addWhole 71 = .ok (.iconst 0, 1) := by decide +kernel
theorem dX13_addWhole_72 : decode cX13_addWhole 72 = .ok (.istore_n 2, 1) := by decide +kernel
theorem dX13_addWhole_73 : decode cX13_addWhole 73 = .ok (.iload_n 2, 1) := by decide +kernel
theorem dX13_addWhole_74 : decode cX13_addWhole 74 = .ok (.aload_n 0, 1) := by decide +kernel
theorem dX13_addWhole_75 : decode cX13_addWhole 75 = .ok (.getfield 307, 3) := by decide +kernel
theorem dX13_addWhole_78 : decode cX13_addWhole 78 = .ok (.if_icmp .ge 22, 3) := by decide +kernel
theorem dX13_addWhole_81 : decode cX13_addWhole 81 = .ok (.aload_n 0, 1) := by decide +kernel
theorem dX13_addWhole_82 : decode cX13_addWhole 82 = .ok (.iload_n 2, 1) := by decide +kernel
theorem dX13_addWhole_83 : decode cX13_addWhole 83 = .ok (.aload_n 0, 1) := by decide +kernel
theorem dX13_addWhole_84 : decode cX13_addWhole 84 = .ok (.getfield 307, 3) := by decide +kernel
theorem dX13_addWhole_87 : decode cX13_addWhole 87 = .ok (.invokevirtual 310, 3) := by decide +kernel
theorem dX13_addWhole_90 : decode cX13_addWhole 90 = .ok (.ifCond .eq 4, 3) := by decide +kernel
theorem dX13_addWhole_93 : decode cX13_addWhole 93 = .ok (.return_, 1) := by decide +kernel
theorem dX13_addWhole_94 : decode cX13_addWhole 94 = .ok (.iinc 2 1, 3) := by decide +kernel
theorem dX13_addWhole_97 : decode cX13_addWhole 97 = .ok (.goto (-24), 3) := by decide +kernel
theorem dX13_addWhole_100 : decode cX13_addWhole 100 = .ok (.aload_n 0, 1) := by decide +kernel
theorem dX13_addWhole_101 : decode cX13_addWhole 101 = .ok (.dup, 1) := by decide +kernel
theorem dX13_addWhole_102 : decode cX13_addWhole 102 = .ok (.getfield 307, 3) := by decide +kernel
theorem dX13_addWhole_105 : decode cX13_addWhole 105 = .ok (.iconst 1, 1) := by decide +kernel
theorem dX13_addWhole_106 : decode cX13_addWhole 106 = .ok (.iadd, 1) := by decide +kernel
theorem dX13_addWhole_107 : decode cX13_addWhole 107 = .ok (.putfield 307, 3) := by decide +kernel
theorem dX13_addWhole_110 : decode cX13_addWhole 110 = .ok (.return_, 1) := by decide +kernel
noncomputable def s_X13_addWhole_73  (rec73 : Int32 → jM → Option (Unit × jM)) (l2 : Int32) (σ : jM) : Option (Unit × jM) :=
  (if (rI σ 324 39) ≤ l2 then some ((), wI σ 324 39 ((rI σ 324 39) + 1)) else bd (f_X13_isAlike l2 (rI σ 324 39) σ) (fun r8 σ9 => (if r8 = 0 then rec73 (l2 + 1) σ9 else some ((), σ9))))
noncomputable def f_X13_addWhole_73  (n : Nat) : Int32 → jM → Option (Unit × jM) := Nat.rec (motive := fun _ => Int32 → jM → Option (Unit × jM)) (fun _ _ => none) (fun _ q => s_X13_addWhole_73  q) n
noncomputable def s_X13_addWhole_17  (rec17 : Int32 → Int32 → jM → Option (Unit × jM)) (l1 : Int32) (l2 : Int32) (σ : jM) : Option (Unit × jM) :=
  gd (inb l1 200) ((if (rI σ 328 (Int32.toNatClampNeg l1)) ≤ l2 then f_X13_addWhole_73  Fu 0 σ else gd (inb ((6 * l1) + l2) 1200) ((if (rI σ 329 (Int32.toNatClampNeg ((6 * l1) + l2))) = (-1) then some ((), σ) else gd (inb (rI σ 329 (Int32.toNatClampNeg ((6 * l1) + l2))) 40) (gd (inb ((6 * (rI σ 324 39)) + l2) 1152) (rec17 l1 (l2 + 1) (wI σ 351 (Int32.toNatClampNeg ((6 * (rI σ 324 39)) + l2)) (rI σ 343 (Int32.toNatClampNeg (rI σ 329 (Int32.toNatClampNeg ((6 * l1) + l2))))))))))))
noncomputable def f_X13_addWhole_17  (n : Nat) : Int32 → Int32 → jM → Option (Unit × jM) := Nat.rec (motive := fun _ => Int32 → Int32 → jM → Option (Unit × jM)) (fun _ _ _ => none) (fun _ q => s_X13_addWhole_17  q) n
noncomputable def f_X13_addWhole (a1 : Int32) (σ : jM) : Option (Unit × jM) :=
  gd (inb a1 200) (gd (inb (rI σ 324 39) 192) (f_X13_addWhole_17  Fu a1 0 (wI σ 350 (Int32.toNatClampNeg (rI σ 324 39)) (rI σ 328 (Int32.toNatClampNeg a1)))))
set_option maxRecDepth 20000 in
set_option maxHeartbeats 4000000 in
theorem t_X13_addWhole_73  : ∀ (n : Nat) (l2 : Int32) (σ : jM) (r : Unit × jM), f_X13_addWhole_73  n l2 σ = some r → J mi_X13_addWhole 2 0 0 (jqV r) 73 [(0, .ref 324), (2, .int l2)] [] (ms σ) := by
  intro n
  induction n with
  | zero =>
    intro l2 σ r  h
    have h : (none : Option (Unit × jM)) = some r := h
    cases h
  | succ n ih =>
    intro l2 σ r  h
    have h : s_X13_addWhole_73  (f_X13_addWhole_73  n) l2 σ = some r := h
    unfold s_X13_addWhole_73 at h
    refine J_iload_n 1 dX13_addWhole_73 rfl ?_
    refine J_aload_n 0 dX13_addWhole_74 rfl ?_
    refine M_getI gf_X13_307_12 dX13_addWhole_75 k_324 n_324 ?_
    refine J_icmp_ge (tgt := 100) dX13_addWhole_78 (by decide) (fun c12 => ?_) (fun c12 => ?_)
    · have h := (if_pos c12).symm.trans h
      refine J_aload_n 0 dX13_addWhole_100 rfl ?_
      refine J_dup dX13_addWhole_101 rfl ?_
      refine M_getI gf_X13_307_12 dX13_addWhole_102 k_324 n_324 ?_
      refine J_iconst (v := 1) dX13_addWhole_105 (by decide) ?_
      refine J_iadd dX13_addWhole_106 ?_
      refine M_putI pf_X13_307_12 dX13_addWhole_107 k_324 n_324 ⟨rfl, rfl⟩ ?_
      exact J_ret (v := none) rfl ⟨dX13_addWhole_110, rfl⟩ (jqV_mk h)
    · have h := (if_neg c12).symm.trans h
      refine J_aload_n 0 dX13_addWhole_81 rfl ?_
      refine J_iload_n 1 dX13_addWhole_82 rfl ?_
      refine J_aload_n 0 dX13_addWhole_83 rfl ?_
      refine M_getI gf_X13_307_12 dX13_addWhole_84 k_324 n_324 ?_
      obtain ⟨r13, σ14, h15, h⟩ := bd_inv h
      refine M_callVI (d' := 1) (k := 324) (As := [.int l2, .int (rI σ 324 39)]) (st := []) cv_X13_310 dX13_addWhole_87 rfl (by decide) rfl (Nat.le_of_ble_eq_true rfl) (Nat.le_of_ble_eq_true rfl) (by decide) n_324 k_324 rfl rfl (t_X13_isAlike  h15) ?_
      refine J_if_eq (tgt := 94) dX13_addWhole_90 (by decide) (fun c16 => ?_) (fun c16 => ?_)
      · have h := (if_pos c16).symm.trans h
        refine J_iinc (v := (l2 + 1)) (ls' := [(2, .int (l2 + 1)), (0, .ref 324)]) 1 dX13_addWhole_94 rfl rfl (by decide) rfl ?_
        refine J_goto (tgt := 73) dX13_addWhole_97 (by decide) ?_
        refine J_pick [1, 0] rfl ?_
        exact ih _ _ _  h
      · have h := (if_neg c16).symm.trans h
        exact J_ret (v := none) rfl ⟨dX13_addWhole_93, rfl⟩ (jqV_mk h)
set_option maxRecDepth 20000 in
set_option maxHeartbeats 4000000 in
theorem t_X13_addWhole_17  : ∀ (n : Nat) (l1 : Int32) (l2 : Int32) (σ : jM) (r : Unit × jM), f_X13_addWhole_17  n l1 l2 σ = some r → J mi_X13_addWhole 2 0 0 (jqV r) 17 [(0, .ref 324), (1, .int l1), (2, .int l2)] [] (ms σ) := by
  intro n
  induction n with
  | zero =>
    intro l1 l2 σ r  h
    have h : (none : Option (Unit × jM)) = some r := h
    cases h
  | succ n ih =>
    intro l1 l2 σ r  h
    have h : s_X13_addWhole_17  (f_X13_addWhole_17  n) l1 l2 σ = some r := h
    unfold s_X13_addWhole_17 at h
    refine J_iload_n 2 dX13_addWhole_17 rfl ?_
    refine J_aload_n 0 dX13_addWhole_18 rfl ?_
    refine M_getR gf_X13_23_12 dX13_addWhole_19 (g_324_6 _) k_324 n_324 ?_
    refine J_iload_n 1 dX13_addWhole_22 rfl ?_
    obtain ⟨g23, h⟩ := gd_inv h
    refine M_iald dX13_addWhole_23 a_328 n_328 g23 ?_
    refine J_icmp_ge (tgt := 71) dX13_addWhole_24 (by decide) (fun c24 => ?_) (fun c24 => ?_)
    · have h := (if_pos c24).symm.trans h
      refine J_iconst (v := 0) dX13_addWhole_71 (by decide) ?_
      refine J_istore_n (i := 2) (ls' := [(2, .int 0), (0, .ref 324), (1, .int l1)]) dX13_addWhole_72 rfl (by decide) rfl ?_
      refine J_pick [1, 0] rfl ?_
      exact t_X13_addWhole_73  _ _ _ _  h
    · have h := (if_neg c24).symm.trans h
      refine J_aload_n 0 dX13_addWhole_27 rfl ?_
      refine M_getR gf_X13_26_12 dX13_addWhole_28 (g_324_7 _) k_324 n_324 ?_
      refine J_bipush (v := 6) dX13_addWhole_31 (by decide) ?_
      refine J_iload_n 1 dX13_addWhole_33 rfl ?_
      refine J_imul dX13_addWhole_34 ?_
      refine J_iload_n 2 dX13_addWhole_35 rfl ?_
      refine J_iadd dX13_addWhole_36 ?_
      obtain ⟨g25, h⟩ := gd_inv h
      refine M_iald dX13_addWhole_37 a_329 n_329 g25 ?_
      refine J_istore_n (i := 3) (ls' := [(3, .int (rI σ 329 (Int32.toNatClampNeg ((6 * l1) + l2)))), (0, .ref 324), (1, .int l1), (2, .int l2)]) dX13_addWhole_38 rfl (by decide) rfl ?_
      refine J_iload_n 0 dX13_addWhole_39 rfl ?_
      refine J_iconst (v := (-1)) dX13_addWhole_40 (by decide) ?_
      refine J_icmp_ne (tgt := 45) dX13_addWhole_41 (by decide) (fun c26 => ?_) (fun c26 => ?_)
      · have h := (if_neg c26).symm.trans h
        refine J_aload_n 1 dX13_addWhole_45 rfl ?_
        refine M_getR gf_X13_97_12 dX13_addWhole_46 (g_324_41 _) k_324 n_324 ?_
        refine J_bipush (v := 6) dX13_addWhole_49 (by decide) ?_
        refine J_aload_n 1 dX13_addWhole_51 rfl ?_
        refine M_getI gf_X13_307_12 dX13_addWhole_52 k_324 n_324 ?_
        refine J_imul dX13_addWhole_55 ?_
        refine J_iload_n 3 dX13_addWhole_56 rfl ?_
        refine J_iadd dX13_addWhole_57 ?_
        refine J_aload_n 1 dX13_addWhole_58 rfl ?_
        refine M_getR gf_X13_72_12 dX13_addWhole_59 (g_324_31 _) k_324 n_324 ?_
        refine J_iload_n 0 dX13_addWhole_62 rfl ?_
        obtain ⟨g27, h⟩ := gd_inv h
        refine M_iald dX13_addWhole_63 a_343 n_343 g27 ?_
        obtain ⟨g28, h⟩ := gd_inv h
        refine M_iast dX13_addWhole_64 a_351 n_351 g28 ?_
        refine J_iinc (v := (l2 + 1)) (ls' := [(2, .int (l2 + 1)), (3, .int (rI σ 329 (Int32.toNatClampNeg ((6 * l1) + l2)))), (0, .ref 324), (1, .int l1)]) 3 dX13_addWhole_65 rfl rfl (by decide) rfl ?_
        refine J_goto (tgt := 17) dX13_addWhole_68 (by decide) ?_
        refine J_pick [2, 3, 0] rfl ?_
        exact ih _ _ _ _  h
      · have h := (if_pos c26).symm.trans h
        exact J_ret (v := none) rfl ⟨dX13_addWhole_44, rfl⟩ (jqV_mk h)
set_option maxRecDepth 20000 in
set_option maxHeartbeats 4000000 in
theorem t_X13_addWhole {a1 : Int32} {σ : jM} {r : Unit × jM}  (h : f_X13_addWhole a1 σ = some r) : J mi_X13_addWhole 2 0 0 (jqV r) 0 [(0, .ref 324), (1, .int a1)] [] (ms σ) := by
  unfold f_X13_addWhole at h
  refine J_aload_n 0 dX13_addWhole_0 rfl ?_
  refine M_getR gf_X13_94_12 dX13_addWhole_1 (g_324_40 _) k_324 n_324 ?_
  refine J_aload_n 0 dX13_addWhole_4 rfl ?_
  refine M_getI gf_X13_307_12 dX13_addWhole_5 k_324 n_324 ?_
  refine J_aload_n 0 dX13_addWhole_8 rfl ?_
  refine M_getR gf_X13_23_12 dX13_addWhole_9 (g_324_6 _) k_324 n_324 ?_
  refine J_iload_n 1 dX13_addWhole_12 rfl ?_
  obtain ⟨g29, h⟩ := gd_inv h
  refine M_iald dX13_addWhole_13 a_328 n_328 g29 ?_
  obtain ⟨g30, h⟩ := gd_inv h
  refine M_iast dX13_addWhole_14 a_350 n_350 g30 ?_
  refine J_iconst (v := 0) dX13_addWhole_15 (by decide) ?_
  refine J_istore_n (i := 2) (ls' := [(2, .int 0), (0, .ref 324), (1, .int a1)]) dX13_addWhole_16 rfl (by decide) rfl ?_
  refine J_pick [1, 2, 0] rfl ?_
  exact t_X13_addWhole_17  _ _ _ _ _  h
theorem dX13_findWholes_0 : decode cX13_findWholes 0 = .ok (.aload_n 0, 1) := by decide +kernel
theorem dX13_findWholes_1 : decode cX13_findWholes 1 = .ok (.iconst 0, 1) := by decide +kernel
theorem dX13_findWholes_2 : decode cX13_findWholes 2 = .ok (.putfield 307, 3) := by decide +kernel
theorem dX13_findWholes_5 : decode cX13_findWholes 5 = .ok (.iconst 0, 1) := by decide +kernel
theorem dX13_findWholes_6 : decode cX13_findWholes 6 = .ok (.istore_n 2, 1) := by decide +kernel
theorem dX13_findWholes_7 : decode cX13_findWholes 7 = .ok (.iload_n 2, 1) := by decide +kernel
theorem dX13_findWholes_8 : decode cX13_findWholes 8 = .ok (.aload_n 0, 1) := by decide +kernel
theorem dX13_findWholes_9 : decode cX13_findWholes 9 = .ok (.getfield 243, 3) := by decide +kernel
theorem dX13_findWholes_12 : decode cX13_findWholes 12 = .ok (.if_icmp .ge 46, 3) := by decide +kernel
theorem dX13_findWholes_15 : decode cX13_findWholes 15 = .ok (.iconst 0, 1) := by decide +kernel
theorem dX13_findWholes_16 : decode cX13_findWholes 16 = .ok (.istore_n 3, 1) := by decide +kernel
theorem dX13_findWholes_17 : decode cX13_findWholes 17 = .ok (.iload_n 3, 1) := by decide +kernel
theorem dX13_findWholes_18 : decode cX13_findWholes 18 = .ok (.aload_n 0, 1) := by decide +kernel
theorem dX13_findWholes_19 : decode cX13_findWholes 19 = .ok (.getfield 20, 3) := by decide +kernel
theorem dX13_findWholes_22 : decode cX13_findWholes 22 = .ok (.iload_n 2, 1) := by decide +kernel
theorem dX13_findWholes_23 : decode cX13_findWholes 23 = .ok (.iaload, 1) := by decide +kernel
theorem dX13_findWholes_24 : decode cX13_findWholes 24 = .ok (.if_icmp .ge 28, 3) := by decide +kernel
theorem dX13_findWholes_27 : decode cX13_findWholes 27 = .ok (.aload_n 0, 1) := by decide +kernel
theorem dX13_findWholes_28 : decode cX13_findWholes 28 = .ok (.iload_n 2, 1) := by decide +kernel
theorem dX13_findWholes_29 : decode cX13_findWholes 29 = .ok (.iload_n 1, 1) := by decide +kernel
theorem dX13_findWholes_30 : decode cX13_findWholes 30 = .ok (.invokevirtual 314, 3) := by decide +kernel
theorem dX13_findWholes_33 : decode cX13_findWholes 33 = .ok (.ifCond .eq 19, 3) := by decide +kernel
theorem dX13_findWholes_36 : decode cX13_findWholes 36 = .ok (.aload_n 0, 1) := by decide +kernel
theorem dX13_findWholes_37 : decode cX13_findWholes 37 = .ok (.bipush 8, 2) := by decide +kernel
theorem dX13_findWholes_39 : decode cX13_findWholes 39 = .ok (.iload_n 2, 1) := by decide +kernel
theorem dX13_findWholes_40 : decode cX13_findWholes 40 = .ok (.imul, 1) := by decide +kernel
theorem dX13_findWholes_41 : decode cX13_findWholes 41 = .ok (.iload_n 3, 1) := by decide +kernel
theorem dX13_findWholes_42 : decode cX13_findWholes 42 = .ok (.iadd, 1) := by decide +kernel
theorem dX13_findWholes_43 : decode cX13_findWholes 43 = .ok (.invokevirtual 317, 3) := by decide +kernel
theorem dX13_findWholes_46 : decode cX13_findWholes 46 = .ok (.iinc 3 1, 3) := by decide +kernel
theorem dX13_findWholes_49 : decode cX13_findWholes 49 = .ok (.goto (-32), 3) := by decide +kernel
theorem dX13_findWholes_52 : decode cX13_findWholes 52 = .ok (.iinc 2 1, 3) := by decide +kernel
theorem dX13_findWholes_55 : decode cX13_findWholes 55 = .ok (.goto (-48), 3) := by decide +kernel
theorem dX13_findWholes_58 : decode cX13_findWholes 58 = .ok (.return_, 1) := by decide +kernel
noncomputable def f_X13_findWholes_52 (rec7 : Int32 → Int32 → jM → Option (Unit × jM)) (l1 : Int32) (l2 : Int32) (σ : jM) : Option (Unit × jM) :=
  rec7 l1 (l2 + 1) σ
noncomputable def s_X13_findWholes_17 (rec7 : Int32 → Int32 → jM → Option (Unit × jM)) (rec17 : Int32 → Int32 → Int32 → jM → Option (Unit × jM)) (l1 : Int32) (l2 : Int32) (l3 : Int32) (σ : jM) : Option (Unit × jM) :=
  gd (inb l2 25) ((if (rI σ 327 (Int32.toNatClampNeg l2)) ≤ l3 then f_X13_findWholes_52 rec7 l1 l2 σ else bd (f_X13_tabletCounts l2 l1 σ) (fun r4 σ5 => (if r4 = 0 then f_X13_findWholes_52 rec7 l1 l2 σ5 else bd (f_X13_addWhole ((8 * l2) + l3) σ5) (fun _ σ9 => rec17 l1 l2 (l3 + 1) σ9)))))
noncomputable def f_X13_findWholes_17 (rec7 : Int32 → Int32 → jM → Option (Unit × jM)) (n : Nat) : Int32 → Int32 → Int32 → jM → Option (Unit × jM) := Nat.rec (motive := fun _ => Int32 → Int32 → Int32 → jM → Option (Unit × jM)) (fun _ _ _ _ => none) (fun _ q => s_X13_findWholes_17 rec7 q) n
noncomputable def s_X13_findWholes_7  (rec7 : Int32 → Int32 → jM → Option (Unit × jM)) (l1 : Int32) (l2 : Int32) (σ : jM) : Option (Unit × jM) :=
  (if (rI σ 324 2) ≤ l2 then some ((), σ) else f_X13_findWholes_17 rec7 Fu l1 l2 0 σ)
noncomputable def f_X13_findWholes_7  (n : Nat) : Int32 → Int32 → jM → Option (Unit × jM) := Nat.rec (motive := fun _ => Int32 → Int32 → jM → Option (Unit × jM)) (fun _ _ _ => none) (fun _ q => s_X13_findWholes_7  q) n
noncomputable def f_X13_findWholes (a1 : Int32) (σ : jM) : Option (Unit × jM) :=
  f_X13_findWholes_7  Fu a1 0 (wI σ 324 39 0)
set_option maxRecDepth 20000 in
set_option maxHeartbeats 4000000 in
theorem t_X13_findWholes_52 {rec7 : Int32 → Int32 → jM → Option (Unit × jM)} (hrec7 : ∀ (l1 : Int32) (l2 : Int32) (σ : jM) (r : Unit × jM), rec7 l1 l2 σ = some r → J mi_X13_findWholes 3 0 0 (jqV r) 7 [(0, .ref 324), (1, .int l1), (2, .int l2)] [] (ms σ)) (l1 : Int32) (l2 : Int32) (σ : jM) (r : Unit × jM)  (h : f_X13_findWholes_52 rec7 l1 l2 σ = some r) : J mi_X13_findWholes 3 0 0 (jqV r) 52 [(0, .ref 324), (1, .int l1), (2, .int l2)] [] (ms σ) := by
  unfold f_X13_findWholes_52 at h
  refine J_iinc (v := (l2 + 1)) (ls' := [(2, .int (l2 + 1)), (0, .ref 324), (1, .int l1)]) 2 dX13_findWholes_52 rfl rfl (by decide) rfl ?_
  refine J_goto (tgt := 7) dX13_findWholes_55 (by decide) ?_
  refine J_pick [1, 2, 0] rfl ?_
  exact hrec7 _ _ _ _  h
set_option maxRecDepth 20000 in
set_option maxHeartbeats 4000000 in
theorem t_X13_findWholes_17 {rec7 : Int32 → Int32 → jM → Option (Unit × jM)} (hrec7 : ∀ (l1 : Int32) (l2 : Int32) (σ : jM) (r : Unit × jM), rec7 l1 l2 σ = some r → J mi_X13_findWholes 3 0 0 (jqV r) 7 [(0, .ref 324), (1, .int l1), (2, .int l2)] [] (ms σ)) : ∀ (n : Nat) (l1 : Int32) (l2 : Int32) (l3 : Int32) (σ : jM) (r : Unit × jM), f_X13_findWholes_17 rec7 n l1 l2 l3 σ = some r → J mi_X13_findWholes 3 0 0 (jqV r) 17 [(0, .ref 324), (1, .int l1), (2, .int l2), (3, .int l3)] [] (ms σ) := by
  intro n
  induction n with
  | zero =>
    intro l1 l2 l3 σ r  h
    have h : (none : Option (Unit × jM)) = some r := h
    cases h
  | succ n ih =>
    intro l1 l2 l3 σ r  h
    have h : s_X13_findWholes_17 rec7 (f_X13_findWholes_17 rec7 n) l1 l2 l3 σ = some r := h
    unfold s_X13_findWholes_17 at h
    refine J_iload_n 3 dX13_findWholes_17 rfl ?_
    refine J_aload_n 0 dX13_findWholes_18 rfl ?_
    refine M_getR gf_X13_20_12 dX13_findWholes_19 (g_324_5 _) k_324 n_324 ?_
    refine J_iload_n 2 dX13_findWholes_22 rfl ?_
    obtain ⟨g11, h⟩ := gd_inv h
    refine M_iald dX13_findWholes_23 a_327 n_327 g11 ?_
    refine J_icmp_ge (tgt := 52) dX13_findWholes_24 (by decide) (fun c12 => ?_) (fun c12 => ?_)
    · have h := (if_pos c12).symm.trans h
      refine J_pick [0, 1, 2] rfl ?_
      exact t_X13_findWholes_52 hrec7 _ _ _ _  h
    · have h := (if_neg c12).symm.trans h
      refine J_aload_n 0 dX13_findWholes_27 rfl ?_
      refine J_iload_n 2 dX13_findWholes_28 rfl ?_
      refine J_iload_n 1 dX13_findWholes_29 rfl ?_
      obtain ⟨r13, σ14, h15, h⟩ := bd_inv h
      refine M_callVI (d' := 2) (k := 324) (As := [.int l2, .int l1]) (st := []) cv_X13_314 dX13_findWholes_30 rfl (by decide) rfl (Nat.le_of_ble_eq_true rfl) (Nat.le_of_ble_eq_true rfl) (by decide) n_324 k_324 rfl rfl (t_X13_tabletCounts  h15) ?_
      refine J_if_eq (tgt := 52) dX13_findWholes_33 (by decide) (fun c16 => ?_) (fun c16 => ?_)
      · have h := (if_pos c16).symm.trans h
        refine J_pick [0, 1, 2] rfl ?_
        exact t_X13_findWholes_52 hrec7 _ _ _ _  h
      · have h := (if_neg c16).symm.trans h
        refine J_aload_n 0 dX13_findWholes_36 rfl ?_
        refine J_bipush (v := 8) dX13_findWholes_37 (by decide) ?_
        refine J_iload_n 2 dX13_findWholes_39 rfl ?_
        refine J_imul dX13_findWholes_40 ?_
        refine J_iload_n 3 dX13_findWholes_41 rfl ?_
        refine J_iadd dX13_findWholes_42 ?_
        obtain ⟨_, σ18, h19, h⟩ := bd_inv h
        refine M_callVV (d' := 2) (k := 324) (As := [.int ((8 * l2) + l3)]) (st := []) cv_X13_317 dX13_findWholes_43 rfl (by decide) rfl (Nat.le_of_ble_eq_true rfl) (Nat.le_of_ble_eq_true rfl) (by decide) n_324 k_324 rfl rfl (t_X13_addWhole  h19) ?_
        refine J_iinc (v := (l3 + 1)) (ls' := [(3, .int (l3 + 1)), (0, .ref 324), (1, .int l1), (2, .int l2)]) 3 dX13_findWholes_46 rfl rfl (by decide) rfl ?_
        refine J_goto (tgt := 17) dX13_findWholes_49 (by decide) ?_
        refine J_pick [1, 2, 3, 0] rfl ?_
        exact ih _ _ _ _ _  h
set_option maxRecDepth 20000 in
set_option maxHeartbeats 4000000 in
theorem t_X13_findWholes_7  : ∀ (n : Nat) (l1 : Int32) (l2 : Int32) (σ : jM) (r : Unit × jM), f_X13_findWholes_7  n l1 l2 σ = some r → J mi_X13_findWholes 3 0 0 (jqV r) 7 [(0, .ref 324), (1, .int l1), (2, .int l2)] [] (ms σ) := by
  intro n
  induction n with
  | zero =>
    intro l1 l2 σ r  h
    have h : (none : Option (Unit × jM)) = some r := h
    cases h
  | succ n ih =>
    intro l1 l2 σ r  h
    have h : s_X13_findWholes_7  (f_X13_findWholes_7  n) l1 l2 σ = some r := h
    unfold s_X13_findWholes_7 at h
    refine J_iload_n 2 dX13_findWholes_7 rfl ?_
    refine J_aload_n 0 dX13_findWholes_8 rfl ?_
    refine M_getI gf_X13_243_12 dX13_findWholes_9 k_324 n_324 ?_
    refine J_icmp_ge (tgt := 58) dX13_findWholes_12 (by decide) (fun c21 => ?_) (fun c21 => ?_)
    · have h := (if_pos c21).symm.trans h
      exact J_ret (v := none) rfl ⟨dX13_findWholes_58, rfl⟩ (jqV_mk h)
    · have h := (if_neg c21).symm.trans h
      refine J_iconst (v := 0) dX13_findWholes_15 (by decide) ?_
      refine J_istore_n (i := 3) (ls' := [(3, .int 0), (0, .ref 324), (1, .int l1), (2, .int l2)]) dX13_findWholes_16 rfl (by decide) rfl ?_
      refine J_pick [1, 2, 3, 0] rfl ?_
      exact t_X13_findWholes_17 ih _ _ _ _ _ _  h
set_option maxRecDepth 20000 in
set_option maxHeartbeats 4000000 in
theorem t_X13_findWholes {a1 : Int32} {σ : jM} {r : Unit × jM}  (h : f_X13_findWholes a1 σ = some r) : J mi_X13_findWholes 3 0 0 (jqV r) 0 [(0, .ref 324), (1, .int a1)] [] (ms σ) := by
  unfold f_X13_findWholes at h
  refine J_aload_n 0 dX13_findWholes_0 rfl ?_
  refine J_iconst (v := 0) dX13_findWholes_1 (by decide) ?_
  refine M_putI pf_X13_307_12 dX13_findWholes_2 k_324 n_324 ⟨rfl, rfl⟩ ?_
  refine J_iconst (v := 0) dX13_findWholes_5 (by decide) ?_
  refine J_istore_n (i := 2) (ls' := [(2, .int 0), (0, .ref 324), (1, .int a1)]) dX13_findWholes_6 rfl (by decide) rfl ?_
  refine J_pick [1, 2, 0] rfl ?_
  exact t_X13_findWholes_7  _ _ _ _ _  h
theorem dX13_unlikeAt_0 : decode cX13_unlikeAt 0 = .ok (.aload_n 0, 1) := by decide +kernel
theorem dX13_unlikeAt_1 : decode cX13_unlikeAt 1 = .ok (.getfield 94, 3) := by decide +kernel
theorem dX13_unlikeAt_4 : decode cX13_unlikeAt 4 = .ok (.iload_n 1, 1) := by decide +kernel
theorem dX13_unlikeAt_5 : decode cX13_unlikeAt 5 = .ok (.iaload, 1) := by decide +kernel
theorem dX13_unlikeAt_6 : decode cX13_unlikeAt 6 = .ok (.aload_n 0, 1) := by decide +kernel
theorem dX13_unlikeAt_7 : decode cX13_unlikeAt 7 = .ok (.getfield 94, 3) := by decide +kernel
theorem dX13_unlikeAt_10 : decode cX13_unlikeAt 10 = .ok (.iload_n 2, 1) := by decide +kernel
theorem dX13_unlikeAt_11 : decode cX13_unlikeAt 11 = .ok (.iaload, 1) := by decide +kernel
theorem dX13_unlikeAt_12 : decode cX13_unlikeAt 12 = .ok (.if_icmp .eq 5, 3) := by decide +kernel
theorem dX13_unlikeAt_15 : decode cX13_unlikeAt 15 = .ok (.iconst (-1), 1) := by decide +kernel
theorem dX13_unlikeAt_16 : decode cX13_unlikeAt 16 = .ok (.ireturn, 1) := by decide +kernel
theorem dX13_unlikeAt_17 : decode cX13_unlikeAt 17 = .ok (.iconst (-1), 1) := by decide +kernel
theorem dX13_unlikeAt_18 : decode cX13_unlikeAt 18 = .ok (.istore_n 3, 1) := by decide +kernel
theorem dX13_unlikeAt_19 : decode cX13_unlikeAt 19 = .ok (.iconst 0, 1) := by decide +kernel
theorem dX13_unlikeAt_20 : decode cX13_unlikeAt 20 = .ok (.istore 4, 2) := by decide +kernel
theorem dX13_unlikeAt_22 : decode cX13_unlikeAt 22 = .ok (.iload 4, 2) := by decide +kernel
theorem dX13_unlikeAt_24 : decode cX13_unlikeAt 24 = .ok (.aload_n 0, 1) := by decide +kernel
theorem dX13_unlikeAt_25 : decode cX13_unlikeAt 25 = .ok (.getfield 94, 3) := by decide +kernel
theorem dX13_unlikeAt_28 : decode cX13_unlikeAt 28 = .ok (.iload_n 1, 1) := by decide +kernel
theorem dX13_unlikeAt_29 : decode cX13_unlikeAt 29 = .ok (.iaload, 1) := by decide +kernel
theorem dX13_unlikeAt_30 : decode cX13_unlikeAt 30 = .ok (.if_icmp .ge 49, 3) := by decide +kernel
theorem dX13_unlikeAt_33 : decode cX13_unlikeAt 33 = .ok (.aload_n 0, 1) := by decide +kernel
theorem dX13_unlikeAt_34 : decode cX13_unlikeAt 34 = .ok (.getfield 97, 3) := by decide +kernel
theorem dX13_unlikeAt_37 : decode cX13_unlikeAt 37 = .ok (.bipush 6, 2) := by decide +kernel
theorem dX13_unlikeAt_39 : decode cX13_unlikeAt 39 = .ok (.iload_n 1, 1) := by decide +kernel
theorem dX13_unlikeAt_40 : decode cX13_unlikeAt 40 = .ok (.imul, 1) := by decide +kernel
theorem dX13_unlikeAt_41 : decode cX13_unlikeAt 41 = .ok (.iload 4, 2) := by decide +kernel
theorem dX13_unlikeAt_43 : decode cX13_unlikeAt 43 = .ok (.iadd, 1) := by decide +kernel
theorem dX13_unlikeAt_44 : decode cX13_unlikeAt 44 = .ok (.iaload, 1) := by decide +kernel
theorem dX13_unlikeAt_45 : decode cX13_unlikeAt 45 = .ok (.aload_n 0, 1) := by decide +kernel
theorem dX13_unlikeAt_46 : decode cX13_unlikeAt 46 = .ok (.getfield 97, 3) := by decide +kernel
theorem dX13_unlikeAt_49 : decode cX13_unlikeAt 49 = .ok (.bipush 6, 2) := by decide +kernel
theorem dX13_unlikeAt_51 : decode cX13_unlikeAt 51 = .ok (.iload_n 2, 1) := by decide +kernel
theorem dX13_unlikeAt_52 : decode cX13_unlikeAt 52 = .ok (.imul, 1) := by decide +kernel
theorem dX13_unlikeAt_53 : decode cX13_unlikeAt 53 = .ok (.iload 4, 2) := by decide +kernel
theorem dX13_unlikeAt_55 : decode cX13_unlikeAt 55 = .ok (.iadd, 1) := by decide +kernel
theorem dX13_unlikeAt_56 : decode cX13_unlikeAt 56 = .ok (.iaload, 1) := by decide +kernel
theorem dX13_unlikeAt_57 : decode cX13_unlikeAt 57 = .ok (.if_icmp .ne 6, 3) := by decide +kernel
theorem dX13_unlikeAt_60 : decode cX13_unlikeAt 60 = .ok (.goto 13, 3) := by decide +kernel
theorem dX13_unlikeAt_63 : decode cX13_unlikeAt 63 = .ok (.iload_n 3, 1) := by decide +kernel
theorem dX13_unlikeAt_64 : decode cX13_unlikeAt 64 = .ok (.iconst (-1), 1) := by decide +kernel
theorem dX13_unlikeAt_65 : decode cX13_unlikeAt 65 = .ok (.if_icmp .eq 5, 3) := by decide +kernel
theorem dX13_unlikeAt_68 : decode cX13_unlikeAt 68 = .ok (.iconst (-1), 1) := by decide +kernel
theorem dX13_unlikeAt_69 : decode cX13_unlikeAt 69 = .ok (.ireturn, 1) := by decide +kernel
theorem dX13_unlikeAt_70 : decode cX13_unlikeAt 70 = .ok (.iload 4, 2) := by decide +kernel
theorem dX13_unlikeAt_72 : decode cX13_unlikeAt 72 = .ok (.istore_n 3, 1) := by decide +kernel
theorem dX13_unlikeAt_73 : decode cX13_unlikeAt 73 = .ok (.iinc 4 1, 3) := by decide +kernel
theorem dX13_unlikeAt_76 : decode cX13_unlikeAt 76 = .ok (.goto (-54), 3) := by decide +kernel
theorem dX13_unlikeAt_79 : decode cX13_unlikeAt 79 = .ok (.iload_n 3, 1) := by decide +kernel
theorem dX13_unlikeAt_80 : decode cX13_unlikeAt 80 = .ok (.ireturn, 1) := by decide +kernel
noncomputable def f_X13_unlikeAt_73 (rec22 : Int32 → Int32 → Int32 → Int32 → jM → Option (Int32 × jM)) (l1 : Int32) (l2 : Int32) (l3 : Int32) (l4 : Int32) (σ : jM) : Option (Int32 × jM) :=
  rec22 l1 l2 l3 (l4 + 1) σ
noncomputable def s_X13_unlikeAt_22  (rec22 : Int32 → Int32 → Int32 → Int32 → jM → Option (Int32 × jM)) (l1 : Int32) (l2 : Int32) (l3 : Int32) (l4 : Int32) (σ : jM) : Option (Int32 × jM) :=
  gd (inb l1 192) ((if (rI σ 350 (Int32.toNatClampNeg l1)) ≤ l4 then some (l3, σ) else gd (inb ((6 * l1) + l4) 1152) (gd (inb ((6 * l2) + l4) 1152) ((if (rI σ 351 (Int32.toNatClampNeg ((6 * l1) + l4))) = (rI σ 351 (Int32.toNatClampNeg ((6 * l2) + l4))) then f_X13_unlikeAt_73 rec22 l1 l2 l3 l4 σ else (if l3 = (-1) then f_X13_unlikeAt_73 rec22 l1 l2 l4 l4 σ else some ((-1), σ)))))))
noncomputable def f_X13_unlikeAt_22  (n : Nat) : Int32 → Int32 → Int32 → Int32 → jM → Option (Int32 × jM) := Nat.rec (motive := fun _ => Int32 → Int32 → Int32 → Int32 → jM → Option (Int32 × jM)) (fun _ _ _ _ _ => none) (fun _ q => s_X13_unlikeAt_22  q) n
noncomputable def f_X13_unlikeAt (a1 : Int32) (a2 : Int32) (σ : jM) : Option (Int32 × jM) :=
  gd (inb a1 192) (gd (inb a2 192) ((if (rI σ 350 (Int32.toNatClampNeg a1)) = (rI σ 350 (Int32.toNatClampNeg a2)) then f_X13_unlikeAt_22  Fu a1 a2 (-1) 0 σ else some ((-1), σ))))
set_option maxRecDepth 20000 in
set_option maxHeartbeats 4000000 in
theorem t_X13_unlikeAt_73 {rec22 : Int32 → Int32 → Int32 → Int32 → jM → Option (Int32 × jM)} (hrec22 : ∀ (l1 : Int32) (l2 : Int32) (l3 : Int32) (l4 : Int32) (σ : jM) (r : Int32 × jM), rec22 l1 l2 l3 l4 σ = some r → J mi_X13_unlikeAt 1 0 0 (jqI r) 22 [(0, .ref 324), (1, .int l1), (2, .int l2), (3, .int l3), (4, .int l4)] [] (ms σ)) (l1 : Int32) (l2 : Int32) (l3 : Int32) (l4 : Int32) (σ : jM) (r : Int32 × jM)  (h : f_X13_unlikeAt_73 rec22 l1 l2 l3 l4 σ = some r) : J mi_X13_unlikeAt 1 0 0 (jqI r) 73 [(0, .ref 324), (1, .int l1), (2, .int l2), (3, .int l3), (4, .int l4)] [] (ms σ) := by
  unfold f_X13_unlikeAt_73 at h
  refine J_iinc (v := (l4 + 1)) (ls' := [(4, .int (l4 + 1)), (0, .ref 324), (1, .int l1), (2, .int l2), (3, .int l3)]) 4 dX13_unlikeAt_73 rfl rfl (by decide) rfl ?_
  refine J_goto (tgt := 22) dX13_unlikeAt_76 (by decide) ?_
  refine J_pick [1, 2, 3, 4, 0] rfl ?_
  exact hrec22 _ _ _ _ _ _  h
set_option maxRecDepth 20000 in
set_option maxHeartbeats 4000000 in
theorem t_X13_unlikeAt_22  : ∀ (n : Nat) (l1 : Int32) (l2 : Int32) (l3 : Int32) (l4 : Int32) (σ : jM) (r : Int32 × jM), f_X13_unlikeAt_22  n l1 l2 l3 l4 σ = some r → J mi_X13_unlikeAt 1 0 0 (jqI r) 22 [(0, .ref 324), (1, .int l1), (2, .int l2), (3, .int l3), (4, .int l4)] [] (ms σ) := by
  intro n
  induction n with
  | zero =>
    intro l1 l2 l3 l4 σ r  h
    have h : (none : Option (Int32 × jM)) = some r := h
    cases h
  | succ n ih =>
    intro l1 l2 l3 l4 σ r  h
    have h : s_X13_unlikeAt_22  (f_X13_unlikeAt_22  n) l1 l2 l3 l4 σ = some r := h
    unfold s_X13_unlikeAt_22 at h
    refine J_iload 4 dX13_unlikeAt_22 rfl ?_
    refine J_aload_n 0 dX13_unlikeAt_24 rfl ?_
    refine M_getR gf_X13_94_12 dX13_unlikeAt_25 (g_324_40 _) k_324 n_324 ?_
    refine J_iload_n 1 dX13_unlikeAt_28 rfl ?_
    obtain ⟨g12, h⟩ := gd_inv h
    refine M_iald dX13_unlikeAt_29 a_350 n_350 g12 ?_
    refine J_icmp_ge (tgt := 79) dX13_unlikeAt_30 (by decide) (fun c13 => ?_) (fun c13 => ?_)
    · have h := (if_pos c13).symm.trans h
      refine J_iload_n 3 dX13_unlikeAt_79 rfl ?_
      exact J_ret (v := some (.int l3)) rfl ⟨dX13_unlikeAt_80, Or.inl rfl⟩ (jqI_mk h)
    · have h := (if_neg c13).symm.trans h
      refine J_aload_n 0 dX13_unlikeAt_33 rfl ?_
      refine M_getR gf_X13_97_12 dX13_unlikeAt_34 (g_324_41 _) k_324 n_324 ?_
      refine J_bipush (v := 6) dX13_unlikeAt_37 (by decide) ?_
      refine J_iload_n 1 dX13_unlikeAt_39 rfl ?_
      refine J_imul dX13_unlikeAt_40 ?_
      refine J_iload 4 dX13_unlikeAt_41 rfl ?_
      refine J_iadd dX13_unlikeAt_43 ?_
      obtain ⟨g14, h⟩ := gd_inv h
      refine M_iald dX13_unlikeAt_44 a_351 n_351 g14 ?_
      refine J_aload_n 0 dX13_unlikeAt_45 rfl ?_
      refine M_getR gf_X13_97_12 dX13_unlikeAt_46 (g_324_41 _) k_324 n_324 ?_
      refine J_bipush (v := 6) dX13_unlikeAt_49 (by decide) ?_
      refine J_iload_n 2 dX13_unlikeAt_51 rfl ?_
      refine J_imul dX13_unlikeAt_52 ?_
      refine J_iload 4 dX13_unlikeAt_53 rfl ?_
      refine J_iadd dX13_unlikeAt_55 ?_
      obtain ⟨g15, h⟩ := gd_inv h
      refine M_iald dX13_unlikeAt_56 a_351 n_351 g15 ?_
      refine J_icmp_ne (tgt := 63) dX13_unlikeAt_57 (by decide) (fun c16 => ?_) (fun c16 => ?_)
      · have h := (if_neg c16).symm.trans h
        refine J_iload_n 3 dX13_unlikeAt_63 rfl ?_
        refine J_iconst (v := (-1)) dX13_unlikeAt_64 (by decide) ?_
        refine J_icmp_eq (tgt := 70) dX13_unlikeAt_65 (by decide) (fun c17 => ?_) (fun c17 => ?_)
        · have h := (if_pos c17).symm.trans h
          refine J_iload 4 dX13_unlikeAt_70 rfl ?_
          refine J_istore_n (i := 3) (ls' := [(3, .int l4), (0, .ref 324), (1, .int l1), (2, .int l2), (4, .int l4)]) dX13_unlikeAt_72 rfl (by decide) rfl ?_
          refine J_pick [1, 2, 3, 0, 4] rfl ?_
          exact t_X13_unlikeAt_73 ih _ _ _ _ _ _  h
        · have h := (if_neg c17).symm.trans h
          refine J_iconst (v := (-1)) dX13_unlikeAt_68 (by decide) ?_
          exact J_ret (v := some (.int (-1))) rfl ⟨dX13_unlikeAt_69, Or.inl rfl⟩ (jqI_mk h)
      · have h := (if_pos c16).symm.trans h
        refine J_goto (tgt := 73) dX13_unlikeAt_60 (by decide) ?_
        exact t_X13_unlikeAt_73 ih _ _ _ _ _ _  h
set_option maxRecDepth 20000 in
set_option maxHeartbeats 4000000 in
theorem t_X13_unlikeAt {a1 : Int32} {a2 : Int32} {σ : jM} {r : Int32 × jM}  (h : f_X13_unlikeAt a1 a2 σ = some r) : J mi_X13_unlikeAt 1 0 0 (jqI r) 0 [(0, .ref 324), (1, .int a1), (2, .int a2)] [] (ms σ) := by
  unfold f_X13_unlikeAt at h
  refine J_aload_n 0 dX13_unlikeAt_0 rfl ?_
  refine M_getR gf_X13_94_12 dX13_unlikeAt_1 (g_324_40 _) k_324 n_324 ?_
  refine J_iload_n 1 dX13_unlikeAt_4 rfl ?_
  obtain ⟨g18, h⟩ := gd_inv h
  refine M_iald dX13_unlikeAt_5 a_350 n_350 g18 ?_
  refine J_aload_n 0 dX13_unlikeAt_6 rfl ?_
  refine M_getR gf_X13_94_12 dX13_unlikeAt_7 (g_324_40 _) k_324 n_324 ?_
  refine J_iload_n 2 dX13_unlikeAt_10 rfl ?_
  obtain ⟨g19, h⟩ := gd_inv h
  refine M_iald dX13_unlikeAt_11 a_350 n_350 g19 ?_
  refine J_icmp_eq (tgt := 17) dX13_unlikeAt_12 (by decide) (fun c20 => ?_) (fun c20 => ?_)
  · have h := (if_pos c20).symm.trans h
    refine J_iconst (v := (-1)) dX13_unlikeAt_17 (by decide) ?_
    refine J_istore_n (i := 3) (ls' := [(3, .int (-1)), (0, .ref 324), (1, .int a1), (2, .int a2)]) dX13_unlikeAt_18 rfl (by decide) rfl ?_
    refine J_iconst (v := 0) dX13_unlikeAt_19 (by decide) ?_
    refine J_istore (i := 4) (ls' := [(4, .int 0), (3, .int (-1)), (0, .ref 324), (1, .int a1), (2, .int a2)]) dX13_unlikeAt_20 (by decide) rfl ?_
    refine J_pick [2, 3, 4, 1, 0] rfl ?_
    exact t_X13_unlikeAt_22  _ _ _ _ _ _ _  h
  · have h := (if_neg c20).symm.trans h
    refine J_iconst (v := (-1)) dX13_unlikeAt_15 (by decide) ?_
    exact J_ret (v := some (.int (-1))) rfl ⟨dX13_unlikeAt_16, Or.inl rfl⟩ (jqI_mk h)
theorem dX13_tellsBy_0 : decode cX13_tellsBy 0 = .ok (.aload_n 0, 1) := by decide +kernel
theorem dX13_tellsBy_1 : decode cX13_tellsBy 1 = .ok (.iload_n 2, 1) := by decide +kernel
theorem dX13_tellsBy_2 : decode cX13_tellsBy 2 = .ok (.iload_n 3, 1) := by decide +kernel
theorem dX13_tellsBy_3 : decode cX13_tellsBy 3 = .ok (.invokevirtual 320, 3) := by decide +kernel
theorem dX13_tellsBy_6 : decode cX13_tellsBy 6 = .ok (.istore 4, 2) := by decide +kernel
theorem dX13_tellsBy_8 : decode cX13_tellsBy 8 = .ok (.iload 4, 2) := by decide +kernel
theorem dX13_tellsBy_10 : decode cX13_tellsBy 10 = .ok (.iconst (-1), 1) := by decide +kernel
theorem dX13_tellsBy_11 : decode cX13_tellsBy 11 = .ok (.if_icmp .eq 18, 3) := by decide +kernel
theorem dX13_tellsBy_14 : decode cX13_tellsBy 14 = .ok (.aload_n 0, 1) := by decide +kernel
theorem dX13_tellsBy_15 : decode cX13_tellsBy 15 = .ok (.getfield 94, 3) := by decide +kernel
theorem dX13_tellsBy_18 : decode cX13_tellsBy 18 = .ok (.iload_n 2, 1) := by decide +kernel
theorem dX13_tellsBy_19 : decode cX13_tellsBy 19 = .ok (.iaload, 1) := by decide +kernel
theorem dX13_tellsBy_20 : decode cX13_tellsBy 20 = .ok (.aload_n 0, 1) := by decide +kernel
theorem dX13_tellsBy_21 : decode cX13_tellsBy 21 = .ok (.getfield 41, 3) := by decide +kernel
theorem dX13_tellsBy_24 : decode cX13_tellsBy 24 = .ok (.iload_n 1, 1) := by decide +kernel
theorem dX13_tellsBy_25 : decode cX13_tellsBy 25 = .ok (.iaload, 1) := by decide +kernel
theorem dX13_tellsBy_26 : decode cX13_tellsBy 26 = .ok (.if_icmp .ge 5, 3) := by decide +kernel
theorem dX13_tellsBy_29 : decode cX13_tellsBy 29 = .ok (.iconst 0, 1) := by decide +kernel
theorem dX13_tellsBy_30 : decode cX13_tellsBy 30 = .ok (.ireturn, 1) := by decide +kernel
theorem dX13_tellsBy_31 : decode cX13_tellsBy 31 = .ok (.aload_n 0, 1) := by decide +kernel
theorem dX13_tellsBy_32 : decode cX13_tellsBy 32 = .ok (.getfield 38, 3) := by decide +kernel
theorem dX13_tellsBy_35 : decode cX13_tellsBy 35 = .ok (.iload_n 1, 1) := by decide +kernel
theorem dX13_tellsBy_36 : decode cX13_tellsBy 36 = .ok (.iaload, 1) := by decide +kernel
theorem dX13_tellsBy_37 : decode cX13_tellsBy 37 = .ok (.ifCond .ne 16, 3) := by decide +kernel
theorem dX13_tellsBy_40 : decode cX13_tellsBy 40 = .ok (.iload 4, 2) := by decide +kernel
theorem dX13_tellsBy_42 : decode cX13_tellsBy 42 = .ok (.ifCond .ne 7, 3) := by decide +kernel
theorem dX13_tellsBy_45 : decode cX13_tellsBy 45 = .ok (.iconst 1, 1) := by decide +kernel
theorem dX13_tellsBy_46 : decode cX13_tellsBy 46 = .ok (.goto 57, 3) := by decide +kernel
theorem dX13_tellsBy_49 : decode cX13_tellsBy 49 = .ok (.iconst 0, 1) := by decide +kernel
theorem dX13_tellsBy_50 : decode cX13_tellsBy 50 = .ok (.goto 53, 3) := by decide +kernel
theorem dX13_tellsBy_53 : decode cX13_tellsBy 53 = .ok (.aload_n 0, 1) := by decide +kernel
theorem dX13_tellsBy_54 : decode cX13_tellsBy 54 = .ok (.getfield 38, 3) := by decide +kernel
theorem dX13_tellsBy_57 : decode cX13_tellsBy 57 = .ok (.iload_n 1, 1) := by decide +kernel
theorem dX13_tellsBy_58 : decode cX13_tellsBy 58 = .ok (.iaload, 1) := by decide +kernel
theorem dX13_tellsBy_59 : decode cX13_tellsBy 59 = .ok (.bipush 7, 2) := by decide +kernel
theorem dX13_tellsBy_61 : decode cX13_tellsBy 61 = .ok (.if_icmp .ne 24, 3) := by decide +kernel
theorem dX13_tellsBy_64 : decode cX13_tellsBy 64 = .ok (.iload 4, 2) := by decide +kernel
theorem dX13_tellsBy_66 : decode cX13_tellsBy 66 = .ok (.aload_n 0, 1) := by decide +kernel
theorem dX13_tellsBy_67 : decode cX13_tellsBy 67 = .ok (.getfield 94, 3) := by decide +kernel
theorem dX13_tellsBy_70 : decode cX13_tellsBy 70 = .ok (.iload_n 2, 1) := by decide +kernel
theorem dX13_tellsBy_71 : decode cX13_tellsBy 71 = .ok (.iaload, 1) := by decide +kernel
theorem dX13_tellsBy_72 : decode cX13_tellsBy 72 = .ok (.iconst 1, 1) := by decide +kernel
theorem dX13_tellsBy_73 : decode cX13_tellsBy 73 = .ok (.isub, 1) := by decide +kernel
theorem dX13_tellsBy_74 : decode cX13_tellsBy 74 = .ok (.if_icmp .ne 7, 3) := by decide +kernel
theorem dX13_tellsBy_77 : decode cX13_tellsBy 77 = .ok (.iconst 1, 1) := by decide +kernel
theorem dX13_tellsBy_78 : decode cX13_tellsBy 78 = .ok (.goto 25, 3) := by decide +kernel
theorem dX13_tellsBy_81 : decode cX13_tellsBy 81 = .ok (.iconst 0, 1) := by decide +kernel
theorem dX13_tellsBy_82 : decode cX13_tellsBy 82 = .ok (.goto 21, 3) := by decide +kernel
theorem dX13_tellsBy_85 : decode cX13_tellsBy 85 = .ok (.iload 4, 2) := by decide +kernel
theorem dX13_tellsBy_87 : decode cX13_tellsBy 87 = .ok (.aload_n 0, 1) := by decide +kernel
theorem dX13_tellsBy_88 : decode cX13_tellsBy 88 = .ok (.getfield 38, 3) := by decide +kernel
theorem dX13_tellsBy_91 : decode cX13_tellsBy 91 = .ok (.iload_n 1, 1) := by decide +kernel
theorem dX13_tellsBy_92 : decode cX13_tellsBy 92 = .ok (.iaload, 1) := by decide +kernel
theorem dX13_tellsBy_93 : decode cX13_tellsBy 93 = .ok (.iconst 1, 1) := by decide +kernel
theorem dX13_tellsBy_94 : decode cX13_tellsBy 94 = .ok (.isub, 1) := by decide +kernel
theorem dX13_tellsBy_95 : decode cX13_tellsBy 95 = .ok (.if_icmp .ne 7, 3) := by decide +kernel
theorem dX13_tellsBy_98 : decode cX13_tellsBy 98 = .ok (.iconst 1, 1) := by decide +kernel
theorem dX13_tellsBy_99 : decode cX13_tellsBy 99 = .ok (.goto 4, 3) := by decide +kernel
theorem dX13_tellsBy_102 : decode cX13_tellsBy 102 = .ok (.iconst 0, 1) := by decide +kernel
theorem dX13_tellsBy_103 : decode cX13_tellsBy 103 = .ok (.ireturn, 1) := by decide +kernel
noncomputable def f_X13_tellsBy_29   (σ : jM) : Option (Int32 × jM) :=
  some (0, σ)
noncomputable def f_X13_tellsBy_103  (s0 : Int32) (σ : jM) : Option (Int32 × jM) :=
  gd (s0 = 0 ∨ s0 = 1) (some (s0, σ))
noncomputable def f_X13_tellsBy (a1 : Int32) (a2 : Int32) (a3 : Int32) (σ : jM) : Option (Int32 × jM) :=
  bd (f_X13_unlikeAt a2 a3 σ) (fun r9 σ10 => (if r9 = (-1) then f_X13_tellsBy_29   σ10 else gd (inb a2 192) (gd (inb a1 132) ((if (rI σ10 334 (Int32.toNatClampNeg a1)) ≤ (rI σ10 350 (Int32.toNatClampNeg a2)) then gd (inb a1 132) ((if (rI σ10 333 (Int32.toNatClampNeg a1)) = 0 then (if r9 = 0 then f_X13_tellsBy_103  1 σ10 else f_X13_tellsBy_103  0 σ10) else gd (inb a1 132) ((if (rI σ10 333 (Int32.toNatClampNeg a1)) = 7 then gd (inb a2 192) ((if r9 = ((rI σ10 350 (Int32.toNatClampNeg a2)) - 1) then f_X13_tellsBy_103  1 σ10 else f_X13_tellsBy_103  0 σ10)) else gd (inb a1 132) ((if r9 = ((rI σ10 333 (Int32.toNatClampNeg a1)) - 1) then f_X13_tellsBy_103  1 σ10 else f_X13_tellsBy_103  0 σ10)))))) else f_X13_tellsBy_29   σ10)))))
set_option maxRecDepth 20000 in
set_option maxHeartbeats 4000000 in
theorem t_X13_tellsBy_29   (σ : jM) (r : Int32 × jM)  (h : f_X13_tellsBy_29   σ = some r) : J mi_X13_tellsBy 2 0 0 (jqI r) 29 [] [] (ms σ) := by
  unfold f_X13_tellsBy_29 at h
  refine J_iconst (v := 0) dX13_tellsBy_29 (by decide) ?_
  exact J_ret (v := some (.int 0)) rfl ⟨dX13_tellsBy_30, Or.inr (Or.inl ⟨rfl, Or.inl rfl⟩)⟩ (jqI_mk h)
set_option maxRecDepth 20000 in
set_option maxHeartbeats 4000000 in
theorem t_X13_tellsBy_103  (s0 : Int32) (σ : jM) (r : Int32 × jM)  (h : f_X13_tellsBy_103  s0 σ = some r) : J mi_X13_tellsBy 2 0 0 (jqI r) 103 [] [.int s0] (ms σ) := by
  unfold f_X13_tellsBy_103 at h
  obtain ⟨g8, h⟩ := gd_inv h
  exact J_ret (v := some (.int s0)) rfl ⟨dX13_tellsBy_103, Or.inr (Or.inl ⟨rfl, g8⟩)⟩ (jqI_mk h)
set_option maxRecDepth 20000 in
set_option maxHeartbeats 4000000 in
theorem t_X13_tellsBy {a1 : Int32} {a2 : Int32} {a3 : Int32} {σ : jM} {r : Int32 × jM}  (h : f_X13_tellsBy a1 a2 a3 σ = some r) : J mi_X13_tellsBy 2 0 0 (jqI r) 0 [(0, .ref 324), (1, .int a1), (2, .int a2), (3, .int a3)] [] (ms σ) := by
  unfold f_X13_tellsBy at h
  refine J_aload_n 0 dX13_tellsBy_0 rfl ?_
  refine J_iload_n 2 dX13_tellsBy_1 rfl ?_
  refine J_iload_n 3 dX13_tellsBy_2 rfl ?_
  obtain ⟨r9, σ10, h11, h⟩ := bd_inv h
  refine M_callVI (d' := 1) (k := 324) (As := [.int a2, .int a3]) (st := []) cv_X13_320 dX13_tellsBy_3 rfl (by decide) rfl (Nat.le_of_ble_eq_true rfl) (Nat.le_of_ble_eq_true rfl) (by decide) n_324 k_324 rfl rfl (t_X13_unlikeAt  h11) ?_
  refine J_istore (i := 4) (ls' := [(4, .int r9), (0, .ref 324), (1, .int a1), (2, .int a2), (3, .int a3)]) dX13_tellsBy_6 (by decide) rfl ?_
  refine J_iload 0 dX13_tellsBy_8 rfl ?_
  refine J_iconst (v := (-1)) dX13_tellsBy_10 (by decide) ?_
  refine J_icmp_eq (tgt := 29) dX13_tellsBy_11 (by decide) (fun c12 => ?_) (fun c12 => ?_)
  · have h := (if_pos c12).symm.trans h
    refine J_pick [] rfl ?_
    exact t_X13_tellsBy_29   _ _  h
  · have h := (if_neg c12).symm.trans h
    refine J_aload_n 1 dX13_tellsBy_14 rfl ?_
    refine M_getR gf_X13_94_12 dX13_tellsBy_15 (g_324_40 _) k_324 n_324 ?_
    refine J_iload_n 3 dX13_tellsBy_18 rfl ?_
    obtain ⟨g13, h⟩ := gd_inv h
    refine M_iald dX13_tellsBy_19 a_350 n_350 g13 ?_
    refine J_aload_n 1 dX13_tellsBy_20 rfl ?_
    refine M_getR gf_X13_41_12 dX13_tellsBy_21 (g_324_13 _) k_324 n_324 ?_
    refine J_iload_n 2 dX13_tellsBy_24 rfl ?_
    obtain ⟨g14, h⟩ := gd_inv h
    refine M_iald dX13_tellsBy_25 a_334 n_334 g14 ?_
    refine J_icmp_ge (tgt := 31) dX13_tellsBy_26 (by decide) (fun c15 => ?_) (fun c15 => ?_)
    · have h := (if_pos c15).symm.trans h
      refine J_aload_n 1 dX13_tellsBy_31 rfl ?_
      refine M_getR gf_X13_38_12 dX13_tellsBy_32 (g_324_12 _) k_324 n_324 ?_
      refine J_iload_n 2 dX13_tellsBy_35 rfl ?_
      obtain ⟨g16, h⟩ := gd_inv h
      refine M_iald dX13_tellsBy_36 a_333 n_333 g16 ?_
      refine J_if_ne (tgt := 53) dX13_tellsBy_37 (by decide) (fun c17 => ?_) (fun c17 => ?_)
      · have h := (if_neg c17).symm.trans h
        refine J_aload_n 1 dX13_tellsBy_53 rfl ?_
        refine M_getR gf_X13_38_12 dX13_tellsBy_54 (g_324_12 _) k_324 n_324 ?_
        refine J_iload_n 2 dX13_tellsBy_57 rfl ?_
        obtain ⟨g18, h⟩ := gd_inv h
        refine M_iald dX13_tellsBy_58 a_333 n_333 g18 ?_
        refine J_bipush (v := 7) dX13_tellsBy_59 (by decide) ?_
        refine J_icmp_ne (tgt := 85) dX13_tellsBy_61 (by decide) (fun c19 => ?_) (fun c19 => ?_)
        · have h := (if_neg c19).symm.trans h
          refine J_iload 0 dX13_tellsBy_85 rfl ?_
          refine J_aload_n 1 dX13_tellsBy_87 rfl ?_
          refine M_getR gf_X13_38_12 dX13_tellsBy_88 (g_324_12 _) k_324 n_324 ?_
          refine J_iload_n 2 dX13_tellsBy_91 rfl ?_
          obtain ⟨g20, h⟩ := gd_inv h
          refine M_iald dX13_tellsBy_92 a_333 n_333 g20 ?_
          refine J_iconst (v := 1) dX13_tellsBy_93 (by decide) ?_
          refine J_isub dX13_tellsBy_94 ?_
          refine J_icmp_ne (tgt := 102) dX13_tellsBy_95 (by decide) (fun c21 => ?_) (fun c21 => ?_)
          · have h := (if_neg c21).symm.trans h
            refine J_iconst (v := 0) dX13_tellsBy_102 (by decide) ?_
            refine J_pick [] rfl ?_
            exact t_X13_tellsBy_103  _ _ _  h
          · have h := (if_pos c21).symm.trans h
            refine J_iconst (v := 1) dX13_tellsBy_98 (by decide) ?_
            refine J_goto (tgt := 103) dX13_tellsBy_99 (by decide) ?_
            refine J_pick [] rfl ?_
            exact t_X13_tellsBy_103  _ _ _  h
        · have h := (if_pos c19).symm.trans h
          refine J_iload 0 dX13_tellsBy_64 rfl ?_
          refine J_aload_n 1 dX13_tellsBy_66 rfl ?_
          refine M_getR gf_X13_94_12 dX13_tellsBy_67 (g_324_40 _) k_324 n_324 ?_
          refine J_iload_n 3 dX13_tellsBy_70 rfl ?_
          obtain ⟨g22, h⟩ := gd_inv h
          refine M_iald dX13_tellsBy_71 a_350 n_350 g22 ?_
          refine J_iconst (v := 1) dX13_tellsBy_72 (by decide) ?_
          refine J_isub dX13_tellsBy_73 ?_
          refine J_icmp_ne (tgt := 81) dX13_tellsBy_74 (by decide) (fun c23 => ?_) (fun c23 => ?_)
          · have h := (if_neg c23).symm.trans h
            refine J_iconst (v := 0) dX13_tellsBy_81 (by decide) ?_
            refine J_goto (tgt := 103) dX13_tellsBy_82 (by decide) ?_
            refine J_pick [] rfl ?_
            exact t_X13_tellsBy_103  _ _ _  h
          · have h := (if_pos c23).symm.trans h
            refine J_iconst (v := 1) dX13_tellsBy_77 (by decide) ?_
            refine J_goto (tgt := 103) dX13_tellsBy_78 (by decide) ?_
            refine J_pick [] rfl ?_
            exact t_X13_tellsBy_103  _ _ _  h
      · have h := (if_pos c17).symm.trans h
        refine J_iload 0 dX13_tellsBy_40 rfl ?_
        refine J_if_ne (tgt := 49) dX13_tellsBy_42 (by decide) (fun c24 => ?_) (fun c24 => ?_)
        · have h := (if_neg c24).symm.trans h
          refine J_iconst (v := 0) dX13_tellsBy_49 (by decide) ?_
          refine J_goto (tgt := 103) dX13_tellsBy_50 (by decide) ?_
          refine J_pick [] rfl ?_
          exact t_X13_tellsBy_103  _ _ _  h
        · have h := (if_pos c24).symm.trans h
          refine J_iconst (v := 1) dX13_tellsBy_45 (by decide) ?_
          refine J_goto (tgt := 103) dX13_tellsBy_46 (by decide) ?_
          refine J_pick [] rfl ?_
          exact t_X13_tellsBy_103  _ _ _  h
    · have h := (if_neg c15).symm.trans h
      refine J_pick [] rfl ?_
      exact t_X13_tellsBy_29   _ _  h
theorem dX13_pairsOf_0 : decode cX13_pairsOf 0 = .ok (.iconst 0, 1) := by decide +kernel
theorem dX13_pairsOf_1 : decode cX13_pairsOf 1 = .ok (.istore 4, 2) := by decide +kernel
theorem dX13_pairsOf_3 : decode cX13_pairsOf 3 = .ok (.iconst 0, 1) := by decide +kernel
theorem dX13_pairsOf_4 : decode cX13_pairsOf 4 = .ok (.istore 5, 2) := by decide +kernel
theorem dX13_pairsOf_6 : decode cX13_pairsOf 6 = .ok (.iload 5, 2) := by decide +kernel
theorem dX13_pairsOf_8 : decode cX13_pairsOf 8 = .ok (.aload_n 0, 1) := by decide +kernel
theorem dX13_pairsOf_9 : decode cX13_pairsOf 9 = .ok (.getfield 307, 3) := by decide +kernel
theorem dX13_pairsOf_12 : decode cX13_pairsOf 12 = .ok (.if_icmp .ge 112, 3) := by decide +kernel
theorem dX13_pairsOf_15 : decode cX13_pairsOf 15 = .ok (.iload 5, 2) := by decide +kernel
theorem dX13_pairsOf_17 : decode cX13_pairsOf 17 = .ok (.iconst 1, 1) := by decide +kernel
theorem dX13_pairsOf_18 : decode cX13_pairsOf 18 = .ok (.iadd, 1) := by decide +kernel
theorem dX13_pairsOf_19 : decode cX13_pairsOf 19 = .ok (.istore 6, 2) := by decide +kernel
theorem dX13_pairsOf_21 : decode cX13_pairsOf 21 = .ok (.iload 6, 2) := by decide +kernel
theorem dX13_pairsOf_23 : decode cX13_pairsOf 23 = .ok (.aload_n 0, 1) := by decide +kernel
theorem dX13_pairsOf_24 : decode cX13_pairsOf 24 = .ok (.getfield 307, 3) := by decide +kernel
theorem dX13_pairsOf_27 : decode cX13_pairsOf 27 = .ok (.if_icmp .ge 91, 3) := by decide +kernel
theorem dX13_pairsOf_30 : decode cX13_pairsOf 30 = .ok (.aload_n 0, 1) := by decide +kernel
theorem dX13_pairsOf_31 : decode cX13_pairsOf 31 = .ok (.iload_n 1, 1) := by decide +kernel
theorem dX13_pairsOf_32 : decode cX13_pairsOf 32 = .ok (.iload 5, 2) := by decide +kernel
theorem dX13_pairsOf_34 : decode cX13_pairsOf 34 = .ok (.iload 6, 2) := by decide +kernel
theorem dX13_pairsOf_36 : decode cX13_pairsOf 36 = .ok (.invokevirtual 323, 3) := by decide +kernel
theorem dX13_pairsOf_39 : decode cX13_pairsOf 39 = .ok (.ifCond .ne 6, 3) := by decide +kernel
theorem dX13_pairsOf_42 : decode cX13_pairsOf 42 = .ok (.goto 70, 3) := by decide +kernel
theorem dX13_pairsOf_45 : decode cX13_pairsOf 45 = .ok (.aload_n 0, 1) := by decide +kernel
theorem dX13_pairsOf_46 : decode cX13_pairsOf 46 = .ok (.iload 5, 2) := by decide +kernel
theorem dX13_pairsOf_48 : decode cX13_pairsOf 48 = .ok (.iload 6, 2) := by decide +kernel
theorem dX13_pairsOf_50 : decode cX13_pairsOf 50 = .ok (.invokevirtual 320, 3) := by decide +kernel
theorem dX13_pairsOf_53 : decode cX13_pairsOf 53 = .ok (.istore 7, 2) := by decide +kernel
theorem dX13_pairsOf_55 : decode cX13_pairsOf 55 = .ok (.aload_n 0, 1) := by decide +kernel
theorem dX13_pairsOf_56 : decode cX13_pairsOf 56 = .ok (.getfield 97, 3) := by decide +kernel
theorem dX13_pairsOf_59 : decode cX13_pairsOf 59 = .ok (.bipush 6, 2) := by decide +kernel
theorem dX13_pairsOf_61 : decode cX13_pairsOf 61 = .ok (.iload 5, 2) := by decide +kernel
theorem dX13_pairsOf_63 : decode cX13_pairsOf 63 = .ok (.imul, 1) := by decide +kernel
theorem dX13_pairsOf_64 : decode cX13_pairsOf 64 = .ok (.iload 7, 2) := by decide +kernel
theorem dX13_pairsOf_66 : decode cX13_pairsOf 66 = .ok (.iadd, 1) := by decide +kernel
theorem dX13_pairsOf_67 : decode cX13_pairsOf 67 = .ok (.iaload, 1) := by decide +kernel
theorem dX13_pairsOf_68 : decode cX13_pairsOf 68 = .ok (.istore 8, 2) := by decide +kernel
theorem dX13_pairsOf_70 : decode cX13_pairsOf 70 = .ok (.aload_n 0, 1) := by decide +kernel
theorem dX13_pairsOf_71 : decode cX13_pairsOf 71 = .ok (.getfield 97, 3) := by decide +kernel
theorem dX13_pairsOf_74 : decode cX13_pairsOf 74 = .ok (.bipush 6, 2) := by decide +kernel
theorem dX13_pairsOf_76 : decode cX13_pairsOf 76 = .ok (.iload 6, 2) := by decide +kernel
theorem dX13_pairsOf_78 : decode cX13_pairsOf 78 = .ok (.imul, 1) := by decide +kernel
theorem dX13_pairsOf_79 : decode cX13_pairsOf 79 = .ok (.iload 7, 2) := by decide +kernel
theorem dX13_pairsOf_81 : decode cX13_pairsOf 81 = .ok (.iadd, 1) := by decide +kernel
theorem dX13_pairsOf_82 : decode cX13_pairsOf 82 = .ok (.iaload, 1) := by decide +kernel
theorem dX13_pairsOf_83 : decode cX13_pairsOf 83 = .ok (.istore 9, 2) := by decide +kernel
theorem dX13_pairsOf_85 : decode cX13_pairsOf 85 = .ok (.iload 8, 2) := by decide +kernel
theorem dX13_pairsOf_87 : decode cX13_pairsOf 87 = .ok (.iload_n 2, 1) := by decide +kernel
theorem dX13_pairsOf_88 : decode cX13_pairsOf 88 = .ok (.if_icmp .ne 9, 3) := by decide +kernel
theorem dX13_pairsOf_91 : decode cX13_pairsOf 91 = .ok (.iload 9, 2) := by decide +kernel
theorem dX13_pairsOf_93 : decode cX13_pairsOf 93 = .ok (.iload_n 3, 1) := by decide +kernel
theorem dX13_pairsOf_94 : decode cX13_pairsOf 94 = .ok (.if_icmp .eq 15, 3) := by decide +kernel
theorem dX13_pairsOf_97 : decode cX13_pairsOf 97 = .ok (.iload 8, 2) := by decide +kernel
theorem dX13_pairsOf_99 : decode cX13_pairsOf 99 = .ok (.iload_n 3, 1) := by decide +kernel
theorem dX13_pairsOf_100 : decode cX13_pairsOf 100 = .ok (.if_icmp .ne 12, 3) := by decide +kernel
theorem dX13_pairsOf_103 : decode cX13_pairsOf 103 = .ok (.iload 9, 2) := by decide +kernel
theorem dX13_pairsOf_105 : decode cX13_pairsOf 105 = .ok (.iload_n 2, 1) := by decide +kernel
theorem dX13_pairsOf_106 : decode cX13_pairsOf 106 = .ok (.if_icmp .ne 6, 3) := by decide +kernel
theorem dX13_pairsOf_109 : decode cX13_pairsOf 109 = .ok (.iinc 4 1, 3) := by decide +kernel
theorem dX13_pairsOf_112 : decode cX13_pairsOf 112 = .ok (.iinc 6 1, 3) := by decide +kernel
theorem dX13_pairsOf_115 : decode cX13_pairsOf 115 = .ok (.goto (-94), 3) := by decide +kernel
theorem dX13_pairsOf_118 : decode cX13_pairsOf 118 = .ok (.iinc 5 1, 3) := by decide +kernel
theorem dX13_pairsOf_121 : decode cX13_pairsOf 121 = .ok (.goto (-115), 3) := by decide +kernel
theorem dX13_pairsOf_124 : decode cX13_pairsOf 124 = .ok (.iload 4, 2) := by decide +kernel
theorem dX13_pairsOf_126 : decode cX13_pairsOf 126 = .ok (.ireturn, 1) := by decide +kernel
noncomputable def f_X13_pairsOf_112 (rec6 : Int32 → Int32 → Int32 → Int32 → Int32 → jM → Option (Int32 × jM)) (rec21 : Int32 → Int32 → Int32 → Int32 → Int32 → Int32 → jM → Option (Int32 × jM)) (l1 : Int32) (l2 : Int32) (l3 : Int32) (l4 : Int32) (l5 : Int32) (l6 : Int32) (σ : jM) : Option (Int32 × jM) :=
  rec21 l1 l2 l3 l4 l5 (l6 + 1) σ
noncomputable def f_X13_pairsOf_109 (rec6 : Int32 → Int32 → Int32 → Int32 → Int32 → jM → Option (Int32 × jM)) (rec21 : Int32 → Int32 → Int32 → Int32 → Int32 → Int32 → jM → Option (Int32 × jM)) (l1 : Int32) (l2 : Int32) (l3 : Int32) (l4 : Int32) (l5 : Int32) (l6 : Int32) (σ : jM) : Option (Int32 × jM) :=
  f_X13_pairsOf_112 rec6 rec21 l1 l2 l3 (l4 + 1) l5 l6 σ
noncomputable def f_X13_pairsOf_97 (rec6 : Int32 → Int32 → Int32 → Int32 → Int32 → jM → Option (Int32 × jM)) (rec21 : Int32 → Int32 → Int32 → Int32 → Int32 → Int32 → jM → Option (Int32 × jM)) (l1 : Int32) (l2 : Int32) (l3 : Int32) (l4 : Int32) (l5 : Int32) (l6 : Int32) (l8 : Int32) (l9 : Int32) (σ : jM) : Option (Int32 × jM) :=
  (if l8 = l3 then (if l9 = l2 then f_X13_pairsOf_109 rec6 rec21 l1 l2 l3 l4 l5 l6 σ else f_X13_pairsOf_112 rec6 rec21 l1 l2 l3 l4 l5 l6 σ) else f_X13_pairsOf_112 rec6 rec21 l1 l2 l3 l4 l5 l6 σ)
noncomputable def s_X13_pairsOf_21 (rec6 : Int32 → Int32 → Int32 → Int32 → Int32 → jM → Option (Int32 × jM)) (rec21 : Int32 → Int32 → Int32 → Int32 → Int32 → Int32 → jM → Option (Int32 × jM)) (l1 : Int32) (l2 : Int32) (l3 : Int32) (l4 : Int32) (l5 : Int32) (l6 : Int32) (σ : jM) : Option (Int32 × jM) :=
  (if (rI σ 324 39) ≤ l6 then rec6 l1 l2 l3 l4 (l5 + 1) σ else bd (f_X13_tellsBy l1 l5 l6 σ) (fun r8 σ9 => (if r8 = 0 then f_X13_pairsOf_112 rec6 rec21 l1 l2 l3 l4 l5 l6 σ9 else bd (f_X13_unlikeAt l5 l6 σ9) (fun r12 σ13 => gd (inb ((6 * l5) + r12) 1152) (gd (inb ((6 * l6) + r12) 1152) ((if (rI σ13 351 (Int32.toNatClampNeg ((6 * l5) + r12))) = l2 then (if (rI σ13 351 (Int32.toNatClampNeg ((6 * l6) + r12))) = l3 then f_X13_pairsOf_109 rec6 rec21 l1 l2 l3 l4 l5 l6 σ13 else f_X13_pairsOf_97 rec6 rec21 l1 l2 l3 l4 l5 l6 (rI σ13 351 (Int32.toNatClampNeg ((6 * l5) + r12))) (rI σ13 351 (Int32.toNatClampNeg ((6 * l6) + r12))) σ13) else f_X13_pairsOf_97 rec6 rec21 l1 l2 l3 l4 l5 l6 (rI σ13 351 (Int32.toNatClampNeg ((6 * l5) + r12))) (rI σ13 351 (Int32.toNatClampNeg ((6 * l6) + r12))) σ13)))))))
noncomputable def f_X13_pairsOf_21 (rec6 : Int32 → Int32 → Int32 → Int32 → Int32 → jM → Option (Int32 × jM)) (n : Nat) : Int32 → Int32 → Int32 → Int32 → Int32 → Int32 → jM → Option (Int32 × jM) := Nat.rec (motive := fun _ => Int32 → Int32 → Int32 → Int32 → Int32 → Int32 → jM → Option (Int32 × jM)) (fun _ _ _ _ _ _ _ => none) (fun _ q => s_X13_pairsOf_21 rec6 q) n
noncomputable def s_X13_pairsOf_6  (rec6 : Int32 → Int32 → Int32 → Int32 → Int32 → jM → Option (Int32 × jM)) (l1 : Int32) (l2 : Int32) (l3 : Int32) (l4 : Int32) (l5 : Int32) (σ : jM) : Option (Int32 × jM) :=
  (if (rI σ 324 39) ≤ l5 then some (l4, σ) else f_X13_pairsOf_21 rec6 Fu l1 l2 l3 l4 l5 (l5 + 1) σ)
noncomputable def f_X13_pairsOf_6  (n : Nat) : Int32 → Int32 → Int32 → Int32 → Int32 → jM → Option (Int32 × jM) := Nat.rec (motive := fun _ => Int32 → Int32 → Int32 → Int32 → Int32 → jM → Option (Int32 × jM)) (fun _ _ _ _ _ _ => none) (fun _ q => s_X13_pairsOf_6  q) n
noncomputable def f_X13_pairsOf (a1 : Int32) (a2 : Int32) (a3 : Int32) (σ : jM) : Option (Int32 × jM) :=
  f_X13_pairsOf_6  Fu a1 a2 a3 0 0 σ
set_option maxRecDepth 20000 in
set_option maxHeartbeats 4000000 in
theorem t_X13_pairsOf_112 {rec6 : Int32 → Int32 → Int32 → Int32 → Int32 → jM → Option (Int32 × jM)} (hrec6 : ∀ (l1 : Int32) (l2 : Int32) (l3 : Int32) (l4 : Int32) (l5 : Int32) (σ : jM) (r : Int32 × jM), rec6 l1 l2 l3 l4 l5 σ = some r → J mi_X13_pairsOf 3 0 0 (jqI r) 6 [(0, .ref 324), (1, .int l1), (2, .int l2), (3, .int l3), (4, .int l4), (5, .int l5)] [] (ms σ)) {rec21 : Int32 → Int32 → Int32 → Int32 → Int32 → Int32 → jM → Option (Int32 × jM)} (hrec21 : ∀ (l1 : Int32) (l2 : Int32) (l3 : Int32) (l4 : Int32) (l5 : Int32) (l6 : Int32) (σ : jM) (r : Int32 × jM), rec21 l1 l2 l3 l4 l5 l6 σ = some r → J mi_X13_pairsOf 3 0 0 (jqI r) 21 [(0, .ref 324), (1, .int l1), (2, .int l2), (3, .int l3), (4, .int l4), (5, .int l5), (6, .int l6)] [] (ms σ)) (l1 : Int32) (l2 : Int32) (l3 : Int32) (l4 : Int32) (l5 : Int32) (l6 : Int32) (σ : jM) (r : Int32 × jM)  (h : f_X13_pairsOf_112 rec6 rec21 l1 l2 l3 l4 l5 l6 σ = some r) : J mi_X13_pairsOf 3 0 0 (jqI r) 112 [(0, .ref 324), (1, .int l1), (2, .int l2), (3, .int l3), (4, .int l4), (5, .int l5), (6, .int l6)] [] (ms σ) := by
  unfold f_X13_pairsOf_112 at h
  refine J_iinc (v := (l6 + 1)) (ls' := [(6, .int (l6 + 1)), (0, .ref 324), (1, .int l1), (2, .int l2), (3, .int l3), (4, .int l4), (5, .int l5)]) 6 dX13_pairsOf_112 rfl rfl (by decide) rfl ?_
  refine J_goto (tgt := 21) dX13_pairsOf_115 (by decide) ?_
  refine J_pick [1, 2, 3, 4, 5, 6, 0] rfl ?_
  exact hrec21 _ _ _ _ _ _ _ _  h
set_option maxRecDepth 20000 in
set_option maxHeartbeats 4000000 in
theorem t_X13_pairsOf_109 {rec6 : Int32 → Int32 → Int32 → Int32 → Int32 → jM → Option (Int32 × jM)} (hrec6 : ∀ (l1 : Int32) (l2 : Int32) (l3 : Int32) (l4 : Int32) (l5 : Int32) (σ : jM) (r : Int32 × jM), rec6 l1 l2 l3 l4 l5 σ = some r → J mi_X13_pairsOf 3 0 0 (jqI r) 6 [(0, .ref 324), (1, .int l1), (2, .int l2), (3, .int l3), (4, .int l4), (5, .int l5)] [] (ms σ)) {rec21 : Int32 → Int32 → Int32 → Int32 → Int32 → Int32 → jM → Option (Int32 × jM)} (hrec21 : ∀ (l1 : Int32) (l2 : Int32) (l3 : Int32) (l4 : Int32) (l5 : Int32) (l6 : Int32) (σ : jM) (r : Int32 × jM), rec21 l1 l2 l3 l4 l5 l6 σ = some r → J mi_X13_pairsOf 3 0 0 (jqI r) 21 [(0, .ref 324), (1, .int l1), (2, .int l2), (3, .int l3), (4, .int l4), (5, .int l5), (6, .int l6)] [] (ms σ)) (l1 : Int32) (l2 : Int32) (l3 : Int32) (l4 : Int32) (l5 : Int32) (l6 : Int32) (σ : jM) (r : Int32 × jM)  (h : f_X13_pairsOf_109 rec6 rec21 l1 l2 l3 l4 l5 l6 σ = some r) : J mi_X13_pairsOf 3 0 0 (jqI r) 109 [(0, .ref 324), (1, .int l1), (2, .int l2), (3, .int l3), (4, .int l4), (5, .int l5), (6, .int l6)] [] (ms σ) := by
  unfold f_X13_pairsOf_109 at h
  refine J_iinc (v := (l4 + 1)) (ls' := [(4, .int (l4 + 1)), (0, .ref 324), (1, .int l1), (2, .int l2), (3, .int l3), (5, .int l5), (6, .int l6)]) 4 dX13_pairsOf_109 rfl rfl (by decide) rfl ?_
  refine J_pick [1, 2, 3, 4, 0, 5, 6] rfl ?_
  exact t_X13_pairsOf_112 hrec6 hrec21 _ _ _ _ _ _ _ _  h
set_option maxRecDepth 20000 in
set_option maxHeartbeats 4000000 in
theorem t_X13_pairsOf_97 {rec6 : Int32 → Int32 → Int32 → Int32 → Int32 → jM → Option (Int32 × jM)} (hrec6 : ∀ (l1 : Int32) (l2 : Int32) (l3 : Int32) (l4 : Int32) (l5 : Int32) (σ : jM) (r : Int32 × jM), rec6 l1 l2 l3 l4 l5 σ = some r → J mi_X13_pairsOf 3 0 0 (jqI r) 6 [(0, .ref 324), (1, .int l1), (2, .int l2), (3, .int l3), (4, .int l4), (5, .int l5)] [] (ms σ)) {rec21 : Int32 → Int32 → Int32 → Int32 → Int32 → Int32 → jM → Option (Int32 × jM)} (hrec21 : ∀ (l1 : Int32) (l2 : Int32) (l3 : Int32) (l4 : Int32) (l5 : Int32) (l6 : Int32) (σ : jM) (r : Int32 × jM), rec21 l1 l2 l3 l4 l5 l6 σ = some r → J mi_X13_pairsOf 3 0 0 (jqI r) 21 [(0, .ref 324), (1, .int l1), (2, .int l2), (3, .int l3), (4, .int l4), (5, .int l5), (6, .int l6)] [] (ms σ)) (l1 : Int32) (l2 : Int32) (l3 : Int32) (l4 : Int32) (l5 : Int32) (l6 : Int32) (l8 : Int32) (l9 : Int32) (σ : jM) (r : Int32 × jM)  (h : f_X13_pairsOf_97 rec6 rec21 l1 l2 l3 l4 l5 l6 l8 l9 σ = some r) : J mi_X13_pairsOf 3 0 0 (jqI r) 97 [(0, .ref 324), (1, .int l1), (2, .int l2), (3, .int l3), (4, .int l4), (5, .int l5), (6, .int l6), (8, .int l8), (9, .int l9)] [] (ms σ) := by
  unfold f_X13_pairsOf_97 at h
  refine J_iload 7 dX13_pairsOf_97 rfl ?_
  refine J_iload_n 3 dX13_pairsOf_99 rfl ?_
  refine J_icmp_ne (tgt := 112) dX13_pairsOf_100 (by decide) (fun c5 => ?_) (fun c5 => ?_)
  · have h := (if_neg c5).symm.trans h
    refine J_pick [0, 1, 2, 3, 4, 5, 6] rfl ?_
    exact t_X13_pairsOf_112 hrec6 hrec21 _ _ _ _ _ _ _ _  h
  · have h := (if_pos c5).symm.trans h
    refine J_iload 8 dX13_pairsOf_103 rfl ?_
    refine J_iload_n 2 dX13_pairsOf_105 rfl ?_
    refine J_icmp_ne (tgt := 112) dX13_pairsOf_106 (by decide) (fun c6 => ?_) (fun c6 => ?_)
    · have h := (if_neg c6).symm.trans h
      refine J_pick [0, 1, 2, 3, 4, 5, 6] rfl ?_
      exact t_X13_pairsOf_112 hrec6 hrec21 _ _ _ _ _ _ _ _  h
    · have h := (if_pos c6).symm.trans h
      refine J_pick [0, 1, 2, 3, 4, 5, 6] rfl ?_
      exact t_X13_pairsOf_109 hrec6 hrec21 _ _ _ _ _ _ _ _  h
set_option maxRecDepth 20000 in
set_option maxHeartbeats 4000000 in
theorem t_X13_pairsOf_21 {rec6 : Int32 → Int32 → Int32 → Int32 → Int32 → jM → Option (Int32 × jM)} (hrec6 : ∀ (l1 : Int32) (l2 : Int32) (l3 : Int32) (l4 : Int32) (l5 : Int32) (σ : jM) (r : Int32 × jM), rec6 l1 l2 l3 l4 l5 σ = some r → J mi_X13_pairsOf 3 0 0 (jqI r) 6 [(0, .ref 324), (1, .int l1), (2, .int l2), (3, .int l3), (4, .int l4), (5, .int l5)] [] (ms σ)) : ∀ (n : Nat) (l1 : Int32) (l2 : Int32) (l3 : Int32) (l4 : Int32) (l5 : Int32) (l6 : Int32) (σ : jM) (r : Int32 × jM), f_X13_pairsOf_21 rec6 n l1 l2 l3 l4 l5 l6 σ = some r → J mi_X13_pairsOf 3 0 0 (jqI r) 21 [(0, .ref 324), (1, .int l1), (2, .int l2), (3, .int l3), (4, .int l4), (5, .int l5), (6, .int l6)] [] (ms σ) := by
  intro n
  induction n with
  | zero =>
    intro l1 l2 l3 l4 l5 l6 σ r  h
    have h : (none : Option (Int32 × jM)) = some r := h
    cases h
  | succ n ih =>
    intro l1 l2 l3 l4 l5 l6 σ r  h
    have h : s_X13_pairsOf_21 rec6 (f_X13_pairsOf_21 rec6 n) l1 l2 l3 l4 l5 l6 σ = some r := h
    unfold s_X13_pairsOf_21 at h
    refine J_iload 6 dX13_pairsOf_21 rfl ?_
    refine J_aload_n 0 dX13_pairsOf_23 rfl ?_
    refine M_getI gf_X13_307_12 dX13_pairsOf_24 k_324 n_324 ?_
    refine J_icmp_ge (tgt := 118) dX13_pairsOf_27 (by decide) (fun c19 => ?_) (fun c19 => ?_)
    · have h := (if_pos c19).symm.trans h
      refine J_iinc (v := (l5 + 1)) (ls' := [(5, .int (l5 + 1)), (0, .ref 324), (1, .int l1), (2, .int l2), (3, .int l3), (4, .int l4), (6, .int l6)]) 5 dX13_pairsOf_118 rfl rfl (by decide) rfl ?_
      refine J_goto (tgt := 6) dX13_pairsOf_121 (by decide) ?_
      refine J_pick [1, 2, 3, 4, 5, 0] rfl ?_
      exact hrec6 _ _ _ _ _ _ _  h
    · have h := (if_neg c19).symm.trans h
      refine J_aload_n 0 dX13_pairsOf_30 rfl ?_
      refine J_iload_n 1 dX13_pairsOf_31 rfl ?_
      refine J_iload 5 dX13_pairsOf_32 rfl ?_
      refine J_iload 6 dX13_pairsOf_34 rfl ?_
      obtain ⟨r20, σ21, h22, h⟩ := bd_inv h
      refine M_callVI (d' := 2) (k := 324) (As := [.int l1, .int l5, .int l6]) (st := []) cv_X13_323 dX13_pairsOf_36 rfl (by decide) rfl (Nat.le_of_ble_eq_true rfl) (Nat.le_of_ble_eq_true rfl) (by decide) n_324 k_324 rfl rfl (t_X13_tellsBy  h22) ?_
      refine J_if_ne (tgt := 45) dX13_pairsOf_39 (by decide) (fun c23 => ?_) (fun c23 => ?_)
      · have h := (if_neg c23).symm.trans h
        refine J_aload_n 0 dX13_pairsOf_45 rfl ?_
        refine J_iload 5 dX13_pairsOf_46 rfl ?_
        refine J_iload 6 dX13_pairsOf_48 rfl ?_
        obtain ⟨r24, σ25, h26, h⟩ := bd_inv h
        refine M_callVI (d' := 1) (k := 324) (As := [.int l5, .int l6]) (st := []) cv_X13_320 dX13_pairsOf_50 rfl (by decide) rfl (Nat.le_of_ble_eq_true rfl) (Nat.le_of_ble_eq_true rfl) (by decide) n_324 k_324 rfl rfl (t_X13_unlikeAt  h26) ?_
        refine J_istore (i := 7) (ls' := [(7, .int r24), (0, .ref 324), (1, .int l1), (2, .int l2), (3, .int l3), (4, .int l4), (5, .int l5), (6, .int l6)]) dX13_pairsOf_53 (by decide) rfl ?_
        refine J_aload_n 1 dX13_pairsOf_55 rfl ?_
        refine M_getR gf_X13_97_12 dX13_pairsOf_56 (g_324_41 _) k_324 n_324 ?_
        refine J_bipush (v := 6) dX13_pairsOf_59 (by decide) ?_
        refine J_iload 6 dX13_pairsOf_61 rfl ?_
        refine J_imul dX13_pairsOf_63 ?_
        refine J_iload 0 dX13_pairsOf_64 rfl ?_
        refine J_iadd dX13_pairsOf_66 ?_
        obtain ⟨g27, h⟩ := gd_inv h
        refine M_iald dX13_pairsOf_67 a_351 n_351 g27 ?_
        refine J_istore (i := 8) (ls' := [(8, .int (rI σ25 351 (Int32.toNatClampNeg ((6 * l5) + r24)))), (7, .int r24), (0, .ref 324), (1, .int l1), (2, .int l2), (3, .int l3), (4, .int l4), (5, .int l5), (6, .int l6)]) dX13_pairsOf_68 (by decide) rfl ?_
        refine J_aload_n 2 dX13_pairsOf_70 rfl ?_
        refine M_getR gf_X13_97_12 dX13_pairsOf_71 (g_324_41 _) k_324 n_324 ?_
        refine J_bipush (v := 6) dX13_pairsOf_74 (by decide) ?_
        refine J_iload 8 dX13_pairsOf_76 rfl ?_
        refine J_imul dX13_pairsOf_78 ?_
        refine J_iload 1 dX13_pairsOf_79 rfl ?_
        refine J_iadd dX13_pairsOf_81 ?_
        obtain ⟨g28, h⟩ := gd_inv h
        refine M_iald dX13_pairsOf_82 a_351 n_351 g28 ?_
        refine J_istore (i := 9) (ls' := [(9, .int (rI σ25 351 (Int32.toNatClampNeg ((6 * l6) + r24)))), (8, .int (rI σ25 351 (Int32.toNatClampNeg ((6 * l5) + r24)))), (7, .int r24), (0, .ref 324), (1, .int l1), (2, .int l2), (3, .int l3), (4, .int l4), (5, .int l5), (6, .int l6)]) dX13_pairsOf_83 (by decide) rfl ?_
        refine J_iload 1 dX13_pairsOf_85 rfl ?_
        refine J_iload_n 5 dX13_pairsOf_87 rfl ?_
        refine J_icmp_ne (tgt := 97) dX13_pairsOf_88 (by decide) (fun c29 => ?_) (fun c29 => ?_)
        · have h := (if_neg c29).symm.trans h
          refine J_pick [3, 4, 5, 6, 7, 8, 9, 1, 0] rfl ?_
          exact t_X13_pairsOf_97 hrec6 ih _ _ _ _ _ _ _ _ _ _  h
        · have h := (if_pos c29).symm.trans h
          refine J_iload 0 dX13_pairsOf_91 rfl ?_
          refine J_iload_n 6 dX13_pairsOf_93 rfl ?_
          refine J_icmp_eq (tgt := 109) dX13_pairsOf_94 (by decide) (fun c30 => ?_) (fun c30 => ?_)
          · have h := (if_pos c30).symm.trans h
            refine J_pick [3, 4, 5, 6, 7, 8, 9] rfl ?_
            exact t_X13_pairsOf_109 hrec6 ih _ _ _ _ _ _ _ _  h
          · have h := (if_neg c30).symm.trans h
            refine J_pick [3, 4, 5, 6, 7, 8, 9, 1, 0] rfl ?_
            exact t_X13_pairsOf_97 hrec6 ih _ _ _ _ _ _ _ _ _ _  h
      · have h := (if_pos c23).symm.trans h
        refine J_goto (tgt := 112) dX13_pairsOf_42 (by decide) ?_
        exact t_X13_pairsOf_112 hrec6 ih _ _ _ _ _ _ _ _  h
set_option maxRecDepth 20000 in
set_option maxHeartbeats 4000000 in
theorem t_X13_pairsOf_6  : ∀ (n : Nat) (l1 : Int32) (l2 : Int32) (l3 : Int32) (l4 : Int32) (l5 : Int32) (σ : jM) (r : Int32 × jM), f_X13_pairsOf_6  n l1 l2 l3 l4 l5 σ = some r → J mi_X13_pairsOf 3 0 0 (jqI r) 6 [(0, .ref 324), (1, .int l1), (2, .int l2), (3, .int l3), (4, .int l4), (5, .int l5)] [] (ms σ) := by
  intro n
  induction n with
  | zero =>
    intro l1 l2 l3 l4 l5 σ r  h
    have h : (none : Option (Int32 × jM)) = some r := h
    cases h
  | succ n ih =>
    intro l1 l2 l3 l4 l5 σ r  h
    have h : s_X13_pairsOf_6  (f_X13_pairsOf_6  n) l1 l2 l3 l4 l5 σ = some r := h
    unfold s_X13_pairsOf_6 at h
    refine J_iload 5 dX13_pairsOf_6 rfl ?_
    refine J_aload_n 0 dX13_pairsOf_8 rfl ?_
    refine M_getI gf_X13_307_12 dX13_pairsOf_9 k_324 n_324 ?_
    refine J_icmp_ge (tgt := 124) dX13_pairsOf_12 (by decide) (fun c32 => ?_) (fun c32 => ?_)
    · have h := (if_pos c32).symm.trans h
      refine J_iload 4 dX13_pairsOf_124 rfl ?_
      exact J_ret (v := some (.int l4)) rfl ⟨dX13_pairsOf_126, Or.inl rfl⟩ (jqI_mk h)
    · have h := (if_neg c32).symm.trans h
      refine J_iload 5 dX13_pairsOf_15 rfl ?_
      refine J_iconst (v := 1) dX13_pairsOf_17 (by decide) ?_
      refine J_iadd dX13_pairsOf_18 ?_
      refine J_istore (i := 6) (ls' := [(6, .int (l5 + 1)), (0, .ref 324), (1, .int l1), (2, .int l2), (3, .int l3), (4, .int l4), (5, .int l5)]) dX13_pairsOf_19 (by decide) rfl ?_
      refine J_pick [1, 2, 3, 4, 5, 6, 0] rfl ?_
      exact t_X13_pairsOf_21 ih _ _ _ _ _ _ _ _ _  h
set_option maxRecDepth 20000 in
set_option maxHeartbeats 4000000 in
theorem t_X13_pairsOf {a1 : Int32} {a2 : Int32} {a3 : Int32} {σ : jM} {r : Int32 × jM}  (h : f_X13_pairsOf a1 a2 a3 σ = some r) : J mi_X13_pairsOf 3 0 0 (jqI r) 0 [(0, .ref 324), (1, .int a1), (2, .int a2), (3, .int a3)] [] (ms σ) := by
  unfold f_X13_pairsOf at h
  refine J_iconst (v := 0) dX13_pairsOf_0 (by decide) ?_
  refine J_istore (i := 4) (ls' := [(4, .int 0), (0, .ref 324), (1, .int a1), (2, .int a2), (3, .int a3)]) dX13_pairsOf_1 (by decide) rfl ?_
  refine J_iconst (v := 0) dX13_pairsOf_3 (by decide) ?_
  refine J_istore (i := 5) (ls' := [(5, .int 0), (4, .int 0), (0, .ref 324), (1, .int a1), (2, .int a2), (3, .int a3)]) dX13_pairsOf_4 (by decide) rfl ?_
  refine J_pick [2, 3, 4, 5, 1, 0] rfl ?_
  exact t_X13_pairsOf_6  _ _ _ _ _ _ _ _  h
theorem dX13_pairs_0 : decode cX13_pairs 0 = .ok (.aload_n 0, 1) := by decide +kernel
theorem dX13_pairs_1 : decode cX13_pairs 1 = .ok (.iconst 0, 1) := by decide +kernel
theorem dX13_pairs_2 : decode cX13_pairs 2 = .ok (.putfield 1, 3) := by decide +kernel
theorem dX13_pairs_5 : decode cX13_pairs 5 = .ok (.iload_n 2, 1) := by decide +kernel
theorem dX13_pairs_6 : decode cX13_pairs 6 = .ok (.invokestatic 288, 3) := by decide +kernel
theorem dX13_pairs_9 : decode cX13_pairs 9 = .ok (.ifCond .eq 19, 3) := by decide +kernel
theorem dX13_pairs_12 : decode cX13_pairs 12 = .ok (.iload_n 3, 1) := by decide +kernel
theorem dX13_pairs_13 : decode cX13_pairs 13 = .ok (.invokestatic 288, 3) := by decide +kernel
theorem dX13_pairs_16 : decode cX13_pairs 16 = .ok (.ifCond .eq 12, 3) := by decide +kernel
theorem dX13_pairs_19 : decode cX13_pairs 19 = .ok (.aload_n 0, 1) := by decide +kernel
theorem dX13_pairs_20 : decode cX13_pairs 20 = .ok (.iload 4, 2) := by decide +kernel
theorem dX13_pairs_22 : decode cX13_pairs 22 = .ok (.invokevirtual 298, 3) := by decide +kernel
theorem dX13_pairs_25 : decode cX13_pairs 25 = .ok (.ifCond .ne 5, 3) := by decide +kernel
theorem dX13_pairs_28 : decode cX13_pairs 28 = .ok (.iconst (-1), 1) := by decide +kernel
theorem dX13_pairs_29 : decode cX13_pairs 29 = .ok (.ireturn, 1) := by decide +kernel
theorem dX13_pairs_30 : decode cX13_pairs 30 = .ok (.aload_n 0, 1) := by decide +kernel
theorem dX13_pairs_31 : decode cX13_pairs 31 = .ok (.iload 4, 2) := by decide +kernel
theorem dX13_pairs_33 : decode cX13_pairs 33 = .ok (.invokevirtual 326, 3) := by decide +kernel
theorem dX13_pairs_36 : decode cX13_pairs 36 = .ok (.istore 5, 2) := by decide +kernel
theorem dX13_pairs_38 : decode cX13_pairs 38 = .ok (.iload 5, 2) := by decide +kernel
theorem dX13_pairs_40 : decode cX13_pairs 40 = .ok (.iconst (-1), 1) := by decide +kernel
theorem dX13_pairs_41 : decode cX13_pairs 41 = .ok (.if_icmp .eq 20, 3) := by decide +kernel
theorem dX13_pairs_44 : decode cX13_pairs 44 = .ok (.iload_n 1, 1) := by decide +kernel
theorem dX13_pairs_45 : decode cX13_pairs 45 = .ok (.iconst 0, 1) := by decide +kernel
theorem dX13_pairs_46 : decode cX13_pairs 46 = .ok (.aload_n 0, 1) := by decide +kernel
theorem dX13_pairs_47 : decode cX13_pairs 47 = .ok (.getfield 32, 3) := by decide +kernel
theorem dX13_pairs_50 : decode cX13_pairs 50 = .ok (.iload 5, 2) := by decide +kernel
theorem dX13_pairs_52 : decode cX13_pairs 52 = .ok (.iaload, 1) := by decide +kernel
theorem dX13_pairs_53 : decode cX13_pairs 53 = .ok (.iconst 1, 1) := by decide +kernel
theorem dX13_pairs_54 : decode cX13_pairs 54 = .ok (.isub, 1) := by decide +kernel
theorem dX13_pairs_55 : decode cX13_pairs 55 = .ok (.invokestatic 169, 3) := by decide +kernel
theorem dX13_pairs_58 : decode cX13_pairs 58 = .ok (.ifCond .ne 5, 3) := by decide +kernel
theorem dX13_pairs_61 : decode cX13_pairs 61 = .ok (.iconst (-1), 1) := by decide +kernel
theorem dX13_pairs_62 : decode cX13_pairs 62 = .ok (.ireturn, 1) := by decide +kernel
theorem dX13_pairs_63 : decode cX13_pairs 63 = .ok (.aload_n 0, 1) := by decide +kernel
theorem dX13_pairs_64 : decode cX13_pairs 64 = .ok (.iload 4, 2) := by decide +kernel
theorem dX13_pairs_66 : decode cX13_pairs 66 = .ok (.invokevirtual 301, 3) := by decide +kernel
theorem dX13_pairs_69 : decode cX13_pairs 69 = .ok (.aload_n 0, 1) := by decide +kernel
theorem dX13_pairs_70 : decode cX13_pairs 70 = .ok (.iload 4, 2) := by decide +kernel
theorem dX13_pairs_72 : decode cX13_pairs 72 = .ok (.invokevirtual 329, 3) := by decide +kernel
theorem dX13_pairs_75 : decode cX13_pairs 75 = .ok (.aload_n 0, 1) := by decide +kernel
theorem dX13_pairs_76 : decode cX13_pairs 76 = .ok (.getfield 35, 3) := by decide +kernel
theorem dX13_pairs_79 : decode cX13_pairs 79 = .ok (.bipush 12, 2) := by decide +kernel
theorem dX13_pairs_81 : decode cX13_pairs 81 = .ok (.iload 5, 2) := by decide +kernel
theorem dX13_pairs_83 : decode cX13_pairs 83 = .ok (.imul, 1) := by decide +kernel
theorem dX13_pairs_84 : decode cX13_pairs 84 = .ok (.iload_n 1, 1) := by decide +kernel
theorem dX13_pairs_85 : decode cX13_pairs 85 = .ok (.iadd, 1) := by decide +kernel
theorem dX13_pairs_86 : decode cX13_pairs 86 = .ok (.iaload, 1) := by decide +kernel
theorem dX13_pairs_87 : decode cX13_pairs 87 = .ok (.iconst 1, 1) := by decide +kernel
theorem dX13_pairs_88 : decode cX13_pairs 88 = .ok (.if_icmp .gt 18, 3) := by decide +kernel
theorem dX13_pairs_91 : decode cX13_pairs 91 = .ok (.aload_n 0, 1) := by decide +kernel
theorem dX13_pairs_92 : decode cX13_pairs 92 = .ok (.getfield 72, 3) := by decide +kernel
theorem dX13_pairs_95 : decode cX13_pairs 95 = .ok (.iload_n 2, 1) := by decide +kernel
theorem dX13_pairs_96 : decode cX13_pairs 96 = .ok (.iaload, 1) := by decide +kernel
theorem dX13_pairs_97 : decode cX13_pairs 97 = .ok (.aload_n 0, 1) := by decide +kernel
theorem dX13_pairs_98 : decode cX13_pairs 98 = .ok (.getfield 72, 3) := by decide +kernel
theorem dX13_pairs_101 : decode cX13_pairs 101 = .ok (.iload_n 3, 1) := by decide +kernel
theorem dX13_pairs_102 : decode cX13_pairs 102 = .ok (.iaload, 1) := by decide +kernel
theorem dX13_pairs_103 : decode cX13_pairs 103 = .ok (.if_icmp .ne 7, 3) := by decide +kernel
theorem dX13_pairs_106 : decode cX13_pairs 106 = .ok (.iconst 0, 1) := by decide +kernel
theorem dX13_pairs_107 : decode cX13_pairs 107 = .ok (.goto 26, 3) := by decide +kernel
theorem dX13_pairs_110 : decode cX13_pairs 110 = .ok (.aload_n 0, 1) := by decide +kernel
theorem dX13_pairs_111 : decode cX13_pairs 111 = .ok (.bipush 12, 2) := by decide +kernel
theorem dX13_pairs_113 : decode cX13_pairs 113 = .ok (.iload 5, 2) := by decide +kernel
theorem dX13_pairs_115 : decode cX13_pairs 115 = .ok (.imul, 1) := by decide +kernel
theorem dX13_pairs_116 : decode cX13_pairs 116 = .ok (.iload_n 1, 1) := by decide +kernel
theorem dX13_pairs_117 : decode cX13_pairs 117 = .ok (.iadd, 1) := by decide +kernel
theorem dX13_pairs_118 : decode cX13_pairs 118 = .ok (.aload_n 0, 1) := by decide +kernel
theorem dX13_pairs_119 : decode cX13_pairs 119 = .ok (.getfield 72, 3) := by decide +kernel
theorem dX13_pairs_122 : decode cX13_pairs 122 = .ok (.iload_n 2, 1) := by decide +kernel
theorem dX13_pairs_123 : decode cX13_pairs 123 = .ok (.iaload, 1) := by decide +kernel
theorem dX13_pairs_124 : decode cX13_pairs 124 = .ok (.aload_n 0, 1) := by decide +kernel
theorem dX13_pairs_125 : decode cX13_pairs 125 = .ok (.getfield 72, 3) := by decide +kernel
theorem dX13_pairs_128 : decode cX13_pairs 128 = .ok (.iload_n 3, 1) := by decide +kernel
theorem dX13_pairs_129 : decode cX13_pairs 129 = .ok (.iaload, 1) := by decide +kernel
theorem dX13_pairs_130 : decode cX13_pairs 130 = .ok (.invokevirtual 332, 3) := by decide +kernel
theorem dX13_pairs_133 : decode cX13_pairs 133 = .ok (.ireturn, 1) := by decide +kernel
noncomputable def f_X13_pairs_28   (σ : jM) : Option (Int32 × jM) :=
  some ((-1), σ)
noncomputable def f_X13_pairs_61   (σ : jM) : Option (Int32 × jM) :=
  some ((-1), σ)
noncomputable def f_X13_pairs_133  (s0 : Int32) (σ : jM) : Option (Int32 × jM) :=
  some (s0, σ)
noncomputable def f_X13_pairs_106   (σ : jM) : Option (Int32 × jM) :=
  f_X13_pairs_133  0 σ
noncomputable def f_X13_pairs (a1 : Int32) (a2 : Int32) (a3 : Int32) (a4 : Int32) (σ : jM) : Option (Int32 × jM) :=
  bd (f_X13_isSignNumber a2 (wI σ 324 0 0)) (fun r7 σ8 => (if r7 = 0 then f_X13_pairs_28   σ8 else bd (f_X13_isSignNumber a3 σ8) (fun r11 σ12 => (if r11 = 0 then f_X13_pairs_28   σ12 else bd (f_X13_isKnown a4 σ12) (fun r15 σ16 => (if r15 = 0 then f_X13_pairs_28   σ16 else bd (f_X13_rulesBy a4 σ16) (fun r19 σ20 => (if r19 = (-1) then f_X13_pairs_61   σ20 else gd (inb r19 11) (bd (f_X13_within a1 0 ((rI σ20 331 (Int32.toNatClampNeg r19)) - 1) σ20) (fun r24 σ25 => (if r24 = 0 then f_X13_pairs_61   σ25 else bd (f_X13_findStands a4 σ25) (fun _ σ29 => bd (f_X13_findWholes a4 σ29) (fun _ σ32 => gd (inb ((12 * r19) + a1) 132) ((if 1 < (rI σ32 332 (Int32.toNatClampNeg ((12 * r19) + a1))) then f_X13_pairs_106   σ32 else gd (inb a2 40) (gd (inb a3 40) ((if (rI σ32 343 (Int32.toNatClampNeg a2)) = (rI σ32 343 (Int32.toNatClampNeg a3)) then f_X13_pairs_106   σ32 else gd (inb a2 40) (gd (inb a3 40) (bd (f_X13_pairsOf ((12 * r19) + a1) (rI σ32 343 (Int32.toNatClampNeg a2)) (rI σ32 343 (Int32.toNatClampNeg a3)) σ32) (fun r41 σ42 => f_X13_pairs_133  r41 σ42)))))))))))))))))))))
set_option maxRecDepth 20000 in
set_option maxHeartbeats 4000000 in
theorem t_X13_pairs_28   (σ : jM) (r : Int32 × jM)  (h : f_X13_pairs_28   σ = some r) : J mi_X13_pairs 4 0 0 (jqI r) 28 [] [] (ms σ) := by
  unfold f_X13_pairs_28 at h
  refine J_iconst (v := (-1)) dX13_pairs_28 (by decide) ?_
  exact J_ret (v := some (.int (-1))) rfl ⟨dX13_pairs_29, Or.inl rfl⟩ (jqI_mk h)
set_option maxRecDepth 20000 in
set_option maxHeartbeats 4000000 in
theorem t_X13_pairs_61   (σ : jM) (r : Int32 × jM)  (h : f_X13_pairs_61   σ = some r) : J mi_X13_pairs 4 0 0 (jqI r) 61 [] [] (ms σ) := by
  unfold f_X13_pairs_61 at h
  refine J_iconst (v := (-1)) dX13_pairs_61 (by decide) ?_
  exact J_ret (v := some (.int (-1))) rfl ⟨dX13_pairs_62, Or.inl rfl⟩ (jqI_mk h)
set_option maxRecDepth 20000 in
set_option maxHeartbeats 4000000 in
theorem t_X13_pairs_133  (s0 : Int32) (σ : jM) (r : Int32 × jM)  (h : f_X13_pairs_133  s0 σ = some r) : J mi_X13_pairs 4 0 0 (jqI r) 133 [] [.int s0] (ms σ) := by
  unfold f_X13_pairs_133 at h
  exact J_ret (v := some (.int s0)) rfl ⟨dX13_pairs_133, Or.inl rfl⟩ (jqI_mk h)
set_option maxRecDepth 20000 in
set_option maxHeartbeats 4000000 in
theorem t_X13_pairs_106   (σ : jM) (r : Int32 × jM)  (h : f_X13_pairs_106   σ = some r) : J mi_X13_pairs 4 0 0 (jqI r) 106 [] [] (ms σ) := by
  unfold f_X13_pairs_106 at h
  refine J_iconst (v := 0) dX13_pairs_106 (by decide) ?_
  refine J_goto (tgt := 133) dX13_pairs_107 (by decide) ?_
  exact t_X13_pairs_133  _ _ _  h
set_option maxRecDepth 20000 in
set_option maxHeartbeats 4000000 in
theorem t_X13_pairs {a1 : Int32} {a2 : Int32} {a3 : Int32} {a4 : Int32} {σ : jM} {r : Int32 × jM}  (h : f_X13_pairs a1 a2 a3 a4 σ = some r) : J mi_X13_pairs 4 0 0 (jqI r) 0 [(0, .ref 324), (1, .int a1), (2, .int a2), (3, .int a3), (4, .int a4)] [] (ms σ) := by
  unfold f_X13_pairs at h
  refine J_aload_n 0 dX13_pairs_0 rfl ?_
  refine J_iconst (v := 0) dX13_pairs_1 (by decide) ?_
  refine M_putI pf_X13_1_12 dX13_pairs_2 k_324 n_324 ⟨rfl, rfl⟩ ?_
  refine J_iload_n 2 dX13_pairs_5 rfl ?_
  obtain ⟨r7, σ8, h9, h⟩ := bd_inv h
  refine M_callSI (d' := 1) (As := [.int a2]) (st := []) cs_X13_288 dX13_pairs_6 rfl (Nat.le_of_ble_eq_true rfl) (Nat.le_of_ble_eq_true rfl) (by decide) rfl rfl (t_X13_isSignNumber  h9) ?_
  refine J_if_eq (tgt := 28) dX13_pairs_9 (by decide) (fun c10 => ?_) (fun c10 => ?_)
  · have h := (if_pos c10).symm.trans h
    refine J_pick [] rfl ?_
    exact t_X13_pairs_28   _ _  h
  · have h := (if_neg c10).symm.trans h
    refine J_iload_n 3 dX13_pairs_12 rfl ?_
    obtain ⟨r11, σ12, h13, h⟩ := bd_inv h
    refine M_callSI (d' := 1) (As := [.int a3]) (st := []) cs_X13_288 dX13_pairs_13 rfl (Nat.le_of_ble_eq_true rfl) (Nat.le_of_ble_eq_true rfl) (by decide) rfl rfl (t_X13_isSignNumber  h13) ?_
    refine J_if_eq (tgt := 28) dX13_pairs_16 (by decide) (fun c14 => ?_) (fun c14 => ?_)
    · have h := (if_pos c14).symm.trans h
      refine J_pick [] rfl ?_
      exact t_X13_pairs_28   _ _  h
    · have h := (if_neg c14).symm.trans h
      refine J_aload_n 0 dX13_pairs_19 rfl ?_
      refine J_iload 4 dX13_pairs_20 rfl ?_
      obtain ⟨r15, σ16, h17, h⟩ := bd_inv h
      refine M_callVI (d' := 1) (k := 324) (As := [.int a4]) (st := []) cv_X13_298 dX13_pairs_22 rfl (by decide) rfl (Nat.le_of_ble_eq_true rfl) (Nat.le_of_ble_eq_true rfl) (by decide) n_324 k_324 rfl rfl (t_X13_isKnown  h17) ?_
      refine J_if_ne (tgt := 30) dX13_pairs_25 (by decide) (fun c18 => ?_) (fun c18 => ?_)
      · have h := (if_neg c18).symm.trans h
        refine J_aload_n 0 dX13_pairs_30 rfl ?_
        refine J_iload 4 dX13_pairs_31 rfl ?_
        obtain ⟨r19, σ20, h21, h⟩ := bd_inv h
        refine M_callVI (d' := 1) (k := 324) (As := [.int a4]) (st := []) cv_X13_326 dX13_pairs_33 rfl (by decide) rfl (Nat.le_of_ble_eq_true rfl) (Nat.le_of_ble_eq_true rfl) (by decide) n_324 k_324 rfl rfl (t_X13_rulesBy  h21) ?_
        refine J_istore (i := 5) (ls' := [(5, .int r19), (0, .ref 324), (1, .int a1), (2, .int a2), (3, .int a3), (4, .int a4)]) dX13_pairs_36 (by decide) rfl ?_
        refine J_iload 0 dX13_pairs_38 rfl ?_
        refine J_iconst (v := (-1)) dX13_pairs_40 (by decide) ?_
        refine J_icmp_eq (tgt := 61) dX13_pairs_41 (by decide) (fun c22 => ?_) (fun c22 => ?_)
        · have h := (if_pos c22).symm.trans h
          refine J_pick [] rfl ?_
          exact t_X13_pairs_61   _ _  h
        · have h := (if_neg c22).symm.trans h
          refine J_iload_n 2 dX13_pairs_44 rfl ?_
          refine J_iconst (v := 0) dX13_pairs_45 (by decide) ?_
          refine J_aload_n 1 dX13_pairs_46 rfl ?_
          refine M_getR gf_X13_32_12 dX13_pairs_47 (g_324_10 _) k_324 n_324 ?_
          refine J_iload 0 dX13_pairs_50 rfl ?_
          obtain ⟨g23, h⟩ := gd_inv h
          refine M_iald dX13_pairs_52 a_331 n_331 g23 ?_
          refine J_iconst (v := 1) dX13_pairs_53 (by decide) ?_
          refine J_isub dX13_pairs_54 ?_
          obtain ⟨r24, σ25, h26, h⟩ := bd_inv h
          refine M_callSI (d' := 1) (As := [.int a1, .int 0, .int ((rI σ20 331 (Int32.toNatClampNeg r19)) - 1)]) (st := []) cs_X13_169 dX13_pairs_55 rfl (Nat.le_of_ble_eq_true rfl) (Nat.le_of_ble_eq_true rfl) (by decide) rfl rfl (t_X13_within  h26) ?_
          refine J_if_ne (tgt := 63) dX13_pairs_58 (by decide) (fun c27 => ?_) (fun c27 => ?_)
          · have h := (if_neg c27).symm.trans h
            refine J_aload_n 1 dX13_pairs_63 rfl ?_
            refine J_iload 5 dX13_pairs_64 rfl ?_
            obtain ⟨_, σ29, h30, h⟩ := bd_inv h
            refine M_callVV (d' := 2) (k := 324) (As := [.int a4]) (st := []) cv_X13_301 dX13_pairs_66 rfl (by decide) rfl (Nat.le_of_ble_eq_true rfl) (Nat.le_of_ble_eq_true rfl) (by decide) n_324 k_324 rfl rfl (t_X13_findStands  h30) ?_
            refine J_aload_n 1 dX13_pairs_69 rfl ?_
            refine J_iload 5 dX13_pairs_70 rfl ?_
            obtain ⟨_, σ32, h33, h⟩ := bd_inv h
            refine M_callVV (d' := 3) (k := 324) (As := [.int a4]) (st := []) cv_X13_329 dX13_pairs_72 rfl (by decide) rfl (Nat.le_of_ble_eq_true rfl) (Nat.le_of_ble_eq_true rfl) (by decide) n_324 k_324 rfl rfl (t_X13_findWholes  h33) ?_
            refine J_aload_n 1 dX13_pairs_75 rfl ?_
            refine M_getR gf_X13_35_12 dX13_pairs_76 (g_324_11 _) k_324 n_324 ?_
            refine J_bipush (v := 12) dX13_pairs_79 (by decide) ?_
            refine J_iload 0 dX13_pairs_81 rfl ?_
            refine J_imul dX13_pairs_83 ?_
            refine J_iload_n 2 dX13_pairs_84 rfl ?_
            refine J_iadd dX13_pairs_85 ?_
            obtain ⟨g34, h⟩ := gd_inv h
            refine M_iald dX13_pairs_86 a_332 n_332 g34 ?_
            refine J_iconst (v := 1) dX13_pairs_87 (by decide) ?_
            refine J_icmp_gt (tgt := 106) dX13_pairs_88 (by decide) (fun c35 => ?_) (fun c35 => ?_)
            · have h := (if_pos c35).symm.trans h
              refine J_pick [] rfl ?_
              exact t_X13_pairs_106   _ _  h
            · have h := (if_neg c35).symm.trans h
              refine J_aload_n 1 dX13_pairs_91 rfl ?_
              refine M_getR gf_X13_72_12 dX13_pairs_92 (g_324_31 _) k_324 n_324 ?_
              refine J_iload_n 3 dX13_pairs_95 rfl ?_
              obtain ⟨g36, h⟩ := gd_inv h
              refine M_iald dX13_pairs_96 a_343 n_343 g36 ?_
              refine J_aload_n 1 dX13_pairs_97 rfl ?_
              refine M_getR gf_X13_72_12 dX13_pairs_98 (g_324_31 _) k_324 n_324 ?_
              refine J_iload_n 4 dX13_pairs_101 rfl ?_
              obtain ⟨g37, h⟩ := gd_inv h
              refine M_iald dX13_pairs_102 a_343 n_343 g37 ?_
              refine J_icmp_ne (tgt := 110) dX13_pairs_103 (by decide) (fun c38 => ?_) (fun c38 => ?_)
              · have h := (if_neg c38).symm.trans h
                refine J_aload_n 1 dX13_pairs_110 rfl ?_
                refine J_bipush (v := 12) dX13_pairs_111 (by decide) ?_
                refine J_iload 0 dX13_pairs_113 rfl ?_
                refine J_imul dX13_pairs_115 ?_
                refine J_iload_n 2 dX13_pairs_116 rfl ?_
                refine J_iadd dX13_pairs_117 ?_
                refine J_aload_n 1 dX13_pairs_118 rfl ?_
                refine M_getR gf_X13_72_12 dX13_pairs_119 (g_324_31 _) k_324 n_324 ?_
                refine J_iload_n 3 dX13_pairs_122 rfl ?_
                obtain ⟨g39, h⟩ := gd_inv h
                refine M_iald dX13_pairs_123 a_343 n_343 g39 ?_
                refine J_aload_n 1 dX13_pairs_124 rfl ?_
                refine M_getR gf_X13_72_12 dX13_pairs_125 (g_324_31 _) k_324 n_324 ?_
                refine J_iload_n 4 dX13_pairs_128 rfl ?_
                obtain ⟨g40, h⟩ := gd_inv h
                refine M_iald dX13_pairs_129 a_343 n_343 g40 ?_
                obtain ⟨r41, σ42, h43, h⟩ := bd_inv h
                refine M_callVI (d' := 3) (k := 324) (As := [.int ((12 * r19) + a1), .int (rI σ32 343 (Int32.toNatClampNeg a2)), .int (rI σ32 343 (Int32.toNatClampNeg a3))]) (st := []) cv_X13_332 dX13_pairs_130 rfl (by decide) rfl (Nat.le_of_ble_eq_true rfl) (Nat.le_of_ble_eq_true rfl) (by decide) n_324 k_324 rfl rfl (t_X13_pairsOf  h43) ?_
                refine J_pick [] rfl ?_
                exact t_X13_pairs_133  _ _ _  h
              · have h := (if_pos c38).symm.trans h
                refine J_pick [] rfl ?_
                exact t_X13_pairs_106   _ _  h
          · have h := (if_pos c27).symm.trans h
            refine J_pick [] rfl ?_
            exact t_X13_pairs_61   _ _  h
      · have h := (if_pos c18).symm.trans h
        refine J_pick [] rfl ?_
        exact t_X13_pairs_28   _ _  h
theorem dX13_links_0 : decode cX13_links 0 = .ok (.aload_n 0, 1) := by decide +kernel
theorem dX13_links_1 : decode cX13_links 1 = .ok (.getfield 100, 3) := by decide +kernel
theorem dX13_links_4 : decode cX13_links 4 = .ok (.sipush 1600, 3) := by decide +kernel
theorem dX13_links_7 : decode cX13_links 7 = .ok (.iload_n 1, 1) := by decide +kernel
theorem dX13_links_8 : decode cX13_links 8 = .ok (.imul, 1) := by decide +kernel
theorem dX13_links_9 : decode cX13_links 9 = .ok (.bipush 40, 2) := by decide +kernel
theorem dX13_links_11 : decode cX13_links 11 = .ok (.iload_n 2, 1) := by decide +kernel
theorem dX13_links_12 : decode cX13_links 12 = .ok (.imul, 1) := by decide +kernel
theorem dX13_links_13 : decode cX13_links 13 = .ok (.iadd, 1) := by decide +kernel
theorem dX13_links_14 : decode cX13_links 14 = .ok (.iload_n 3, 1) := by decide +kernel
theorem dX13_links_15 : decode cX13_links 15 = .ok (.iadd, 1) := by decide +kernel
theorem dX13_links_16 : decode cX13_links 16 = .ok (.iconst 1, 1) := by decide +kernel
theorem dX13_links_17 : decode cX13_links 17 = .ok (.bastore, 1) := by decide +kernel
theorem dX13_links_18 : decode cX13_links 18 = .ok (.aload_n 0, 1) := by decide +kernel
theorem dX13_links_19 : decode cX13_links 19 = .ok (.getfield 100, 3) := by decide +kernel
theorem dX13_links_22 : decode cX13_links 22 = .ok (.sipush 1600, 3) := by decide +kernel
theorem dX13_links_25 : decode cX13_links 25 = .ok (.iload_n 1, 1) := by decide +kernel
theorem dX13_links_26 : decode cX13_links 26 = .ok (.imul, 1) := by decide +kernel
theorem dX13_links_27 : decode cX13_links 27 = .ok (.bipush 40, 2) := by decide +kernel
theorem dX13_links_29 : decode cX13_links 29 = .ok (.iload_n 3, 1) := by decide +kernel
theorem dX13_links_30 : decode cX13_links 30 = .ok (.imul, 1) := by decide +kernel
theorem dX13_links_31 : decode cX13_links 31 = .ok (.iadd, 1) := by decide +kernel
theorem dX13_links_32 : decode cX13_links 32 = .ok (.iload_n 2, 1) := by decide +kernel
theorem dX13_links_33 : decode cX13_links 33 = .ok (.iadd, 1) := by decide +kernel
theorem dX13_links_34 : decode cX13_links 34 = .ok (.iconst 1, 1) := by decide +kernel
theorem dX13_links_35 : decode cX13_links 35 = .ok (.bastore, 1) := by decide +kernel
theorem dX13_links_36 : decode cX13_links 36 = .ok (.return_, 1) := by decide +kernel
noncomputable def f_X13_links (a1 : Int32) (a2 : Int32) (a3 : Int32) (σ : jM) : Option (Unit × jM) :=
  gd (inb (((1600 * a1) + (40 * a2)) + a3) 3200) (gd (inb (((1600 * a1) + (40 * a3)) + a2) 3200) (some ((), wI (wI σ 352 (Int32.toNatClampNeg (((1600 * a1) + (40 * a2)) + a3)) (vp_nar .boolean 1)) 352 (Int32.toNatClampNeg (((1600 * a1) + (40 * a3)) + a2)) (vp_nar .boolean 1))))
set_option maxRecDepth 20000 in
set_option maxHeartbeats 4000000 in
theorem t_X13_links {a1 : Int32} {a2 : Int32} {a3 : Int32} {σ : jM} {r : Unit × jM}  (h : f_X13_links a1 a2 a3 σ = some r) : J mi_X13_links 1 0 0 (jqV r) 0 [(0, .ref 324), (1, .int a1), (2, .int a2), (3, .int a3)] [] (ms σ) := by
  unfold f_X13_links at h
  refine J_aload_n 0 dX13_links_0 rfl ?_
  refine M_getR gf_X13_100_12 dX13_links_1 (g_324_42 _) k_324 n_324 ?_
  refine J_sipush (v := 1600) dX13_links_4 (by decide) ?_
  refine J_iload_n 1 dX13_links_7 rfl ?_
  refine J_imul dX13_links_8 ?_
  refine J_bipush (v := 40) dX13_links_9 (by decide) ?_
  refine J_iload_n 2 dX13_links_11 rfl ?_
  refine J_imul dX13_links_12 ?_
  refine J_iadd dX13_links_13 ?_
  refine J_iload_n 3 dX13_links_14 rfl ?_
  refine J_iadd dX13_links_15 ?_
  refine J_iconst (v := 1) dX13_links_16 (by decide) ?_
  obtain ⟨g3, h⟩ := gd_inv h
  refine M_zast dX13_links_17 a_352 n_352 g3 ?_
  refine J_aload_n 0 dX13_links_18 rfl ?_
  refine M_getR gf_X13_100_12 dX13_links_19 (g_324_42 _) k_324 n_324 ?_
  refine J_sipush (v := 1600) dX13_links_22 (by decide) ?_
  refine J_iload_n 1 dX13_links_25 rfl ?_
  refine J_imul dX13_links_26 ?_
  refine J_bipush (v := 40) dX13_links_27 (by decide) ?_
  refine J_iload_n 3 dX13_links_29 rfl ?_
  refine J_imul dX13_links_30 ?_
  refine J_iadd dX13_links_31 ?_
  refine J_iload_n 2 dX13_links_32 rfl ?_
  refine J_iadd dX13_links_33 ?_
  refine J_iconst (v := 1) dX13_links_34 (by decide) ?_
  obtain ⟨g4, h⟩ := gd_inv h
  refine M_zast dX13_links_35 a_352 n_352 g4 ?_
  exact J_ret (v := none) rfl ⟨dX13_links_36, rfl⟩ (jqV_mk h)
