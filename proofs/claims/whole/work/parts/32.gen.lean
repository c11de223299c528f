theorem dX13_fits_0 : decode cX13_fits 0 = .ok (.aload_n 0, 1) := by decide +kernel
theorem dX13_fits_1 : decode cX13_fits 1 = .ok (.iconst 0, 1) := by decide +kernel
theorem dX13_fits_2 : decode cX13_fits 2 = .ok (.putfield 1, 3) := by decide +kernel
theorem dX13_fits_5 : decode cX13_fits 5 = .ok (.aload_n 0, 1) := by decide +kernel
theorem dX13_fits_6 : decode cX13_fits 6 = .ok (.iload_n 1, 1) := by decide +kernel
theorem dX13_fits_7 : decode cX13_fits 7 = .ok (.invokevirtual 298, 3) := by decide +kernel
theorem dX13_fits_10 : decode cX13_fits 10 = .ok (.ifCond .eq 10, 3) := by decide +kernel
theorem dX13_fits_13 : decode cX13_fits 13 = .ok (.aload_n 0, 1) := by decide +kernel
theorem dX13_fits_14 : decode cX13_fits 14 = .ok (.invokevirtual 380, 3) := by decide +kernel
theorem dX13_fits_17 : decode cX13_fits 17 = .ok (.ifCond .ne 5, 3) := by decide +kernel
theorem dX13_fits_20 : decode cX13_fits 20 = .ok (.iconst (-1), 1) := by decide +kernel
theorem dX13_fits_21 : decode cX13_fits 21 = .ok (.ireturn, 1) := by decide +kernel
theorem dX13_fits_22 : decode cX13_fits 22 = .ok (.aload_n 0, 1) := by decide +kernel
theorem dX13_fits_23 : decode cX13_fits 23 = .ok (.bipush 6, 2) := by decide +kernel
theorem dX13_fits_25 : decode cX13_fits 25 = .ok (.iconst 0, 1) := by decide +kernel
theorem dX13_fits_26 : decode cX13_fits 26 = .ok (.invokevirtual 386, 3) := by decide +kernel
theorem dX13_fits_29 : decode cX13_fits 29 = .ok (.aload_n 0, 1) := by decide +kernel
theorem dX13_fits_30 : decode cX13_fits 30 = .ok (.iload_n 1, 1) := by decide +kernel
theorem dX13_fits_31 : decode cX13_fits 31 = .ok (.iconst 0, 1) := by decide +kernel
theorem dX13_fits_32 : decode cX13_fits 32 = .ok (.invokevirtual 432, 3) := by decide +kernel
theorem dX13_fits_35 : decode cX13_fits 35 = .ok (.aload_n 0, 1) := by decide +kernel
theorem dX13_fits_36 : decode cX13_fits 36 = .ok (.bipush 6, 2) := by decide +kernel
theorem dX13_fits_38 : decode cX13_fits 38 = .ok (.iload_n 1, 1) := by decide +kernel
theorem dX13_fits_39 : decode cX13_fits 39 = .ok (.invokevirtual 401, 3) := by decide +kernel
theorem dX13_fits_42 : decode cX13_fits 42 = .ok (.iconst 0, 1) := by decide +kernel
theorem dX13_fits_43 : decode cX13_fits 43 = .ok (.istore_n 2, 1) := by decide +kernel
theorem dX13_fits_44 : decode cX13_fits 44 = .ok (.iload_n 2, 1) := by decide +kernel
theorem dX13_fits_45 : decode cX13_fits 45 = .ok (.sipush 192, 3) := by decide +kernel
theorem dX13_fits_48 : decode cX13_fits 48 = .ok (.if_icmp .ge 16, 3) := by decide +kernel
theorem dX13_fits_51 : decode cX13_fits 51 = .ok (.aload_n 0, 1) := by decide +kernel
theorem dX13_fits_52 : decode cX13_fits 52 = .ok (.getfield 163, 3) := by decide +kernel
theorem dX13_fits_55 : decode cX13_fits 55 = .ok (.iload_n 2, 1) := by decide +kernel
theorem dX13_fits_56 : decode cX13_fits 56 = .ok (.iconst 0, 1) := by decide +kernel
theorem dX13_fits_57 : decode cX13_fits 57 = .ok (.bastore, 1) := by decide +kernel
theorem dX13_fits_58 : decode cX13_fits 58 = .ok (.iinc 2 1, 3) := by decide +kernel
theorem dX13_fits_61 : decode cX13_fits 61 = .ok (.goto (-17), 3) := by decide +kernel
theorem dX13_fits_64 : decode cX13_fits 64 = .ok (.aload_n 0, 1) := by decide +kernel
theorem dX13_fits_65 : decode cX13_fits 65 = .ok (.iconst 3, 1) := by decide +kernel
theorem dX13_fits_66 : decode cX13_fits 66 = .ok (.iload_n 1, 1) := by decide +kernel
theorem dX13_fits_67 : decode cX13_fits 67 = .ok (.invokevirtual 435, 3) := by decide +kernel
theorem dX13_fits_70 : decode cX13_fits 70 = .ok (.iconst 0, 1) := by decide +kernel
theorem dX13_fits_71 : decode cX13_fits 71 = .ok (.istore_n 2, 1) := by decide +kernel
theorem dX13_fits_72 : decode cX13_fits 72 = .ok (.iconst 0, 1) := by decide +kernel
theorem dX13_fits_73 : decode cX13_fits 73 = .ok (.istore_n 3, 1) := by decide +kernel
theorem dX13_fits_74 : decode cX13_fits 74 = .ok (.iload_n 3, 1) := by decide +kernel
theorem dX13_fits_75 : decode cX13_fits 75 = .ok (.sipush 192, 3) := by decide +kernel
theorem dX13_fits_78 : decode cX13_fits 78 = .ok (.if_icmp .ge 21, 3) := by decide +kernel
theorem dX13_fits_81 : decode cX13_fits 81 = .ok (.aload_n 0, 1) := by decide +kernel
theorem dX13_fits_82 : decode cX13_fits 82 = .ok (.getfield 163, 3) := by decide +kernel
theorem dX13_fits_85 : decode cX13_fits 85 = .ok (.iload_n 3, 1) := by decide +kernel
theorem dX13_fits_86 : decode cX13_fits 86 = .ok (.baload, 1) := by decide +kernel
theorem dX13_fits_87 : decode cX13_fits 87 = .ok (.ifCond .eq 6, 3) := by decide +kernel
theorem dX13_fits_90 : decode cX13_fits 90 = .ok (.iinc 2 1, 3) := by decide +kernel
theorem dX13_fits_93 : decode cX13_fits 93 = .ok (.iinc 3 1, 3) := by decide +kernel
theorem dX13_fits_96 : decode cX13_fits 96 = .ok (.goto (-22), 3) := by decide +kernel
theorem dX13_fits_99 : decode cX13_fits 99 = .ok (.iload_n 2, 1) := by decide +kernel
theorem dX13_fits_100 : decode cX13_fits 100 = .ok (.ireturn, 1) := by decide +kernel
noncomputable def f_X13_fits_20   (σ : jM) : Option (Int32 × jM) :=
  some ((-1), σ)
noncomputable def f_X13_fits_93 (rec74 : Int32 → Int32 → jM → Option (Int32 × jM)) (l2 : Int32) (l3 : Int32) (σ : jM) : Option (Int32 × jM) :=
  rec74 l2 (l3 + 1) σ
noncomputable def s_X13_fits_74  (rec74 : Int32 → Int32 → jM → Option (Int32 × jM)) (l2 : Int32) (l3 : Int32) (σ : jM) : Option (Int32 × jM) :=
  (if 192 ≤ l3 then some (l2, σ) else gd (inb l3 192) ((if (rI σ 373 (Int32.toNatClampNeg l3)) = 0 then f_X13_fits_93 rec74 l2 l3 σ else f_X13_fits_93 rec74 (l2 + 1) l3 σ)))
noncomputable def f_X13_fits_74  (n : Nat) : Int32 → Int32 → jM → Option (Int32 × jM) := Nat.rec (motive := fun _ => Int32 → Int32 → jM → Option (Int32 × jM)) (fun _ _ _ => none) (fun _ q => s_X13_fits_74  q) n
noncomputable def s_X13_fits_44  (rec44 : Int32 → Int32 → jM → Option (Int32 × jM)) (l1 : Int32) (l2 : Int32) (σ : jM) : Option (Int32 × jM) :=
  (if 192 ≤ l2 then bd (f_X13_goesThrough 3 l1 σ) (fun _ σ11 => f_X13_fits_74  Fu 0 0 σ11) else gd (inb l2 192) (rec44 l1 (l2 + 1) (wI σ 373 (Int32.toNatClampNeg l2) (vp_nar .boolean 0))))
noncomputable def f_X13_fits_44  (n : Nat) : Int32 → Int32 → jM → Option (Int32 × jM) := Nat.rec (motive := fun _ => Int32 → Int32 → jM → Option (Int32 × jM)) (fun _ _ _ => none) (fun _ q => s_X13_fits_44  q) n
noncomputable def f_X13_fits (a1 : Int32) (σ : jM) : Option (Int32 × jM) :=
  bd (f_X13_isKnown a1 (wI σ 324 0 0)) (fun r19 σ20 => (if r19 = 0 then f_X13_fits_20   σ20 else bd (f_X13_isName  σ20) (fun r23 σ24 => (if r23 = 0 then f_X13_fits_20   σ24 else bd (f_X13_takesName 6 0 σ24) (fun _ σ28 => bd (f_X13_takes a1 0 σ28) (fun _ σ31 => bd (f_X13_spells 6 a1 σ31) (fun _ σ34 => f_X13_fits_44  Fu a1 0 σ34)))))))
set_option maxRecDepth 20000 in
set_option maxHeartbeats 4000000 in
theorem t_X13_fits_20   (σ : jM) (r : Int32 × jM)  (h : f_X13_fits_20   σ = some r) : J mi_X13_fits 6 0 0 (jqI r) 20 [] [] (ms σ) := by
  unfold f_X13_fits_20 at h
  refine J_iconst (v := (-1)) dX13_fits_20 (by decide) ?_
  exact J_ret (v := some (.int (-1))) rfl ⟨dX13_fits_21, Or.inl rfl⟩ (jqI_mk h)
set_option maxRecDepth 20000 in
set_option maxHeartbeats 4000000 in
theorem t_X13_fits_93 {rec74 : Int32 → Int32 → jM → Option (Int32 × jM)} (hrec74 : ∀ (l2 : Int32) (l3 : Int32) (σ : jM) (r : Int32 × jM), rec74 l2 l3 σ = some r → J mi_X13_fits 6 0 0 (jqI r) 74 [(0, .ref 324), (2, .int l2), (3, .int l3)] [] (ms σ)) (l2 : Int32) (l3 : Int32) (σ : jM) (r : Int32 × jM)  (h : f_X13_fits_93 rec74 l2 l3 σ = some r) : J mi_X13_fits 6 0 0 (jqI r) 93 [(0, .ref 324), (2, .int l2), (3, .int l3)] [] (ms σ) := by
  unfold f_X13_fits_93 at h
  refine J_iinc (v := (l3 + 1)) (ls' := [(3, .int (l3 + 1)), (0, .ref 324), (2, .int l2)]) 2 dX13_fits_93 rfl rfl (by decide) rfl ?_
  refine J_goto (tgt := 74) dX13_fits_96 (by decide) ?_
  refine J_pick [1, 2, 0] rfl ?_
  exact hrec74 _ _ _ _  h
set_option maxRecDepth 20000 in
set_option maxHeartbeats 4000000 in
theorem t_X13_fits_74  : ∀ (n : Nat) (l2 : Int32) (l3 : Int32) (σ : jM) (r : Int32 × jM), f_X13_fits_74  n l2 l3 σ = some r → J mi_X13_fits 6 0 0 (jqI r) 74 [(0, .ref 324), (2, .int l2), (3, .int l3)] [] (ms σ) := by
  intro n
  induction n with
  | zero =>
    intro l2 l3 σ r  h
    have h : (none : Option (Int32 × jM)) = some r := h
    cases h
  | succ n ih =>
    intro l2 l3 σ r  h
    have h : s_X13_fits_74  (f_X13_fits_74  n) l2 l3 σ = some r := h
    unfold s_X13_fits_74 at h
    refine J_iload_n 2 dX13_fits_74 rfl ?_
    refine J_sipush (v := 192) dX13_fits_75 (by decide) ?_
    refine J_icmp_ge (tgt := 99) dX13_fits_78 (by decide) (fun c6 => ?_) (fun c6 => ?_)
    · have h := (if_pos c6).symm.trans h
      refine J_iload_n 1 dX13_fits_99 rfl ?_
      exact J_ret (v := some (.int l2)) rfl ⟨dX13_fits_100, Or.inl rfl⟩ (jqI_mk h)
    · have h := (if_neg c6).symm.trans h
      refine J_aload_n 0 dX13_fits_81 rfl ?_
      refine M_getR gf_X13_163_12 dX13_fits_82 (g_324_73 _) k_324 n_324 ?_
      refine J_iload_n 2 dX13_fits_85 rfl ?_
      obtain ⟨g7, h⟩ := gd_inv h
      refine M_zald dX13_fits_86 a_373 n_373 g7 ?_
      refine J_if_eq (tgt := 93) dX13_fits_87 (by decide) (fun c8 => ?_) (fun c8 => ?_)
      · have h := (if_pos c8).symm.trans h
        exact t_X13_fits_93 ih _ _ _ _  h
      · have h := (if_neg c8).symm.trans h
        refine J_iinc (v := (l2 + 1)) (ls' := [(2, .int (l2 + 1)), (0, .ref 324), (3, .int l3)]) 1 dX13_fits_90 rfl rfl (by decide) rfl ?_
        refine J_pick [1, 0, 2] rfl ?_
        exact t_X13_fits_93 ih _ _ _ _  h
set_option maxRecDepth 20000 in
set_option maxHeartbeats 4000000 in
theorem t_X13_fits_44  : ∀ (n : Nat) (l1 : Int32) (l2 : Int32) (σ : jM) (r : Int32 × jM), f_X13_fits_44  n l1 l2 σ = some r → J mi_X13_fits 6 0 0 (jqI r) 44 [(0, .ref 324), (1, .int l1), (2, .int l2)] [] (ms σ) := by
  intro n
  induction n with
  | zero =>
    intro l1 l2 σ r  h
    have h : (none : Option (Int32 × jM)) = some r := h
    cases h
  | succ n ih =>
    intro l1 l2 σ r  h
    have h : s_X13_fits_44  (f_X13_fits_44  n) l1 l2 σ = some r := h
    unfold s_X13_fits_44 at h
    refine J_iload_n 2 dX13_fits_44 rfl ?_
    refine J_sipush (v := 192) dX13_fits_45 (by decide) ?_
    refine J_icmp_ge (tgt := 64) dX13_fits_48 (by decide) (fun c14 => ?_) (fun c14 => ?_)
    · have h := (if_pos c14).symm.trans h
      refine J_aload_n 0 dX13_fits_64 rfl ?_
      refine J_iconst (v := 3) dX13_fits_65 (by decide) ?_
      refine J_iload_n 1 dX13_fits_66 rfl ?_
      obtain ⟨_, σ16, h17, h⟩ := bd_inv h
      refine M_callVV (d' := 5) (k := 324) (As := [.int 3, .int l1]) (st := []) cv_X13_435 dX13_fits_67 rfl (by decide) rfl (Nat.le_of_ble_eq_true rfl) (Nat.le_of_ble_eq_true rfl) (by decide) n_324 k_324 rfl rfl (t_X13_goesThrough  h17) ?_
      refine J_iconst (v := 0) dX13_fits_70 (by decide) ?_
      refine J_istore_n (i := 2) (ls' := [(2, .int 0), (0, .ref 324), (1, .int l1)]) dX13_fits_71 rfl (by decide) rfl ?_
      refine J_iconst (v := 0) dX13_fits_72 (by decide) ?_
      refine J_istore_n (i := 3) (ls' := [(3, .int 0), (2, .int 0), (0, .ref 324), (1, .int l1)]) dX13_fits_73 rfl (by decide) rfl ?_
      refine J_pick [2, 1, 0] rfl ?_
      exact t_X13_fits_74  _ _ _ _ _  h
    · have h := (if_neg c14).symm.trans h
      refine J_aload_n 0 dX13_fits_51 rfl ?_
      refine M_getR gf_X13_163_12 dX13_fits_52 (g_324_73 _) k_324 n_324 ?_
      refine J_iload_n 2 dX13_fits_55 rfl ?_
      refine J_iconst (v := 0) dX13_fits_56 (by decide) ?_
      obtain ⟨g18, h⟩ := gd_inv h
      refine M_zast dX13_fits_57 a_373 n_373 g18 ?_
      refine J_iinc (v := (l2 + 1)) (ls' := [(2, .int (l2 + 1)), (0, .ref 324), (1, .int l1)]) 2 dX13_fits_58 rfl rfl (by decide) rfl ?_
      refine J_goto (tgt := 44) dX13_fits_61 (by decide) ?_
      refine J_pick [1, 2, 0] rfl ?_
      exact ih _ _ _ _  h
set_option maxRecDepth 20000 in
set_option maxHeartbeats 4000000 in
theorem t_X13_fits {a1 : Int32} {σ : jM} {r : Int32 × jM}  (h : f_X13_fits a1 σ = some r) : J mi_X13_fits 6 0 0 (jqI r) 0 [(0, .ref 324), (1, .int a1)] [] (ms σ) := by
  unfold f_X13_fits at h
  refine J_aload_n 0 dX13_fits_0 rfl ?_
  refine J_iconst (v := 0) dX13_fits_1 (by decide) ?_
  refine M_putI pf_X13_1_12 dX13_fits_2 k_324 n_324 ⟨rfl, rfl⟩ ?_
  refine J_aload_n 0 dX13_fits_5 rfl ?_
  refine J_iload_n 1 dX13_fits_6 rfl ?_
  obtain ⟨r19, σ20, h21, h⟩ := bd_inv h
  refine M_callVI (d' := 1) (k := 324) (As := [.int a1]) (st := []) cv_X13_298 dX13_fits_7 rfl (by decide) rfl (Nat.le_of_ble_eq_true rfl) (Nat.le_of_ble_eq_true rfl) (by decide) n_324 k_324 rfl rfl (t_X13_isKnown  h21) ?_
  refine J_if_eq (tgt := 20) dX13_fits_10 (by decide) (fun c22 => ?_) (fun c22 => ?_)
  · have h := (if_pos c22).symm.trans h
    refine J_pick [] rfl ?_
    exact t_X13_fits_20   _ _  h
  · have h := (if_neg c22).symm.trans h
    refine J_aload_n 0 dX13_fits_13 rfl ?_
    obtain ⟨r23, σ24, h25, h⟩ := bd_inv h
    refine M_callVI (d' := 2) (k := 324) (As := []) (st := []) cv_X13_380 dX13_fits_14 rfl (by decide) rfl (Nat.le_of_ble_eq_true rfl) (Nat.le_of_ble_eq_true rfl) (by decide) n_324 k_324 rfl rfl (t_X13_isName  h25) ?_
    refine J_if_ne (tgt := 22) dX13_fits_17 (by decide) (fun c26 => ?_) (fun c26 => ?_)
    · have h := (if_neg c26).symm.trans h
      refine J_aload_n 0 dX13_fits_22 rfl ?_
      refine J_bipush (v := 6) dX13_fits_23 (by decide) ?_
      refine J_iconst (v := 0) dX13_fits_25 (by decide) ?_
      obtain ⟨_, σ28, h29, h⟩ := bd_inv h
      refine M_callVV (d' := 1) (k := 324) (As := [.int 6, .int 0]) (st := []) cv_X13_386 dX13_fits_26 rfl (by decide) rfl (Nat.le_of_ble_eq_true rfl) (Nat.le_of_ble_eq_true rfl) (by decide) n_324 k_324 rfl rfl (t_X13_takesName  h29) ?_
      refine J_aload_n 0 dX13_fits_29 rfl ?_
      refine J_iload_n 1 dX13_fits_30 rfl ?_
      refine J_iconst (v := 0) dX13_fits_31 (by decide) ?_
      obtain ⟨_, σ31, h32, h⟩ := bd_inv h
      refine M_callVV (d' := 5) (k := 324) (As := [.int a1, .int 0]) (st := []) cv_X13_432 dX13_fits_32 rfl (by decide) rfl (Nat.le_of_ble_eq_true rfl) (Nat.le_of_ble_eq_true rfl) (by decide) n_324 k_324 rfl rfl (t_X13_takes  h32) ?_
      refine J_aload_n 0 dX13_fits_35 rfl ?_
      refine J_bipush (v := 6) dX13_fits_36 (by decide) ?_
      refine J_iload_n 1 dX13_fits_38 rfl ?_
      obtain ⟨_, σ34, h35, h⟩ := bd_inv h
      refine M_callVV (d' := 3) (k := 324) (As := [.int 6, .int a1]) (st := []) cv_X13_401 dX13_fits_39 rfl (by decide) rfl (Nat.le_of_ble_eq_true rfl) (Nat.le_of_ble_eq_true rfl) (by decide) n_324 k_324 rfl rfl (t_X13_spells  h35) ?_
      refine J_iconst (v := 0) dX13_fits_42 (by decide) ?_
      refine J_istore_n (i := 2) (ls' := [(2, .int 0), (0, .ref 324), (1, .int a1)]) dX13_fits_43 rfl (by decide) rfl ?_
      refine J_pick [1, 2, 0] rfl ?_
      exact t_X13_fits_44  _ _ _ _ _  h
    · have h := (if_pos c26).symm.trans h
      refine J_pick [] rfl ?_
      exact t_X13_fits_20   _ _  h
theorem dX13_doubt_0 : decode cX13_doubt 0 = .ok (.aload_n 0, 1) := by decide +kernel
theorem dX13_doubt_1 : decode cX13_doubt 1 = .ok (.iconst 0, 1) := by decide +kernel
theorem dX13_doubt_2 : decode cX13_doubt 2 = .ok (.putfield 1, 3) := by decide +kernel
theorem dX13_doubt_5 : decode cX13_doubt 5 = .ok (.aload_n 0, 1) := by decide +kernel
theorem dX13_doubt_6 : decode cX13_doubt 6 = .ok (.iload_n 1, 1) := by decide +kernel
theorem dX13_doubt_7 : decode cX13_doubt 7 = .ok (.invokevirtual 298, 3) := by decide +kernel
theorem dX13_doubt_10 : decode cX13_doubt 10 = .ok (.ifCond .eq 12, 3) := by decide +kernel
theorem dX13_doubt_13 : decode cX13_doubt 13 = .ok (.iload_n 2, 1) := by decide +kernel
theorem dX13_doubt_14 : decode cX13_doubt 14 = .ok (.iconst 0, 1) := by decide +kernel
theorem dX13_doubt_15 : decode cX13_doubt 15 = .ok (.iconst 1, 1) := by decide +kernel
theorem dX13_doubt_16 : decode cX13_doubt 16 = .ok (.invokestatic 169, 3) := by decide +kernel
theorem dX13_doubt_19 : decode cX13_doubt 19 = .ok (.ifCond .ne 5, 3) := by decide +kernel
theorem dX13_doubt_22 : decode cX13_doubt 22 = .ok (.iconst (-1), 1) := by decide +kernel
theorem dX13_doubt_23 : decode cX13_doubt 23 = .ok (.ireturn, 1) := by decide +kernel
theorem dX13_doubt_24 : decode cX13_doubt 24 = .ok (.iconst 0, 1) := by decide +kernel
theorem dX13_doubt_25 : decode cX13_doubt 25 = .ok (.istore_n 3, 1) := by decide +kernel
theorem dX13_doubt_26 : decode cX13_doubt 26 = .ok (.iconst 0, 1) := by decide +kernel
theorem dX13_doubt_27 : decode cX13_doubt 27 = .ok (.istore 4, 2) := by decide +kernel
theorem dX13_doubt_29 : decode cX13_doubt 29 = .ok (.iload 4, 2) := by decide +kernel
theorem dX13_doubt_31 : decode cX13_doubt 31 = .ok (.aload_n 0, 1) := by decide +kernel
theorem dX13_doubt_32 : decode cX13_doubt 32 = .ok (.getfield 383, 3) := by decide +kernel
theorem dX13_doubt_35 : decode cX13_doubt 35 = .ok (.if_icmp .ge 26, 3) := by decide +kernel
theorem dX13_doubt_38 : decode cX13_doubt 38 = .ok (.aload_n 0, 1) := by decide +kernel
theorem dX13_doubt_39 : decode cX13_doubt 39 = .ok (.iload 4, 2) := by decide +kernel
theorem dX13_doubt_41 : decode cX13_doubt 41 = .ok (.iload_n 1, 1) := by decide +kernel
theorem dX13_doubt_42 : decode cX13_doubt 42 = .ok (.invokevirtual 429, 3) := by decide +kernel
theorem dX13_doubt_45 : decode cX13_doubt 45 = .ok (.ifCond .eq 10, 3) := by decide +kernel
theorem dX13_doubt_48 : decode cX13_doubt 48 = .ok (.iload_n 3, 1) := by decide +kernel
theorem dX13_doubt_49 : decode cX13_doubt 49 = .ok (.iconst 1, 1) := by decide +kernel
theorem dX13_doubt_50 : decode cX13_doubt 50 = .ok (.iload 4, 2) := by decide +kernel
theorem dX13_doubt_52 : decode cX13_doubt 52 = .ok (.ishl, 1) := by decide +kernel
theorem dX13_doubt_53 : decode cX13_doubt 53 = .ok (.ior, 1) := by decide +kernel
theorem dX13_doubt_54 : decode cX13_doubt 54 = .ok (.istore_n 3, 1) := by decide +kernel
theorem dX13_doubt_55 : decode cX13_doubt 55 = .ok (.iinc 4 1, 3) := by decide +kernel
theorem dX13_doubt_58 : decode cX13_doubt 58 = .ok (.goto (-29), 3) := by decide +kernel
theorem dX13_doubt_61 : decode cX13_doubt 61 = .ok (.iconst 0, 1) := by decide +kernel
theorem dX13_doubt_62 : decode cX13_doubt 62 = .ok (.istore 4, 2) := by decide +kernel
theorem dX13_doubt_64 : decode cX13_doubt 64 = .ok (.iload 4, 2) := by decide +kernel
theorem dX13_doubt_66 : decode cX13_doubt 66 = .ok (.bipush 6, 2) := by decide +kernel
theorem dX13_doubt_68 : decode cX13_doubt 68 = .ok (.if_icmp .gt 78, 3) := by decide +kernel
theorem dX13_doubt_71 : decode cX13_doubt 71 = .ok (.iconst 0, 1) := by decide +kernel
theorem dX13_doubt_72 : decode cX13_doubt 72 = .ok (.istore 5, 2) := by decide +kernel
theorem dX13_doubt_74 : decode cX13_doubt 74 = .ok (.iload 5, 2) := by decide +kernel
theorem dX13_doubt_76 : decode cX13_doubt 76 = .ok (.iload_n 3, 1) := by decide +kernel
theorem dX13_doubt_77 : decode cX13_doubt 77 = .ok (.if_icmp .gt 63, 3) := by decide +kernel
theorem dX13_doubt_80 : decode cX13_doubt 80 = .ok (.iload 5, 2) := by decide +kernel
theorem dX13_doubt_82 : decode cX13_doubt 82 = .ok (.invokestatic 456, 3) := by decide +kernel
theorem dX13_doubt_85 : decode cX13_doubt 85 = .ok (.iload 4, 2) := by decide +kernel
theorem dX13_doubt_87 : decode cX13_doubt 87 = .ok (.if_icmp .ne 47, 3) := by decide +kernel
theorem dX13_doubt_90 : decode cX13_doubt 90 = .ok (.iload 5, 2) := by decide +kernel
theorem dX13_doubt_92 : decode cX13_doubt 92 = .ok (.iload_n 3, 1) := by decide +kernel
theorem dX13_doubt_93 : decode cX13_doubt 93 = .ok (.iconst (-1), 1) := by decide +kernel
theorem dX13_doubt_94 : decode cX13_doubt 94 = .ok (.ixor, 1) := by decide +kernel
theorem dX13_doubt_95 : decode cX13_doubt 95 = .ok (.iand, 1) := by decide +kernel
theorem dX13_doubt_96 : decode cX13_doubt 96 = .ok (.ifCond .eq 6, 3) := by decide +kernel
theorem dX13_doubt_99 : decode cX13_doubt 99 = .ok (.goto 35, 3) := by decide +kernel
theorem dX13_doubt_102 : decode cX13_doubt 102 = .ok (.aload_n 0, 1) := by decide +kernel
theorem dX13_doubt_103 : decode cX13_doubt 103 = .ok (.iload_n 1, 1) := by decide +kernel
theorem dX13_doubt_104 : decode cX13_doubt 104 = .ok (.iload 5, 2) := by decide +kernel
theorem dX13_doubt_106 : decode cX13_doubt 106 = .ok (.invokevirtual 432, 3) := by decide +kernel
theorem dX13_doubt_109 : decode cX13_doubt 109 = .ok (.aload_n 0, 1) := by decide +kernel
theorem dX13_doubt_110 : decode cX13_doubt 110 = .ok (.iconst 1, 1) := by decide +kernel
theorem dX13_doubt_111 : decode cX13_doubt 111 = .ok (.iload_n 1, 1) := by decide +kernel
theorem dX13_doubt_112 : decode cX13_doubt 112 = .ok (.invokevirtual 435, 3) := by decide +kernel
theorem dX13_doubt_115 : decode cX13_doubt 115 = .ok (.aload_n 0, 1) := by decide +kernel
theorem dX13_doubt_116 : decode cX13_doubt 116 = .ok (.getfield 411, 3) := by decide +kernel
theorem dX13_doubt_119 : decode cX13_doubt 119 = .ok (.ifCond .le 15, 3) := by decide +kernel
theorem dX13_doubt_122 : decode cX13_doubt 122 = .ok (.iload_n 2, 1) := by decide +kernel
theorem dX13_doubt_123 : decode cX13_doubt 123 = .ok (.ifCond .ne 8, 3) := by decide +kernel
theorem dX13_doubt_126 : decode cX13_doubt 126 = .ok (.iload 4, 2) := by decide +kernel
theorem dX13_doubt_128 : decode cX13_doubt 128 = .ok (.goto 5, 3) := by decide +kernel
theorem dX13_doubt_131 : decode cX13_doubt 131 = .ok (.iload 5, 2) := by decide +kernel
theorem dX13_doubt_133 : decode cX13_doubt 133 = .ok (.ireturn, 1) := by decide +kernel
theorem dX13_doubt_134 : decode cX13_doubt 134 = .ok (.iinc 5 1, 3) := by decide +kernel
theorem dX13_doubt_137 : decode cX13_doubt 137 = .ok (.goto (-63), 3) := by decide +kernel
theorem dX13_doubt_140 : decode cX13_doubt 140 = .ok (.iinc 4 1, 3) := by decide +kernel
theorem dX13_doubt_143 : decode cX13_doubt 143 = .ok (.goto (-79), 3) := by decide +kernel
theorem dX13_doubt_146 : decode cX13_doubt 146 = .ok (.iconst (-1), 1) := by decide +kernel
theorem dX13_doubt_147 : decode cX13_doubt 147 = .ok (.ireturn, 1) := by decide +kernel
noncomputable def f_X13_doubt_22   (σ : jM) : Option (Int32 × jM) :=
  some ((-1), σ)
noncomputable def f_X13_doubt_134 (rec64 : Int32 → Int32 → Int32 → Int32 → jM → Option (Int32 × jM)) (rec74 : Int32 → Int32 → Int32 → Int32 → Int32 → jM → Option (Int32 × jM)) (l1 : Int32) (l2 : Int32) (l3 : Int32) (l4 : Int32) (l5 : Int32) (σ : jM) : Option (Int32 × jM) :=
  rec74 l1 l2 l3 l4 (l5 + 1) σ
noncomputable def f_X13_doubt_133  (s0 : Int32) (σ : jM) : Option (Int32 × jM) :=
  some (s0, σ)
noncomputable def s_X13_doubt_74 (rec64 : Int32 → Int32 → Int32 → Int32 → jM → Option (Int32 × jM)) (rec74 : Int32 → Int32 → Int32 → Int32 → Int32 → jM → Option (Int32 × jM)) (l1 : Int32) (l2 : Int32) (l3 : Int32) (l4 : Int32) (l5 : Int32) (σ : jM) : Option (Int32 × jM) :=
  (if l3 < l5 then rec64 l1 l2 l3 (l4 + 1) σ else bd (f_X13_bits l5 σ) (fun r2 σ3 => (if r2 = l4 then (if (l5 &&& (l3 ^^^ (-1))) = 0 then bd (f_X13_takes l1 l5 σ3) (fun _ σ8 => bd (f_X13_goesThrough 1 l1 σ8) (fun _ σ11 => (if (rI σ11 324 68) ≤ 0 then f_X13_doubt_134 rec64 rec74 l1 l2 l3 l4 l5 σ11 else (if l2 = 0 then f_X13_doubt_133  l4 σ11 else f_X13_doubt_133  l5 σ11)))) else f_X13_doubt_134 rec64 rec74 l1 l2 l3 l4 l5 σ3) else f_X13_doubt_134 rec64 rec74 l1 l2 l3 l4 l5 σ3)))
noncomputable def f_X13_doubt_74 (rec64 : Int32 → Int32 → Int32 → Int32 → jM → Option (Int32 × jM)) (n : Nat) : Int32 → Int32 → Int32 → Int32 → Int32 → jM → Option (Int32 × jM) := Nat.rec (motive := fun _ => Int32 → Int32 → Int32 → Int32 → Int32 → jM → Option (Int32 × jM)) (fun _ _ _ _ _ _ => none) (fun _ q => s_X13_doubt_74 rec64 q) n
noncomputable def s_X13_doubt_64  (rec64 : Int32 → Int32 → Int32 → Int32 → jM → Option (Int32 × jM)) (l1 : Int32) (l2 : Int32) (l3 : Int32) (l4 : Int32) (σ : jM) : Option (Int32 × jM) :=
  (if 6 < l4 then some ((-1), σ) else f_X13_doubt_74 rec64 Fu l1 l2 l3 l4 0 σ)
noncomputable def f_X13_doubt_64  (n : Nat) : Int32 → Int32 → Int32 → Int32 → jM → Option (Int32 × jM) := Nat.rec (motive := fun _ => Int32 → Int32 → Int32 → Int32 → jM → Option (Int32 × jM)) (fun _ _ _ _ _ => none) (fun _ q => s_X13_doubt_64  q) n
noncomputable def f_X13_doubt_55 (rec29 : Int32 → Int32 → Int32 → Int32 → jM → Option (Int32 × jM)) (l1 : Int32) (l2 : Int32) (l3 : Int32) (l4 : Int32) (σ : jM) : Option (Int32 × jM) :=
  rec29 l1 l2 l3 (l4 + 1) σ
noncomputable def s_X13_doubt_29  (rec29 : Int32 → Int32 → Int32 → Int32 → jM → Option (Int32 × jM)) (l1 : Int32) (l2 : Int32) (l3 : Int32) (l4 : Int32) (σ : jM) : Option (Int32 × jM) :=
  (if (rI σ 324 55) ≤ l4 then f_X13_doubt_64  Fu l1 l2 l3 0 σ else bd (f_X13_nameCounts l4 l1 σ) (fun r32 σ33 => (if r32 = 0 then f_X13_doubt_55 rec29 l1 l2 l3 l4 σ33 else f_X13_doubt_55 rec29 l1 l2 (l3 ||| (1 <<< (l4 &&& 31))) l4 σ33)))
noncomputable def f_X13_doubt_29  (n : Nat) : Int32 → Int32 → Int32 → Int32 → jM → Option (Int32 × jM) := Nat.rec (motive := fun _ => Int32 → Int32 → Int32 → Int32 → jM → Option (Int32 × jM)) (fun _ _ _ _ _ => none) (fun _ q => s_X13_doubt_29  q) n
noncomputable def f_X13_doubt (a1 : Int32) (a2 : Int32) (σ : jM) : Option (Int32 × jM) :=
  bd (f_X13_isKnown a1 (wI σ 324 0 0)) (fun r41 σ42 => (if r41 = 0 then f_X13_doubt_22   σ42 else bd (f_X13_within a2 0 1 σ42) (fun r45 σ46 => (if r45 = 0 then f_X13_doubt_22   σ46 else f_X13_doubt_29  Fu a1 a2 0 0 σ46))))
set_option maxRecDepth 20000 in
set_option maxHeartbeats 4000000 in
theorem t_X13_doubt_22   (σ : jM) (r : Int32 × jM)  (h : f_X13_doubt_22   σ = some r) : J mi_X13_doubt 6 0 0 (jqI r) 22 [] [] (ms σ) := by
  unfold f_X13_doubt_22 at h
  refine J_iconst (v := (-1)) dX13_doubt_22 (by decide) ?_
  exact J_ret (v := some (.int (-1))) rfl ⟨dX13_doubt_23, Or.inl rfl⟩ (jqI_mk h)
set_option maxRecDepth 20000 in
set_option maxHeartbeats 4000000 in
theorem t_X13_doubt_134 {rec64 : Int32 → Int32 → Int32 → Int32 → jM → Option (Int32 × jM)} (hrec64 : ∀ (l1 : Int32) (l2 : Int32) (l3 : Int32) (l4 : Int32) (σ : jM) (r : Int32 × jM), rec64 l1 l2 l3 l4 σ = some r → J mi_X13_doubt 6 0 0 (jqI r) 64 [(0, .ref 324), (1, .int l1), (2, .int l2), (3, .int l3), (4, .int l4)] [] (ms σ)) {rec74 : Int32 → Int32 → Int32 → Int32 → Int32 → jM → Option (Int32 × jM)} (hrec74 : ∀ (l1 : Int32) (l2 : Int32) (l3 : Int32) (l4 : Int32) (l5 : Int32) (σ : jM) (r : Int32 × jM), rec74 l1 l2 l3 l4 l5 σ = some r → J mi_X13_doubt 6 0 0 (jqI r) 74 [(0, .ref 324), (1, .int l1), (2, .int l2), (3, .int l3), (4, .int l4), (5, .int l5)] [] (ms σ)) (l1 : Int32) (l2 : Int32) (l3 : Int32) (l4 : Int32) (l5 : Int32) (σ : jM) (r : Int32 × jM)  (h : f_X13_doubt_134 rec64 rec74 l1 l2 l3 l4 l5 σ = some r) : J mi_X13_doubt 6 0 0 (jqI r) 134 [(0, .ref 324), (1, .int l1), (2, .int l2), (3, .int l3), (4, .int l4), (5, .int l5)] [] (ms σ) := by
  unfold f_X13_doubt_134 at h
  refine J_iinc (v := (l5 + 1)) (ls' := [(5, .int (l5 + 1)), (0, .ref 324), (1, .int l1), (2, .int l2), (3, .int l3), (4, .int l4)]) 5 dX13_doubt_134 rfl rfl (by decide) rfl ?_
  refine J_goto (tgt := 74) dX13_doubt_137 (by decide) ?_
  refine J_pick [1, 2, 3, 4, 5, 0] rfl ?_
  exact hrec74 _ _ _ _ _ _ _  h
set_option maxRecDepth 20000 in
set_option maxHeartbeats 4000000 in
theorem t_X13_doubt_133  (s0 : Int32) (σ : jM) (r : Int32 × jM)  (h : f_X13_doubt_133  s0 σ = some r) : J mi_X13_doubt 6 0 0 (jqI r) 133 [] [.int s0] (ms σ) := by
  unfold f_X13_doubt_133 at h
  exact J_ret (v := some (.int s0)) rfl ⟨dX13_doubt_133, Or.inl rfl⟩ (jqI_mk h)
set_option maxRecDepth 20000 in
set_option maxHeartbeats 4000000 in
theorem t_X13_doubt_74 {rec64 : Int32 → Int32 → Int32 → Int32 → jM → Option (Int32 × jM)} (hrec64 : ∀ (l1 : Int32) (l2 : Int32) (l3 : Int32) (l4 : Int32) (σ : jM) (r : Int32 × jM), rec64 l1 l2 l3 l4 σ = some r → J mi_X13_doubt 6 0 0 (jqI r) 64 [(0, .ref 324), (1, .int l1), (2, .int l2), (3, .int l3), (4, .int l4)] [] (ms σ)) : ∀ (n : Nat) (l1 : Int32) (l2 : Int32) (l3 : Int32) (l4 : Int32) (l5 : Int32) (σ : jM) (r : Int32 × jM), f_X13_doubt_74 rec64 n l1 l2 l3 l4 l5 σ = some r → J mi_X13_doubt 6 0 0 (jqI r) 74 [(0, .ref 324), (1, .int l1), (2, .int l2), (3, .int l3), (4, .int l4), (5, .int l5)] [] (ms σ) := by
  intro n
  induction n with
  | zero =>
    intro l1 l2 l3 l4 l5 σ r  h
    have h : (none : Option (Int32 × jM)) = some r := h
    cases h
  | succ n ih =>
    intro l1 l2 l3 l4 l5 σ r  h
    have h : s_X13_doubt_74 rec64 (f_X13_doubt_74 rec64 n) l1 l2 l3 l4 l5 σ = some r := h
    unfold s_X13_doubt_74 at h
    refine J_iload 5 dX13_doubt_74 rfl ?_
    refine J_iload_n 3 dX13_doubt_76 rfl ?_
    refine J_icmp_gt (tgt := 140) dX13_doubt_77 (by decide) (fun c15 => ?_) (fun c15 => ?_)
    · have h := (if_pos c15).symm.trans h
      refine J_iinc (v := (l4 + 1)) (ls' := [(4, .int (l4 + 1)), (0, .ref 324), (1, .int l1), (2, .int l2), (3, .int l3), (5, .int l5)]) 4 dX13_doubt_140 rfl rfl (by decide) rfl ?_
      refine J_goto (tgt := 64) dX13_doubt_143 (by decide) ?_
      refine J_pick [1, 2, 3, 4, 0] rfl ?_
      exact hrec64 _ _ _ _ _ _  h
    · have h := (if_neg c15).symm.trans h
      refine J_iload 5 dX13_doubt_80 rfl ?_
      obtain ⟨r16, σ17, h18, h⟩ := bd_inv h
      refine M_callSI (d' := 1) (As := [.int l5]) (st := []) cs_X13_456 dX13_doubt_82 rfl (Nat.le_of_ble_eq_true rfl) (Nat.le_of_ble_eq_true rfl) (by decide) rfl rfl (t_X13_bits  h18) ?_
      refine J_iload 4 dX13_doubt_85 rfl ?_
      refine J_icmp_ne (tgt := 134) dX13_doubt_87 (by decide) (fun c19 => ?_) (fun c19 => ?_)
      · have h := (if_neg c19).symm.trans h
        exact t_X13_doubt_134 hrec64 ih _ _ _ _ _ _ _  h
      · have h := (if_pos c19).symm.trans h
        refine J_iload 5 dX13_doubt_90 rfl ?_
        refine J_iload_n 3 dX13_doubt_92 rfl ?_
        refine J_iconst (v := (-1)) dX13_doubt_93 (by decide) ?_
        refine J_ixor dX13_doubt_94 ?_
        refine J_iand dX13_doubt_95 ?_
        refine J_if_eq (tgt := 102) dX13_doubt_96 (by decide) (fun c20 => ?_) (fun c20 => ?_)
        · have h := (if_pos c20).symm.trans h
          refine J_aload_n 0 dX13_doubt_102 rfl ?_
          refine J_iload_n 1 dX13_doubt_103 rfl ?_
          refine J_iload 5 dX13_doubt_104 rfl ?_
          obtain ⟨_, σ22, h23, h⟩ := bd_inv h
          refine M_callVV (d' := 5) (k := 324) (As := [.int l1, .int l5]) (st := []) cv_X13_432 dX13_doubt_106 rfl (by decide) rfl (Nat.le_of_ble_eq_true rfl) (Nat.le_of_ble_eq_true rfl) (by decide) n_324 k_324 rfl rfl (t_X13_takes  h23) ?_
          refine J_aload_n 0 dX13_doubt_109 rfl ?_
          refine J_iconst (v := 1) dX13_doubt_110 (by decide) ?_
          refine J_iload_n 1 dX13_doubt_111 rfl ?_
          obtain ⟨_, σ25, h26, h⟩ := bd_inv h
          refine M_callVV (d' := 5) (k := 324) (As := [.int 1, .int l1]) (st := []) cv_X13_435 dX13_doubt_112 rfl (by decide) rfl (Nat.le_of_ble_eq_true rfl) (Nat.le_of_ble_eq_true rfl) (by decide) n_324 k_324 rfl rfl (t_X13_goesThrough  h26) ?_
          refine J_aload_n 0 dX13_doubt_115 rfl ?_
          refine M_getI gf_X13_411_12 dX13_doubt_116 k_324 n_324 ?_
          refine J_if_le (tgt := 134) dX13_doubt_119 (by decide) (fun c27 => ?_) (fun c27 => ?_)
          · have h := (if_pos c27).symm.trans h
            exact t_X13_doubt_134 hrec64 ih _ _ _ _ _ _ _  h
          · have h := (if_neg c27).symm.trans h
            refine J_iload_n 2 dX13_doubt_122 rfl ?_
            refine J_if_ne (tgt := 131) dX13_doubt_123 (by decide) (fun c28 => ?_) (fun c28 => ?_)
            · have h := (if_neg c28).symm.trans h
              refine J_iload 5 dX13_doubt_131 rfl ?_
              refine J_pick [] rfl ?_
              exact t_X13_doubt_133  _ _ _  h
            · have h := (if_pos c28).symm.trans h
              refine J_iload 4 dX13_doubt_126 rfl ?_
              refine J_goto (tgt := 133) dX13_doubt_128 (by decide) ?_
              refine J_pick [] rfl ?_
              exact t_X13_doubt_133  _ _ _  h
        · have h := (if_neg c20).symm.trans h
          refine J_goto (tgt := 134) dX13_doubt_99 (by decide) ?_
          exact t_X13_doubt_134 hrec64 ih _ _ _ _ _ _ _  h
set_option maxRecDepth 20000 in
set_option maxHeartbeats 4000000 in
theorem t_X13_doubt_64  : ∀ (n : Nat) (l1 : Int32) (l2 : Int32) (l3 : Int32) (l4 : Int32) (σ : jM) (r : Int32 × jM), f_X13_doubt_64  n l1 l2 l3 l4 σ = some r → J mi_X13_doubt 6 0 0 (jqI r) 64 [(0, .ref 324), (1, .int l1), (2, .int l2), (3, .int l3), (4, .int l4)] [] (ms σ) := by
  intro n
  induction n with
  | zero =>
    intro l1 l2 l3 l4 σ r  h
    have h : (none : Option (Int32 × jM)) = some r := h
    cases h
  | succ n ih =>
    intro l1 l2 l3 l4 σ r  h
    have h : s_X13_doubt_64  (f_X13_doubt_64  n) l1 l2 l3 l4 σ = some r := h
    unfold s_X13_doubt_64 at h
    refine J_iload 4 dX13_doubt_64 rfl ?_
    refine J_bipush (v := 6) dX13_doubt_66 (by decide) ?_
    refine J_icmp_gt (tgt := 146) dX13_doubt_68 (by decide) (fun c30 => ?_) (fun c30 => ?_)
    · have h := (if_pos c30).symm.trans h
      refine J_iconst (v := (-1)) dX13_doubt_146 (by decide) ?_
      exact J_ret (v := some (.int (-1))) rfl ⟨dX13_doubt_147, Or.inl rfl⟩ (jqI_mk h)
    · have h := (if_neg c30).symm.trans h
      refine J_iconst (v := 0) dX13_doubt_71 (by decide) ?_
      refine J_istore (i := 5) (ls' := [(5, .int 0), (0, .ref 324), (1, .int l1), (2, .int l2), (3, .int l3), (4, .int l4)]) dX13_doubt_72 (by decide) rfl ?_
      refine J_pick [1, 2, 3, 4, 5, 0] rfl ?_
      exact t_X13_doubt_74 ih _ _ _ _ _ _ _ _  h
set_option maxRecDepth 20000 in
set_option maxHeartbeats 4000000 in
theorem t_X13_doubt_55 {rec29 : Int32 → Int32 → Int32 → Int32 → jM → Option (Int32 × jM)} (hrec29 : ∀ (l1 : Int32) (l2 : Int32) (l3 : Int32) (l4 : Int32) (σ : jM) (r : Int32 × jM), rec29 l1 l2 l3 l4 σ = some r → J mi_X13_doubt 6 0 0 (jqI r) 29 [(0, .ref 324), (1, .int l1), (2, .int l2), (3, .int l3), (4, .int l4)] [] (ms σ)) (l1 : Int32) (l2 : Int32) (l3 : Int32) (l4 : Int32) (σ : jM) (r : Int32 × jM)  (h : f_X13_doubt_55 rec29 l1 l2 l3 l4 σ = some r) : J mi_X13_doubt 6 0 0 (jqI r) 55 [(0, .ref 324), (1, .int l1), (2, .int l2), (3, .int l3), (4, .int l4)] [] (ms σ) := by
  unfold f_X13_doubt_55 at h
  refine J_iinc (v := (l4 + 1)) (ls' := [(4, .int (l4 + 1)), (0, .ref 324), (1, .int l1), (2, .int l2), (3, .int l3)]) 4 dX13_doubt_55 rfl rfl (by decide) rfl ?_
  refine J_goto (tgt := 29) dX13_doubt_58 (by decide) ?_
  refine J_pick [1, 2, 3, 4, 0] rfl ?_
  exact hrec29 _ _ _ _ _ _  h
set_option maxRecDepth 20000 in
set_option maxHeartbeats 4000000 in
theorem t_X13_doubt_29  : ∀ (n : Nat) (l1 : Int32) (l2 : Int32) (l3 : Int32) (l4 : Int32) (σ : jM) (r : Int32 × jM), f_X13_doubt_29  n l1 l2 l3 l4 σ = some r → J mi_X13_doubt 6 0 0 (jqI r) 29 [(0, .ref 324), (1, .int l1), (2, .int l2), (3, .int l3), (4, .int l4)] [] (ms σ) := by
  intro n
  induction n with
  | zero =>
    intro l1 l2 l3 l4 σ r  h
    have h : (none : Option (Int32 × jM)) = some r := h
    cases h
  | succ n ih =>
    intro l1 l2 l3 l4 σ r  h
    have h : s_X13_doubt_29  (f_X13_doubt_29  n) l1 l2 l3 l4 σ = some r := h
    unfold s_X13_doubt_29 at h
    refine J_iload 4 dX13_doubt_29 rfl ?_
    refine J_aload_n 0 dX13_doubt_31 rfl ?_
    refine M_getI gf_X13_383_12 dX13_doubt_32 k_324 n_324 ?_
    refine J_icmp_ge (tgt := 61) dX13_doubt_35 (by decide) (fun c36 => ?_) (fun c36 => ?_)
    · have h := (if_pos c36).symm.trans h
      refine J_iconst (v := 0) dX13_doubt_61 (by decide) ?_
      refine J_istore (i := 4) (ls' := [(4, .int 0), (0, .ref 324), (1, .int l1), (2, .int l2), (3, .int l3)]) dX13_doubt_62 (by decide) rfl ?_
      refine J_pick [1, 2, 3, 4, 0] rfl ?_
      exact t_X13_doubt_64  _ _ _ _ _ _ _  h
    · have h := (if_neg c36).symm.trans h
      refine J_aload_n 0 dX13_doubt_38 rfl ?_
      refine J_iload 4 dX13_doubt_39 rfl ?_
      refine J_iload_n 1 dX13_doubt_41 rfl ?_
      obtain ⟨r37, σ38, h39, h⟩ := bd_inv h
      refine M_callVI (d' := 3) (k := 324) (As := [.int l4, .int l1]) (st := []) cv_X13_429 dX13_doubt_42 rfl (by decide) rfl (Nat.le_of_ble_eq_true rfl) (Nat.le_of_ble_eq_true rfl) (by decide) n_324 k_324 rfl rfl (t_X13_nameCounts  h39) ?_
      refine J_if_eq (tgt := 55) dX13_doubt_45 (by decide) (fun c40 => ?_) (fun c40 => ?_)
      · have h := (if_pos c40).symm.trans h
        exact t_X13_doubt_55 ih _ _ _ _ _ _  h
      · have h := (if_neg c40).symm.trans h
        refine J_iload_n 3 dX13_doubt_48 rfl ?_
        refine J_iconst (v := 1) dX13_doubt_49 (by decide) ?_
        refine J_iload 4 dX13_doubt_50 rfl ?_
        refine J_ishl dX13_doubt_52 ?_
        refine J_ior dX13_doubt_53 ?_
        refine J_istore_n (i := 3) (ls' := [(3, .int (l3 ||| (1 <<< (l4 &&& 31)))), (0, .ref 324), (1, .int l1), (2, .int l2), (4, .int l4)]) dX13_doubt_54 rfl (by decide) rfl ?_
        refine J_pick [1, 2, 3, 0, 4] rfl ?_
        exact t_X13_doubt_55 ih _ _ _ _ _ _  h
set_option maxRecDepth 20000 in
set_option maxHeartbeats 4000000 in
theorem t_X13_doubt {a1 : Int32} {a2 : Int32} {σ : jM} {r : Int32 × jM}  (h : f_X13_doubt a1 a2 σ = some r) : J mi_X13_doubt 6 0 0 (jqI r) 0 [(0, .ref 324), (1, .int a1), (2, .int a2)] [] (ms σ) := by
  unfold f_X13_doubt at h
  refine J_aload_n 0 dX13_doubt_0 rfl ?_
  refine J_iconst (v := 0) dX13_doubt_1 (by decide) ?_
  refine M_putI pf_X13_1_12 dX13_doubt_2 k_324 n_324 ⟨rfl, rfl⟩ ?_
  refine J_aload_n 0 dX13_doubt_5 rfl ?_
  refine J_iload_n 1 dX13_doubt_6 rfl ?_
  obtain ⟨r41, σ42, h43, h⟩ := bd_inv h
  refine M_callVI (d' := 1) (k := 324) (As := [.int a1]) (st := []) cv_X13_298 dX13_doubt_7 rfl (by decide) rfl (Nat.le_of_ble_eq_true rfl) (Nat.le_of_ble_eq_true rfl) (by decide) n_324 k_324 rfl rfl (t_X13_isKnown  h43) ?_
  refine J_if_eq (tgt := 22) dX13_doubt_10 (by decide) (fun c44 => ?_) (fun c44 => ?_)
  · have h := (if_pos c44).symm.trans h
    refine J_pick [] rfl ?_
    exact t_X13_doubt_22   _ _  h
  · have h := (if_neg c44).symm.trans h
    refine J_iload_n 2 dX13_doubt_13 rfl ?_
    refine J_iconst (v := 0) dX13_doubt_14 (by decide) ?_
    refine J_iconst (v := 1) dX13_doubt_15 (by decide) ?_
    obtain ⟨r45, σ46, h47, h⟩ := bd_inv h
    refine M_callSI (d' := 1) (As := [.int a2, .int 0, .int 1]) (st := []) cs_X13_169 dX13_doubt_16 rfl (Nat.le_of_ble_eq_true rfl) (Nat.le_of_ble_eq_true rfl) (by decide) rfl rfl (t_X13_within  h47) ?_
    refine J_if_ne (tgt := 24) dX13_doubt_19 (by decide) (fun c48 => ?_) (fun c48 => ?_)
    · have h := (if_neg c48).symm.trans h
      refine J_iconst (v := 0) dX13_doubt_24 (by decide) ?_
      refine J_istore_n (i := 3) (ls' := [(3, .int 0), (0, .ref 324), (1, .int a1), (2, .int a2)]) dX13_doubt_25 rfl (by decide) rfl ?_
      refine J_iconst (v := 0) dX13_doubt_26 (by decide) ?_
      refine J_istore (i := 4) (ls' := [(4, .int 0), (3, .int 0), (0, .ref 324), (1, .int a1), (2, .int a2)]) dX13_doubt_27 (by decide) rfl ?_
      refine J_pick [2, 3, 4, 1, 0] rfl ?_
      exact t_X13_doubt_29  _ _ _ _ _ _ _  h
    · have h := (if_pos c48).symm.trans h
      refine J_pick [] rfl ?_
      exact t_X13_doubt_22   _ _  h
theorem dX13_could_0 : decode cX13_could 0 = .ok (.aload_n 0, 1) := by decide +kernel
theorem dX13_could_1 : decode cX13_could 1 = .ok (.iconst 0, 1) := by decide +kernel
theorem dX13_could_2 : decode cX13_could 2 = .ok (.putfield 1, 3) := by decide +kernel
theorem dX13_could_5 : decode cX13_could 5 = .ok (.aload_n 0, 1) := by decide +kernel
theorem dX13_could_6 : decode cX13_could 6 = .ok (.iload_n 1, 1) := by decide +kernel
theorem dX13_could_7 : decode cX13_could 7 = .ok (.invokevirtual 298, 3) := by decide +kernel
theorem dX13_could_10 : decode cX13_could 10 = .ok (.ifCond .eq 24, 3) := by decide +kernel
theorem dX13_could_13 : decode cX13_could 13 = .ok (.iload_n 2, 1) := by decide +kernel
theorem dX13_could_14 : decode cX13_could 14 = .ok (.invokestatic 288, 3) := by decide +kernel
theorem dX13_could_17 : decode cX13_could 17 = .ok (.ifCond .eq 17, 3) := by decide +kernel
theorem dX13_could_20 : decode cX13_could 20 = .ok (.iload_n 3, 1) := by decide +kernel
theorem dX13_could_21 : decode cX13_could 21 = .ok (.ifCond .lt 13, 3) := by decide +kernel
theorem dX13_could_24 : decode cX13_could 24 = .ok (.iload 4, 2) := by decide +kernel
theorem dX13_could_26 : decode cX13_could 26 = .ok (.iconst 0, 1) := by decide +kernel
theorem dX13_could_27 : decode cX13_could 27 = .ok (.iconst 1, 1) := by decide +kernel
theorem dX13_could_28 : decode cX13_could 28 = .ok (.invokestatic 169, 3) := by decide +kernel
theorem dX13_could_31 : decode cX13_could 31 = .ok (.ifCond .ne 5, 3) := by decide +kernel
theorem dX13_could_34 : decode cX13_could 34 = .ok (.iconst (-1), 1) := by decide +kernel
theorem dX13_could_35 : decode cX13_could 35 = .ok (.ireturn, 1) := by decide +kernel
theorem dX13_could_36 : decode cX13_could 36 = .ok (.aload_n 0, 1) := by decide +kernel
theorem dX13_could_37 : decode cX13_could 37 = .ok (.iload_n 1, 1) := by decide +kernel
theorem dX13_could_38 : decode cX13_could 38 = .ok (.invokevirtual 438, 3) := by decide +kernel
theorem dX13_could_41 : decode cX13_could 41 = .ok (.iload_n 3, 1) := by decide +kernel
theorem dX13_could_42 : decode cX13_could 42 = .ok (.istore 5, 2) := by decide +kernel
theorem dX13_could_44 : decode cX13_could 44 = .ok (.iconst 0, 1) := by decide +kernel
theorem dX13_could_45 : decode cX13_could 45 = .ok (.istore 6, 2) := by decide +kernel
theorem dX13_could_47 : decode cX13_could 47 = .ok (.iload 6, 2) := by decide +kernel
theorem dX13_could_49 : decode cX13_could 49 = .ok (.sipush 135, 3) := by decide +kernel
theorem dX13_could_52 : decode cX13_could 52 = .ok (.if_icmp .ge 58, 3) := by decide +kernel
theorem dX13_could_55 : decode cX13_could 55 = .ok (.aload_n 0, 1) := by decide +kernel
theorem dX13_could_56 : decode cX13_could 56 = .ok (.getfield 160, 3) := by decide +kernel
theorem dX13_could_59 : decode cX13_could 59 = .ok (.sipush 136, 3) := by decide +kernel
theorem dX13_could_62 : decode cX13_could 62 = .ok (.aload_n 0, 1) := by decide +kernel
theorem dX13_could_63 : decode cX13_could 63 = .ok (.getfield 72, 3) := by decide +kernel
theorem dX13_could_66 : decode cX13_could 66 = .ok (.iload_n 2, 1) := by decide +kernel
theorem dX13_could_67 : decode cX13_could 67 = .ok (.iaload, 1) := by decide +kernel
theorem dX13_could_68 : decode cX13_could 68 = .ok (.imul, 1) := by decide +kernel
theorem dX13_could_69 : decode cX13_could 69 = .ok (.iload 6, 2) := by decide +kernel
theorem dX13_could_71 : decode cX13_could 71 = .ok (.iadd, 1) := by decide +kernel
theorem dX13_could_72 : decode cX13_could 72 = .ok (.iaload, 1) := by decide +kernel
theorem dX13_could_73 : decode cX13_could 73 = .ok (.istore 7, 2) := by decide +kernel
theorem dX13_could_75 : decode cX13_could 75 = .ok (.iload 7, 2) := by decide +kernel
theorem dX13_could_77 : decode cX13_could 77 = .ok (.ifCond .ne 6, 3) := by decide +kernel
theorem dX13_could_80 : decode cX13_could 80 = .ok (.goto 24, 3) := by decide +kernel
theorem dX13_could_83 : decode cX13_could 83 = .ok (.iload 5, 2) := by decide +kernel
theorem dX13_could_85 : decode cX13_could 85 = .ok (.ifCond .ne 16, 3) := by decide +kernel
theorem dX13_could_88 : decode cX13_could 88 = .ok (.iload 4, 2) := by decide +kernel
theorem dX13_could_90 : decode cX13_could 90 = .ok (.ifCond .ne 8, 3) := by decide +kernel
theorem dX13_could_93 : decode cX13_could 93 = .ok (.iload 6, 2) := by decide +kernel
theorem dX13_could_95 : decode cX13_could 95 = .ok (.goto 5, 3) := by decide +kernel
theorem dX13_could_98 : decode cX13_could 98 = .ok (.iload 7, 2) := by decide +kernel
theorem dX13_could_100 : decode cX13_could 100 = .ok (.ireturn, 1) := by decide +kernel
theorem dX13_could_101 : decode cX13_could 101 = .ok (.iinc 5 (-1), 3) := by decide +kernel
theorem dX13_could_104 : decode cX13_could 104 = .ok (.iinc 6 1, 3) := by decide +kernel
theorem dX13_could_107 : decode cX13_could 107 = .ok (.goto (-60), 3) := by decide +kernel
theorem dX13_could_110 : decode cX13_could 110 = .ok (.iconst (-1), 1) := by decide +kernel
theorem dX13_could_111 : decode cX13_could 111 = .ok (.ireturn, 1) := by decide +kernel
noncomputable def f_X13_could_34   (σ : jM) : Option (Int32 × jM) :=
  some ((-1), σ)
noncomputable def f_X13_could_104 (rec47 : Int32 → Int32 → Int32 → Int32 → jM → Option (Int32 × jM)) (l2 : Int32) (l4 : Int32) (l5 : Int32) (l6 : Int32) (σ : jM) : Option (Int32 × jM) :=
  rec47 l2 l4 l5 (l6 + 1) σ
noncomputable def f_X13_could_100  (s0 : Int32) (σ : jM) : Option (Int32 × jM) :=
  some (s0, σ)
noncomputable def s_X13_could_47  (rec47 : Int32 → Int32 → Int32 → Int32 → jM → Option (Int32 × jM)) (l2 : Int32) (l4 : Int32) (l5 : Int32) (l6 : Int32) (σ : jM) : Option (Int32 × jM) :=
  (if 135 ≤ l6 then some ((-1), σ) else gd (inb l2 40) (gd (inb ((136 * (rI σ 343 (Int32.toNatClampNeg l2))) + l6) 5440) ((if (rI σ 372 (Int32.toNatClampNeg ((136 * (rI σ 343 (Int32.toNatClampNeg l2))) + l6))) = 0 then f_X13_could_104 rec47 l2 l4 l5 l6 σ else (if l5 = 0 then (if l4 = 0 then f_X13_could_100  l6 σ else f_X13_could_100  (rI σ 372 (Int32.toNatClampNeg ((136 * (rI σ 343 (Int32.toNatClampNeg l2))) + l6))) σ) else f_X13_could_104 rec47 l2 l4 (l5 + (-1)) l6 σ)))))
noncomputable def f_X13_could_47  (n : Nat) : Int32 → Int32 → Int32 → Int32 → jM → Option (Int32 × jM) := Nat.rec (motive := fun _ => Int32 → Int32 → Int32 → Int32 → jM → Option (Int32 × jM)) (fun _ _ _ _ _ => none) (fun _ q => s_X13_could_47  q) n
noncomputable def f_X13_could (a1 : Int32) (a2 : Int32) (a3 : Int32) (a4 : Int32) (σ : jM) : Option (Int32 × jM) :=
  bd (f_X13_isKnown a1 (wI σ 324 0 0)) (fun r15 σ16 => (if r15 = 0 then f_X13_could_34   σ16 else bd (f_X13_isSignNumber a2 σ16) (fun r19 σ20 => (if r19 = 0 then f_X13_could_34   σ20 else (if a3 < 0 then f_X13_could_34   σ20 else bd (f_X13_within a4 0 1 σ20) (fun r24 σ25 => (if r24 = 0 then f_X13_could_34   σ25 else bd (f_X13_findAll a1 σ25) (fun _ σ29 => f_X13_could_47  Fu a2 a4 a3 0 σ29))))))))
set_option maxRecDepth 20000 in
set_option maxHeartbeats 4000000 in
theorem t_X13_could_34   (σ : jM) (r : Int32 × jM)  (h : f_X13_could_34   σ = some r) : J mi_X13_could 7 0 0 (jqI r) 34 [] [] (ms σ) := by
  unfold f_X13_could_34 at h
  refine J_iconst (v := (-1)) dX13_could_34 (by decide) ?_
  exact J_ret (v := some (.int (-1))) rfl ⟨dX13_could_35, Or.inl rfl⟩ (jqI_mk h)
set_option maxRecDepth 20000 in
set_option maxHeartbeats 4000000 in
theorem t_X13_could_104 {rec47 : Int32 → Int32 → Int32 → Int32 → jM → Option (Int32 × jM)} (hrec47 : ∀ (l2 : Int32) (l4 : Int32) (l5 : Int32) (l6 : Int32) (σ : jM) (r : Int32 × jM), rec47 l2 l4 l5 l6 σ = some r → J mi_X13_could 7 0 0 (jqI r) 47 [(0, .ref 324), (2, .int l2), (4, .int l4), (5, .int l5), (6, .int l6)] [] (ms σ)) (l2 : Int32) (l4 : Int32) (l5 : Int32) (l6 : Int32) (σ : jM) (r : Int32 × jM)  (h : f_X13_could_104 rec47 l2 l4 l5 l6 σ = some r) : J mi_X13_could 7 0 0 (jqI r) 104 [(0, .ref 324), (2, .int l2), (4, .int l4), (5, .int l5), (6, .int l6)] [] (ms σ) := by
  unfold f_X13_could_104 at h
  refine J_iinc (v := (l6 + 1)) (ls' := [(6, .int (l6 + 1)), (0, .ref 324), (2, .int l2), (4, .int l4), (5, .int l5)]) 4 dX13_could_104 rfl rfl (by decide) rfl ?_
  refine J_goto (tgt := 47) dX13_could_107 (by decide) ?_
  refine J_pick [1, 2, 3, 4, 0] rfl ?_
  exact hrec47 _ _ _ _ _ _  h
set_option maxRecDepth 20000 in
set_option maxHeartbeats 4000000 in
theorem t_X13_could_100  (s0 : Int32) (σ : jM) (r : Int32 × jM)  (h : f_X13_could_100  s0 σ = some r) : J mi_X13_could 7 0 0 (jqI r) 100 [] [.int s0] (ms σ) := by
  unfold f_X13_could_100 at h
  exact J_ret (v := some (.int s0)) rfl ⟨dX13_could_100, Or.inl rfl⟩ (jqI_mk h)
set_option maxRecDepth 20000 in
set_option maxHeartbeats 4000000 in
theorem t_X13_could_47  : ∀ (n : Nat) (l2 : Int32) (l4 : Int32) (l5 : Int32) (l6 : Int32) (σ : jM) (r : Int32 × jM), f_X13_could_47  n l2 l4 l5 l6 σ = some r → J mi_X13_could 7 0 0 (jqI r) 47 [(0, .ref 324), (2, .int l2), (4, .int l4), (5, .int l5), (6, .int l6)] [] (ms σ) := by
  intro n
  induction n with
  | zero =>
    intro l2 l4 l5 l6 σ r  h
    have h : (none : Option (Int32 × jM)) = some r := h
    cases h
  | succ n ih =>
    intro l2 l4 l5 l6 σ r  h
    have h : s_X13_could_47  (f_X13_could_47  n) l2 l4 l5 l6 σ = some r := h
    unfold s_X13_could_47 at h
    refine J_iload 4 dX13_could_47 rfl ?_
    refine J_sipush (v := 135) dX13_could_49 (by decide) ?_
    refine J_icmp_ge (tgt := 110) dX13_could_52 (by decide) (fun c9 => ?_) (fun c9 => ?_)
    · have h := (if_pos c9).symm.trans h
      refine J_iconst (v := (-1)) dX13_could_110 (by decide) ?_
      exact J_ret (v := some (.int (-1))) rfl ⟨dX13_could_111, Or.inl rfl⟩ (jqI_mk h)
    · have h := (if_neg c9).symm.trans h
      refine J_aload_n 0 dX13_could_55 rfl ?_
      refine M_getR gf_X13_160_12 dX13_could_56 (g_324_72 _) k_324 n_324 ?_
      refine J_sipush (v := 136) dX13_could_59 (by decide) ?_
      refine J_aload_n 0 dX13_could_62 rfl ?_
      refine M_getR gf_X13_72_12 dX13_could_63 (g_324_31 _) k_324 n_324 ?_
      refine J_iload_n 1 dX13_could_66 rfl ?_
      obtain ⟨g10, h⟩ := gd_inv h
      refine M_iald dX13_could_67 a_343 n_343 g10 ?_
      refine J_imul dX13_could_68 ?_
      refine J_iload 4 dX13_could_69 rfl ?_
      refine J_iadd dX13_could_71 ?_
      obtain ⟨g11, h⟩ := gd_inv h
      refine M_iald dX13_could_72 a_372 n_372 g11 ?_
      refine J_istore (i := 7) (ls' := [(7, .int (rI σ 372 (Int32.toNatClampNeg ((136 * (rI σ 343 (Int32.toNatClampNeg l2))) + l6)))), (0, .ref 324), (2, .int l2), (4, .int l4), (5, .int l5), (6, .int l6)]) dX13_could_73 (by decide) rfl ?_
      refine J_iload 0 dX13_could_75 rfl ?_
      refine J_if_ne (tgt := 83) dX13_could_77 (by decide) (fun c12 => ?_) (fun c12 => ?_)
      · have h := (if_neg c12).symm.trans h
        refine J_iload 4 dX13_could_83 rfl ?_
        refine J_if_ne (tgt := 101) dX13_could_85 (by decide) (fun c13 => ?_) (fun c13 => ?_)
        · have h := (if_neg c13).symm.trans h
          refine J_iinc (v := (l5 + (-1))) (ls' := [(5, .int (l5 + (-1))), (7, .int (rI σ 372 (Int32.toNatClampNeg ((136 * (rI σ 343 (Int32.toNatClampNeg l2))) + l6)))), (0, .ref 324), (2, .int l2), (4, .int l4), (6, .int l6)]) 4 dX13_could_101 rfl rfl (by decide) rfl ?_
          refine J_pick [2, 3, 4, 0, 5] rfl ?_
          exact t_X13_could_104 ih _ _ _ _ _ _  h
        · have h := (if_pos c13).symm.trans h
          refine J_iload 3 dX13_could_88 rfl ?_
          refine J_if_ne (tgt := 98) dX13_could_90 (by decide) (fun c14 => ?_) (fun c14 => ?_)
          · have h := (if_neg c14).symm.trans h
            refine J_iload 0 dX13_could_98 rfl ?_
            refine J_pick [] rfl ?_
            exact t_X13_could_100  _ _ _  h
          · have h := (if_pos c14).symm.trans h
            refine J_iload 5 dX13_could_93 rfl ?_
            refine J_goto (tgt := 100) dX13_could_95 (by decide) ?_
            refine J_pick [] rfl ?_
            exact t_X13_could_100  _ _ _  h
      · have h := (if_pos c12).symm.trans h
        refine J_goto (tgt := 104) dX13_could_80 (by decide) ?_
        refine J_pick [1, 2, 3, 4, 5] rfl ?_
        exact t_X13_could_104 ih _ _ _ _ _ _  h
set_option maxRecDepth 20000 in
set_option maxHeartbeats 4000000 in
theorem t_X13_could {a1 : Int32} {a2 : Int32} {a3 : Int32} {a4 : Int32} {σ : jM} {r : Int32 × jM}  (h : f_X13_could a1 a2 a3 a4 σ = some r) : J mi_X13_could 7 0 0 (jqI r) 0 [(0, .ref 324), (1, .int a1), (2, .int a2), (3, .int a3), (4, .int a4)] [] (ms σ) := by
  unfold f_X13_could at h
  refine J_aload_n 0 dX13_could_0 rfl ?_
  refine J_iconst (v := 0) dX13_could_1 (by decide) ?_
  refine M_putI pf_X13_1_12 dX13_could_2 k_324 n_324 ⟨rfl, rfl⟩ ?_
  refine J_aload_n 0 dX13_could_5 rfl ?_
  refine J_iload_n 1 dX13_could_6 rfl ?_
  obtain ⟨r15, σ16, h17, h⟩ := bd_inv h
  refine M_callVI (d' := 1) (k := 324) (As := [.int a1]) (st := []) cv_X13_298 dX13_could_7 rfl (by decide) rfl (Nat.le_of_ble_eq_true rfl) (Nat.le_of_ble_eq_true rfl) (by decide) n_324 k_324 rfl rfl (t_X13_isKnown  h17) ?_
  refine J_if_eq (tgt := 34) dX13_could_10 (by decide) (fun c18 => ?_) (fun c18 => ?_)
  · have h := (if_pos c18).symm.trans h
    refine J_pick [] rfl ?_
    exact t_X13_could_34   _ _  h
  · have h := (if_neg c18).symm.trans h
    refine J_iload_n 2 dX13_could_13 rfl ?_
    obtain ⟨r19, σ20, h21, h⟩ := bd_inv h
    refine M_callSI (d' := 1) (As := [.int a2]) (st := []) cs_X13_288 dX13_could_14 rfl (Nat.le_of_ble_eq_true rfl) (Nat.le_of_ble_eq_true rfl) (by decide) rfl rfl (t_X13_isSignNumber  h21) ?_
    refine J_if_eq (tgt := 34) dX13_could_17 (by decide) (fun c22 => ?_) (fun c22 => ?_)
    · have h := (if_pos c22).symm.trans h
      refine J_pick [] rfl ?_
      exact t_X13_could_34   _ _  h
    · have h := (if_neg c22).symm.trans h
      refine J_iload_n 3 dX13_could_20 rfl ?_
      refine J_if_lt (tgt := 34) dX13_could_21 (by decide) (fun c23 => ?_) (fun c23 => ?_)
      · have h := (if_pos c23).symm.trans h
        refine J_pick [] rfl ?_
        exact t_X13_could_34   _ _  h
      · have h := (if_neg c23).symm.trans h
        refine J_iload 4 dX13_could_24 rfl ?_
        refine J_iconst (v := 0) dX13_could_26 (by decide) ?_
        refine J_iconst (v := 1) dX13_could_27 (by decide) ?_
        obtain ⟨r24, σ25, h26, h⟩ := bd_inv h
        refine M_callSI (d' := 1) (As := [.int a4, .int 0, .int 1]) (st := []) cs_X13_169 dX13_could_28 rfl (Nat.le_of_ble_eq_true rfl) (Nat.le_of_ble_eq_true rfl) (by decide) rfl rfl (t_X13_within  h26) ?_
        refine J_if_ne (tgt := 36) dX13_could_31 (by decide) (fun c27 => ?_) (fun c27 => ?_)
        · have h := (if_neg c27).symm.trans h
          refine J_aload_n 0 dX13_could_36 rfl ?_
          refine J_iload_n 1 dX13_could_37 rfl ?_
          obtain ⟨_, σ29, h30, h⟩ := bd_inv h
          refine M_callVV (d' := 6) (k := 324) (As := [.int a1]) (st := []) cv_X13_438 dX13_could_38 rfl (by decide) rfl (Nat.le_of_ble_eq_true rfl) (Nat.le_of_ble_eq_true rfl) (by decide) n_324 k_324 rfl rfl (t_X13_findAll  h30) ?_
          refine J_iload_n 3 dX13_could_41 rfl ?_
          refine J_istore (i := 5) (ls' := [(5, .int a3), (0, .ref 324), (1, .int a1), (2, .int a2), (3, .int a3), (4, .int a4)]) dX13_could_42 (by decide) rfl ?_
          refine J_iconst (v := 0) dX13_could_44 (by decide) ?_
          refine J_istore (i := 6) (ls' := [(6, .int 0), (5, .int a3), (0, .ref 324), (1, .int a1), (2, .int a2), (3, .int a3), (4, .int a4)]) dX13_could_45 (by decide) rfl ?_
          refine J_pick [2, 4, 6, 1, 0] rfl ?_
          exact t_X13_could_47  _ _ _ _ _ _ _  h
        · have h := (if_pos c27).symm.trans h
          refine J_pick [] rfl ?_
          exact t_X13_could_34   _ _  h
theorem dX13_inGrid_0 : decode cX13_inGrid 0 = .ok (.aload_n 0, 1) := by decide +kernel
theorem dX13_inGrid_1 : decode cX13_inGrid 1 = .ok (.iconst 0, 1) := by decide +kernel
theorem dX13_inGrid_2 : decode cX13_inGrid 2 = .ok (.putfield 1, 3) := by decide +kernel
theorem dX13_inGrid_5 : decode cX13_inGrid 5 = .ok (.aload_n 0, 1) := by decide +kernel
theorem dX13_inGrid_6 : decode cX13_inGrid 6 = .ok (.iload_n 1, 1) := by decide +kernel
theorem dX13_inGrid_7 : decode cX13_inGrid 7 = .ok (.invokevirtual 298, 3) := by decide +kernel
theorem dX13_inGrid_10 : decode cX13_inGrid 10 = .ok (.ifCond .eq 14, 3) := by decide +kernel
theorem dX13_inGrid_13 : decode cX13_inGrid 13 = .ok (.iload_n 2, 1) := by decide +kernel
theorem dX13_inGrid_14 : decode cX13_inGrid 14 = .ok (.iconst 0, 1) := by decide +kernel
theorem dX13_inGrid_15 : decode cX13_inGrid 15 = .ok (.sipush 134, 3) := by decide +kernel
theorem dX13_inGrid_18 : decode cX13_inGrid 18 = .ok (.invokestatic 169, 3) := by decide +kernel
theorem dX13_inGrid_21 : decode cX13_inGrid 21 = .ok (.ifCond .ne 5, 3) := by decide +kernel
theorem dX13_inGrid_24 : decode cX13_inGrid 24 = .ok (.iconst (-1), 1) := by decide +kernel
theorem dX13_inGrid_25 : decode cX13_inGrid 25 = .ok (.ireturn, 1) := by decide +kernel
theorem dX13_inGrid_26 : decode cX13_inGrid 26 = .ok (.aload_n 0, 1) := by decide +kernel
theorem dX13_inGrid_27 : decode cX13_inGrid 27 = .ok (.iload_n 1, 1) := by decide +kernel
theorem dX13_inGrid_28 : decode cX13_inGrid 28 = .ok (.invokevirtual 438, 3) := by decide +kernel
theorem dX13_inGrid_31 : decode cX13_inGrid 31 = .ok (.iconst 0, 1) := by decide +kernel
theorem dX13_inGrid_32 : decode cX13_inGrid 32 = .ok (.istore_n 3, 1) := by decide +kernel
theorem dX13_inGrid_33 : decode cX13_inGrid 33 = .ok (.iload_n 3, 1) := by decide +kernel
theorem dX13_inGrid_34 : decode cX13_inGrid 34 = .ok (.bipush 40, 2) := by decide +kernel
theorem dX13_inGrid_36 : decode cX13_inGrid 36 = .ok (.if_icmp .ge 37, 3) := by decide +kernel
theorem dX13_inGrid_39 : decode cX13_inGrid 39 = .ok (.aload_n 0, 1) := by decide +kernel
theorem dX13_inGrid_40 : decode cX13_inGrid 40 = .ok (.getfield 411, 3) := by decide +kernel
theorem dX13_inGrid_43 : decode cX13_inGrid 43 = .ok (.ifCond .le 30, 3) := by decide +kernel
theorem dX13_inGrid_46 : decode cX13_inGrid 46 = .ok (.aload_n 0, 1) := by decide +kernel
theorem dX13_inGrid_47 : decode cX13_inGrid 47 = .ok (.getfield 160, 3) := by decide +kernel
theorem dX13_inGrid_50 : decode cX13_inGrid 50 = .ok (.sipush 136, 3) := by decide +kernel
theorem dX13_inGrid_53 : decode cX13_inGrid 53 = .ok (.iload_n 3, 1) := by decide +kernel
theorem dX13_inGrid_54 : decode cX13_inGrid 54 = .ok (.imul, 1) := by decide +kernel
theorem dX13_inGrid_55 : decode cX13_inGrid 55 = .ok (.iload_n 2, 1) := by decide +kernel
theorem dX13_inGrid_56 : decode cX13_inGrid 56 = .ok (.iadd, 1) := by decide +kernel
theorem dX13_inGrid_57 : decode cX13_inGrid 57 = .ok (.iaload, 1) := by decide +kernel
theorem dX13_inGrid_58 : decode cX13_inGrid 58 = .ok (.aload_n 0, 1) := by decide +kernel
theorem dX13_inGrid_59 : decode cX13_inGrid 59 = .ok (.getfield 411, 3) := by decide +kernel
theorem dX13_inGrid_62 : decode cX13_inGrid 62 = .ok (.if_icmp .ne 5, 3) := by decide +kernel
theorem dX13_inGrid_65 : decode cX13_inGrid 65 = .ok (.iload_n 3, 1) := by decide +kernel
theorem dX13_inGrid_66 : decode cX13_inGrid 66 = .ok (.ireturn, 1) := by decide +kernel
theorem dX13_inGrid_67 : decode cX13_inGrid 67 = .ok (.iinc 3 1, 3) := by decide +kernel
theorem dX13_inGrid_70 : decode cX13_inGrid 70 = .ok (.goto (-37), 3) := by decide +kernel
theorem dX13_inGrid_73 : decode cX13_inGrid 73 = .ok (.iconst (-1), 1) := by decide +kernel
theorem dX13_inGrid_74 : decode cX13_inGrid 74 = .ok (.ireturn, 1) := by decide +kernel
noncomputable def f_X13_inGrid_24   (σ : jM) : Option (Int32 × jM) :=
  some ((-1), σ)
noncomputable def f_X13_inGrid_73   (σ : jM) : Option (Int32 × jM) :=
  some ((-1), σ)
noncomputable def s_X13_inGrid_33  (rec33 : Int32 → Int32 → jM → Option (Int32 × jM)) (l2 : Int32) (l3 : Int32) (σ : jM) : Option (Int32 × jM) :=
  (if 40 ≤ l3 then f_X13_inGrid_73   σ else (if (rI σ 324 68) ≤ 0 then f_X13_inGrid_73   σ else gd (inb ((136 * l3) + l2) 5440) ((if (rI σ 372 (Int32.toNatClampNeg ((136 * l3) + l2))) = (rI σ 324 68) then some (l3, σ) else rec33 l2 (l3 + 1) σ))))
noncomputable def f_X13_inGrid_33  (n : Nat) : Int32 → Int32 → jM → Option (Int32 × jM) := Nat.rec (motive := fun _ => Int32 → Int32 → jM → Option (Int32 × jM)) (fun _ _ _ => none) (fun _ q => s_X13_inGrid_33  q) n
noncomputable def f_X13_inGrid (a1 : Int32) (a2 : Int32) (σ : jM) : Option (Int32 × jM) :=
  bd (f_X13_isKnown a1 (wI σ 324 0 0)) (fun r10 σ11 => (if r10 = 0 then f_X13_inGrid_24   σ11 else bd (f_X13_within a2 0 134 σ11) (fun r14 σ15 => (if r14 = 0 then f_X13_inGrid_24   σ15 else bd (f_X13_findAll a1 σ15) (fun _ σ19 => f_X13_inGrid_33  Fu a2 0 σ19)))))
set_option maxRecDepth 20000 in
set_option maxHeartbeats 4000000 in
theorem t_X13_inGrid_24   (σ : jM) (r : Int32 × jM)  (h : f_X13_inGrid_24   σ = some r) : J mi_X13_inGrid 7 0 0 (jqI r) 24 [] [] (ms σ) := by
  unfold f_X13_inGrid_24 at h
  refine J_iconst (v := (-1)) dX13_inGrid_24 (by decide) ?_
  exact J_ret (v := some (.int (-1))) rfl ⟨dX13_inGrid_25, Or.inl rfl⟩ (jqI_mk h)
set_option maxRecDepth 20000 in
set_option maxHeartbeats 4000000 in
theorem t_X13_inGrid_73   (σ : jM) (r : Int32 × jM)  (h : f_X13_inGrid_73   σ = some r) : J mi_X13_inGrid 7 0 0 (jqI r) 73 [] [] (ms σ) := by
  unfold f_X13_inGrid_73 at h
  refine J_iconst (v := (-1)) dX13_inGrid_73 (by decide) ?_
  exact J_ret (v := some (.int (-1))) rfl ⟨dX13_inGrid_74, Or.inl rfl⟩ (jqI_mk h)
set_option maxRecDepth 20000 in
set_option maxHeartbeats 4000000 in
theorem t_X13_inGrid_33  : ∀ (n : Nat) (l2 : Int32) (l3 : Int32) (σ : jM) (r : Int32 × jM), f_X13_inGrid_33  n l2 l3 σ = some r → J mi_X13_inGrid 7 0 0 (jqI r) 33 [(0, .ref 324), (2, .int l2), (3, .int l3)] [] (ms σ) := by
  intro n
  induction n with
  | zero =>
    intro l2 l3 σ r  h
    have h : (none : Option (Int32 × jM)) = some r := h
    cases h
  | succ n ih =>
    intro l2 l3 σ r  h
    have h : s_X13_inGrid_33  (f_X13_inGrid_33  n) l2 l3 σ = some r := h
    unfold s_X13_inGrid_33 at h
    refine J_iload_n 2 dX13_inGrid_33 rfl ?_
    refine J_bipush (v := 40) dX13_inGrid_34 (by decide) ?_
    refine J_icmp_ge (tgt := 73) dX13_inGrid_36 (by decide) (fun c6 => ?_) (fun c6 => ?_)
    · have h := (if_pos c6).symm.trans h
      refine J_pick [] rfl ?_
      exact t_X13_inGrid_73   _ _  h
    · have h := (if_neg c6).symm.trans h
      refine J_aload_n 0 dX13_inGrid_39 rfl ?_
      refine M_getI gf_X13_411_12 dX13_inGrid_40 k_324 n_324 ?_
      refine J_if_le (tgt := 73) dX13_inGrid_43 (by decide) (fun c7 => ?_) (fun c7 => ?_)
      · have h := (if_pos c7).symm.trans h
        refine J_pick [] rfl ?_
        exact t_X13_inGrid_73   _ _  h
      · have h := (if_neg c7).symm.trans h
        refine J_aload_n 0 dX13_inGrid_46 rfl ?_
        refine M_getR gf_X13_160_12 dX13_inGrid_47 (g_324_72 _) k_324 n_324 ?_
        refine J_sipush (v := 136) dX13_inGrid_50 (by decide) ?_
        refine J_iload_n 2 dX13_inGrid_53 rfl ?_
        refine J_imul dX13_inGrid_54 ?_
        refine J_iload_n 1 dX13_inGrid_55 rfl ?_
        refine J_iadd dX13_inGrid_56 ?_
        obtain ⟨g8, h⟩ := gd_inv h
        refine M_iald dX13_inGrid_57 a_372 n_372 g8 ?_
        refine J_aload_n 0 dX13_inGrid_58 rfl ?_
        refine M_getI gf_X13_411_12 dX13_inGrid_59 k_324 n_324 ?_
        refine J_icmp_ne (tgt := 67) dX13_inGrid_62 (by decide) (fun c9 => ?_) (fun c9 => ?_)
        · have h := (if_neg c9).symm.trans h
          refine J_iinc (v := (l3 + 1)) (ls' := [(3, .int (l3 + 1)), (0, .ref 324), (2, .int l2)]) 2 dX13_inGrid_67 rfl rfl (by decide) rfl ?_
          refine J_goto (tgt := 33) dX13_inGrid_70 (by decide) ?_
          refine J_pick [1, 2, 0] rfl ?_
          exact ih _ _ _ _  h
        · have h := (if_pos c9).symm.trans h
          refine J_iload_n 2 dX13_inGrid_65 rfl ?_
          exact J_ret (v := some (.int l3)) rfl ⟨dX13_inGrid_66, Or.inl rfl⟩ (jqI_mk h)
set_option maxRecDepth 20000 in
set_option maxHeartbeats 4000000 in
theorem t_X13_inGrid {a1 : Int32} {a2 : Int32} {σ : jM} {r : Int32 × jM}  (h : f_X13_inGrid a1 a2 σ = some r) : J mi_X13_inGrid 7 0 0 (jqI r) 0 [(0, .ref 324), (1, .int a1), (2, .int a2)] [] (ms σ) := by
  unfold f_X13_inGrid at h
  refine J_aload_n 0 dX13_inGrid_0 rfl ?_
  refine J_iconst (v := 0) dX13_inGrid_1 (by decide) ?_
  refine M_putI pf_X13_1_12 dX13_inGrid_2 k_324 n_324 ⟨rfl, rfl⟩ ?_
  refine J_aload_n 0 dX13_inGrid_5 rfl ?_
  refine J_iload_n 1 dX13_inGrid_6 rfl ?_
  obtain ⟨r10, σ11, h12, h⟩ := bd_inv h
  refine M_callVI (d' := 1) (k := 324) (As := [.int a1]) (st := []) cv_X13_298 dX13_inGrid_7 rfl (by decide) rfl (Nat.le_of_ble_eq_true rfl) (Nat.le_of_ble_eq_true rfl) (by decide) n_324 k_324 rfl rfl (t_X13_isKnown  h12) ?_
  refine J_if_eq (tgt := 24) dX13_inGrid_10 (by decide) (fun c13 => ?_) (fun c13 => ?_)
  · have h := (if_pos c13).symm.trans h
    refine J_pick [] rfl ?_
    exact t_X13_inGrid_24   _ _  h
  · have h := (if_neg c13).symm.trans h
    refine J_iload_n 2 dX13_inGrid_13 rfl ?_
    refine J_iconst (v := 0) dX13_inGrid_14 (by decide) ?_
    refine J_sipush (v := 134) dX13_inGrid_15 (by decide) ?_
    obtain ⟨r14, σ15, h16, h⟩ := bd_inv h
    refine M_callSI (d' := 1) (As := [.int a2, .int 0, .int 134]) (st := []) cs_X13_169 dX13_inGrid_18 rfl (Nat.le_of_ble_eq_true rfl) (Nat.le_of_ble_eq_true rfl) (by decide) rfl rfl (t_X13_within  h16) ?_
    refine J_if_ne (tgt := 26) dX13_inGrid_21 (by decide) (fun c17 => ?_) (fun c17 => ?_)
    · have h := (if_neg c17).symm.trans h
      refine J_aload_n 0 dX13_inGrid_26 rfl ?_
      refine J_iload_n 1 dX13_inGrid_27 rfl ?_
      obtain ⟨_, σ19, h20, h⟩ := bd_inv h
      refine M_callVV (d' := 6) (k := 324) (As := [.int a1]) (st := []) cv_X13_438 dX13_inGrid_28 rfl (by decide) rfl (Nat.le_of_ble_eq_true rfl) (Nat.le_of_ble_eq_true rfl) (by decide) n_324 k_324 rfl rfl (t_X13_findAll  h20) ?_
      refine J_iconst (v := 0) dX13_inGrid_31 (by decide) ?_
      refine J_istore_n (i := 3) (ls' := [(3, .int 0), (0, .ref 324), (1, .int a1), (2, .int a2)]) dX13_inGrid_32 rfl (by decide) rfl ?_
      refine J_pick [1, 3, 0] rfl ?_
      exact t_X13_inGrid_33  _ _ _ _ _  h
    · have h := (if_pos c17).symm.trans h
      refine J_pick [] rfl ?_
      exact t_X13_inGrid_24   _ _  h
theorem dX13_where_0 : decode cX13_where 0 = .ok (.aload_n 0, 1) := by decide +kernel
theorem dX13_where_1 : decode cX13_where 1 = .ok (.iconst 0, 1) := by decide +kernel
theorem dX13_where_2 : decode cX13_where 2 = .ok (.putfield 1, 3) := by decide +kernel
theorem dX13_where_5 : decode cX13_where 5 = .ok (.aload_n 0, 1) := by decide +kernel
theorem dX13_where_6 : decode cX13_where 6 = .ok (.iload_n 1, 1) := by decide +kernel
theorem dX13_where_7 : decode cX13_where 7 = .ok (.invokevirtual 298, 3) := by decide +kernel
theorem dX13_where_10 : decode cX13_where 10 = .ok (.ifCond .eq 10, 3) := by decide +kernel
theorem dX13_where_13 : decode cX13_where 13 = .ok (.aload_n 0, 1) := by decide +kernel
theorem dX13_where_14 : decode cX13_where 14 = .ok (.invokevirtual 380, 3) := by decide +kernel
theorem dX13_where_17 : decode cX13_where 17 = .ok (.ifCond .ne 5, 3) := by decide +kernel
theorem dX13_where_20 : decode cX13_where 20 = .ok (.iconst (-1), 1) := by decide +kernel
theorem dX13_where_21 : decode cX13_where 21 = .ok (.ireturn, 1) := by decide +kernel
theorem dX13_where_22 : decode cX13_where 22 = .ok (.aload_n 0, 1) := by decide +kernel
theorem dX13_where_23 : decode cX13_where 23 = .ok (.bipush 6, 2) := by decide +kernel
theorem dX13_where_25 : decode cX13_where 25 = .ok (.iconst 0, 1) := by decide +kernel
theorem dX13_where_26 : decode cX13_where 26 = .ok (.invokevirtual 386, 3) := by decide +kernel
theorem dX13_where_29 : decode cX13_where 29 = .ok (.iconst (-1), 1) := by decide +kernel
theorem dX13_where_30 : decode cX13_where 30 = .ok (.istore_n 2, 1) := by decide +kernel
theorem dX13_where_31 : decode cX13_where 31 = .ok (.iconst 0, 1) := by decide +kernel
theorem dX13_where_32 : decode cX13_where 32 = .ok (.istore_n 3, 1) := by decide +kernel
theorem dX13_where_33 : decode cX13_where 33 = .ok (.iconst 0, 1) := by decide +kernel
theorem dX13_where_34 : decode cX13_where 34 = .ok (.istore 4, 2) := by decide +kernel
theorem dX13_where_36 : decode cX13_where 36 = .ok (.iload 4, 2) := by decide +kernel
theorem dX13_where_38 : decode cX13_where 38 = .ok (.aload_n 0, 1) := by decide +kernel
theorem dX13_where_39 : decode cX13_where 39 = .ok (.getfield 243, 3) := by decide +kernel
theorem dX13_where_42 : decode cX13_where 42 = .ok (.if_icmp .ge 56, 3) := by decide +kernel
theorem dX13_where_45 : decode cX13_where 45 = .ok (.aload_n 0, 1) := by decide +kernel
theorem dX13_where_46 : decode cX13_where 46 = .ok (.iload 4, 2) := by decide +kernel
theorem dX13_where_48 : decode cX13_where 48 = .ok (.iload_n 1, 1) := by decide +kernel
theorem dX13_where_49 : decode cX13_where 49 = .ok (.invokevirtual 314, 3) := by decide +kernel
theorem dX13_where_52 : decode cX13_where 52 = .ok (.ifCond .ne 6, 3) := by decide +kernel
theorem dX13_where_55 : decode cX13_where 55 = .ok (.goto 37, 3) := by decide +kernel
theorem dX13_where_58 : decode cX13_where 58 = .ok (.aload_n 0, 1) := by decide +kernel
theorem dX13_where_59 : decode cX13_where 59 = .ok (.iload_n 1, 1) := by decide +kernel
theorem dX13_where_60 : decode cX13_where 60 = .ok (.iload 4, 2) := by decide +kernel
theorem dX13_where_62 : decode cX13_where 62 = .ok (.invokevirtual 453, 3) := by decide +kernel
theorem dX13_where_65 : decode cX13_where 65 = .ok (.istore 5, 2) := by decide +kernel
theorem dX13_where_67 : decode cX13_where 67 = .ok (.iload 5, 2) := by decide +kernel
theorem dX13_where_69 : decode cX13_where 69 = .ok (.ifCond .eq 23, 3) := by decide +kernel
theorem dX13_where_72 : decode cX13_where 72 = .ok (.iload_n 2, 1) := by decide +kernel
theorem dX13_where_73 : decode cX13_where 73 = .ok (.iconst (-1), 1) := by decide +kernel
theorem dX13_where_74 : decode cX13_where 74 = .ok (.if_icmp .eq 12, 3) := by decide +kernel
theorem dX13_where_77 : decode cX13_where 77 = .ok (.iload 5, 2) := by decide +kernel
theorem dX13_where_79 : decode cX13_where 79 = .ok (.iload_n 3, 1) := by decide +kernel
theorem dX13_where_80 : decode cX13_where 80 = .ok (.if_icmp .lt 6, 3) := by decide +kernel
theorem dX13_where_83 : decode cX13_where 83 = .ok (.goto 9, 3) := by decide +kernel
theorem dX13_where_86 : decode cX13_where 86 = .ok (.iload 4, 2) := by decide +kernel
theorem dX13_where_88 : decode cX13_where 88 = .ok (.istore_n 2, 1) := by decide +kernel
theorem dX13_where_89 : decode cX13_where 89 = .ok (.iload 5, 2) := by decide +kernel
theorem dX13_where_91 : decode cX13_where 91 = .ok (.istore_n 3, 1) := by decide +kernel
theorem dX13_where_92 : decode cX13_where 92 = .ok (.iinc 4 1, 3) := by decide +kernel
theorem dX13_where_95 : decode cX13_where 95 = .ok (.goto (-59), 3) := by decide +kernel
theorem dX13_where_98 : decode cX13_where 98 = .ok (.iload_n 2, 1) := by decide +kernel
theorem dX13_where_99 : decode cX13_where 99 = .ok (.ireturn, 1) := by decide +kernel
noncomputable def f_X13_where_20   (σ : jM) : Option (Int32 × jM) :=
  some ((-1), σ)
noncomputable def f_X13_where_92 (rec36 : Int32 → Int32 → Int32 → Int32 → jM → Option (Int32 × jM)) (l1 : Int32) (l2 : Int32) (l3 : Int32) (l4 : Int32) (σ : jM) : Option (Int32 × jM) :=
  rec36 l1 l2 l3 (l4 + 1) σ
noncomputable def f_X13_where_86 (rec36 : Int32 → Int32 → Int32 → Int32 → jM → Option (Int32 × jM)) (l1 : Int32) (l4 : Int32) (l5 : Int32) (σ : jM) : Option (Int32 × jM) :=
  f_X13_where_92 rec36 l1 l4 l5 l4 σ
noncomputable def s_X13_where_36  (rec36 : Int32 → Int32 → Int32 → Int32 → jM → Option (Int32 × jM)) (l1 : Int32) (l2 : Int32) (l3 : Int32) (l4 : Int32) (σ : jM) : Option (Int32 × jM) :=
  (if (rI σ 324 2) ≤ l4 then some (l2, σ) else bd (f_X13_tabletCounts l4 l1 σ) (fun r2 σ3 => (if r2 = 0 then f_X13_where_92 rec36 l1 l2 l3 l4 σ3 else bd (f_X13_waysWith l1 l4 σ3) (fun r6 σ7 => (if r6 = 0 then f_X13_where_92 rec36 l1 l2 l3 l4 σ7 else (if l2 = (-1) then f_X13_where_86 rec36 l1 l4 r6 σ7 else (if r6 < l3 then f_X13_where_86 rec36 l1 l4 r6 σ7 else f_X13_where_92 rec36 l1 l2 l3 l4 σ7)))))))
noncomputable def f_X13_where_36  (n : Nat) : Int32 → Int32 → Int32 → Int32 → jM → Option (Int32 × jM) := Nat.rec (motive := fun _ => Int32 → Int32 → Int32 → Int32 → jM → Option (Int32 × jM)) (fun _ _ _ _ _ => none) (fun _ q => s_X13_where_36  q) n
noncomputable def f_X13_where (a1 : Int32) (σ : jM) : Option (Int32 × jM) :=
  bd (f_X13_isKnown a1 (wI σ 324 0 0)) (fun r23 σ24 => (if r23 = 0 then f_X13_where_20   σ24 else bd (f_X13_isName  σ24) (fun r27 σ28 => (if r27 = 0 then f_X13_where_20   σ28 else bd (f_X13_takesName 6 0 σ28) (fun _ σ32 => f_X13_where_36  Fu a1 (-1) 0 0 σ32)))))
set_option maxRecDepth 20000 in
set_option maxHeartbeats 4000000 in
theorem t_X13_where_20   (σ : jM) (r : Int32 × jM)  (h : f_X13_where_20   σ = some r) : J mi_X13_where 7 0 0 (jqI r) 20 [] [] (ms σ) := by
  unfold f_X13_where_20 at h
  refine J_iconst (v := (-1)) dX13_where_20 (by decide) ?_
  exact J_ret (v := some (.int (-1))) rfl ⟨dX13_where_21, Or.inl rfl⟩ (jqI_mk h)
set_option maxRecDepth 20000 in
set_option maxHeartbeats 4000000 in
theorem t_X13_where_92 {rec36 : Int32 → Int32 → Int32 → Int32 → jM → Option (Int32 × jM)} (hrec36 : ∀ (l1 : Int32) (l2 : Int32) (l3 : Int32) (l4 : Int32) (σ : jM) (r : Int32 × jM), rec36 l1 l2 l3 l4 σ = some r → J mi_X13_where 7 0 0 (jqI r) 36 [(0, .ref 324), (1, .int l1), (2, .int l2), (3, .int l3), (4, .int l4)] [] (ms σ)) (l1 : Int32) (l2 : Int32) (l3 : Int32) (l4 : Int32) (σ : jM) (r : Int32 × jM)  (h : f_X13_where_92 rec36 l1 l2 l3 l4 σ = some r) : J mi_X13_where 7 0 0 (jqI r) 92 [(0, .ref 324), (1, .int l1), (2, .int l2), (3, .int l3), (4, .int l4)] [] (ms σ) := by
  unfold f_X13_where_92 at h
  refine J_iinc (v := (l4 + 1)) (ls' := [(4, .int (l4 + 1)), (0, .ref 324), (1, .int l1), (2, .int l2), (3, .int l3)]) 4 dX13_where_92 rfl rfl (by decide) rfl ?_
  refine J_goto (tgt := 36) dX13_where_95 (by decide) ?_
  refine J_pick [1, 2, 3, 4, 0] rfl ?_
  exact hrec36 _ _ _ _ _ _  h
set_option maxRecDepth 20000 in
set_option maxHeartbeats 4000000 in
theorem t_X13_where_86 {rec36 : Int32 → Int32 → Int32 → Int32 → jM → Option (Int32 × jM)} (hrec36 : ∀ (l1 : Int32) (l2 : Int32) (l3 : Int32) (l4 : Int32) (σ : jM) (r : Int32 × jM), rec36 l1 l2 l3 l4 σ = some r → J mi_X13_where 7 0 0 (jqI r) 36 [(0, .ref 324), (1, .int l1), (2, .int l2), (3, .int l3), (4, .int l4)] [] (ms σ)) (l1 : Int32) (l4 : Int32) (l5 : Int32) (σ : jM) (r : Int32 × jM)  (h : f_X13_where_86 rec36 l1 l4 l5 σ = some r) : J mi_X13_where 7 0 0 (jqI r) 86 [(0, .ref 324), (1, .int l1), (4, .int l4), (5, .int l5)] [] (ms σ) := by
  unfold f_X13_where_86 at h
  refine J_iload 2 dX13_where_86 rfl ?_
  refine J_istore_n (i := 2) (ls' := [(2, .int l4), (0, .ref 324), (1, .int l1), (4, .int l4), (5, .int l5)]) dX13_where_88 rfl (by decide) rfl ?_
  refine J_iload 4 dX13_where_89 rfl ?_
  refine J_istore_n (i := 3) (ls' := [(3, .int l5), (2, .int l4), (0, .ref 324), (1, .int l1), (4, .int l4), (5, .int l5)]) dX13_where_91 rfl (by decide) rfl ?_
  refine J_pick [2, 3, 1, 0, 4] rfl ?_
  exact t_X13_where_92 hrec36 _ _ _ _ _ _  h
set_option maxRecDepth 20000 in
set_option maxHeartbeats 4000000 in
theorem t_X13_where_36  : ∀ (n : Nat) (l1 : Int32) (l2 : Int32) (l3 : Int32) (l4 : Int32) (σ : jM) (r : Int32 × jM), f_X13_where_36  n l1 l2 l3 l4 σ = some r → J mi_X13_where 7 0 0 (jqI r) 36 [(0, .ref 324), (1, .int l1), (2, .int l2), (3, .int l3), (4, .int l4)] [] (ms σ) := by
  intro n
  induction n with
  | zero =>
    intro l1 l2 l3 l4 σ r  h
    have h : (none : Option (Int32 × jM)) = some r := h
    cases h
  | succ n ih =>
    intro l1 l2 l3 l4 σ r  h
    have h : s_X13_where_36  (f_X13_where_36  n) l1 l2 l3 l4 σ = some r := h
    unfold s_X13_where_36 at h
    refine J_iload 4 dX13_where_36 rfl ?_
    refine J_aload_n 0 dX13_where_38 rfl ?_
    refine M_getI gf_X13_243_12 dX13_where_39 k_324 n_324 ?_
    refine J_icmp_ge (tgt := 98) dX13_where_42 (by decide) (fun c12 => ?_) (fun c12 => ?_)
    · have h := (if_pos c12).symm.trans h
      refine J_iload_n 2 dX13_where_98 rfl ?_
      exact J_ret (v := some (.int l2)) rfl ⟨dX13_where_99, Or.inl rfl⟩ (jqI_mk h)
    · have h := (if_neg c12).symm.trans h
      refine J_aload_n 0 dX13_where_45 rfl ?_
      refine J_iload 4 dX13_where_46 rfl ?_
      refine J_iload_n 1 dX13_where_48 rfl ?_
      obtain ⟨r13, σ14, h15, h⟩ := bd_inv h
      refine M_callVI (d' := 2) (k := 324) (As := [.int l4, .int l1]) (st := []) cv_X13_314 dX13_where_49 rfl (by decide) rfl (Nat.le_of_ble_eq_true rfl) (Nat.le_of_ble_eq_true rfl) (by decide) n_324 k_324 rfl rfl (t_X13_tabletCounts  h15) ?_
      refine J_if_ne (tgt := 58) dX13_where_52 (by decide) (fun c16 => ?_) (fun c16 => ?_)
      · have h := (if_neg c16).symm.trans h
        refine J_aload_n 0 dX13_where_58 rfl ?_
        refine J_iload_n 1 dX13_where_59 rfl ?_
        refine J_iload 4 dX13_where_60 rfl ?_
        obtain ⟨r17, σ18, h19, h⟩ := bd_inv h
        refine M_callVI (d' := 6) (k := 324) (As := [.int l1, .int l4]) (st := []) cv_X13_453 dX13_where_62 rfl (by decide) rfl (Nat.le_of_ble_eq_true rfl) (Nat.le_of_ble_eq_true rfl) (by decide) n_324 k_324 rfl rfl (t_X13_waysWith  h19) ?_
        refine J_istore (i := 5) (ls' := [(5, .int r17), (0, .ref 324), (1, .int l1), (2, .int l2), (3, .int l3), (4, .int l4)]) dX13_where_65 (by decide) rfl ?_
        refine J_iload 0 dX13_where_67 rfl ?_
        refine J_if_eq (tgt := 92) dX13_where_69 (by decide) (fun c20 => ?_) (fun c20 => ?_)
        · have h := (if_pos c20).symm.trans h
          refine J_pick [1, 2, 3, 4, 5] rfl ?_
          exact t_X13_where_92 ih _ _ _ _ _ _  h
        · have h := (if_neg c20).symm.trans h
          refine J_iload_n 3 dX13_where_72 rfl ?_
          refine J_iconst (v := (-1)) dX13_where_73 (by decide) ?_
          refine J_icmp_eq (tgt := 86) dX13_where_74 (by decide) (fun c21 => ?_) (fun c21 => ?_)
          · have h := (if_pos c21).symm.trans h
            refine J_pick [1, 2, 5, 0] rfl ?_
            exact t_X13_where_86 ih _ _ _ _ _  h
          · have h := (if_neg c21).symm.trans h
            refine J_iload 0 dX13_where_77 rfl ?_
            refine J_iload_n 4 dX13_where_79 rfl ?_
            refine J_icmp_lt (tgt := 86) dX13_where_80 (by decide) (fun c22 => ?_) (fun c22 => ?_)
            · have h := (if_pos c22).symm.trans h
              refine J_pick [1, 2, 5, 0] rfl ?_
              exact t_X13_where_86 ih _ _ _ _ _  h
            · have h := (if_neg c22).symm.trans h
              refine J_goto (tgt := 92) dX13_where_83 (by decide) ?_
              refine J_pick [1, 2, 3, 4, 5] rfl ?_
              exact t_X13_where_92 ih _ _ _ _ _ _  h
      · have h := (if_pos c16).symm.trans h
        refine J_goto (tgt := 92) dX13_where_55 (by decide) ?_
        exact t_X13_where_92 ih _ _ _ _ _ _  h
set_option maxRecDepth 20000 in
set_option maxHeartbeats 4000000 in
theorem t_X13_where {a1 : Int32} {σ : jM} {r : Int32 × jM}  (h : f_X13_where a1 σ = some r) : J mi_X13_where 7 0 0 (jqI r) 0 [(0, .ref 324), (1, .int a1)] [] (ms σ) := by
  unfold f_X13_where at h
  refine J_aload_n 0 dX13_where_0 rfl ?_
  refine J_iconst (v := 0) dX13_where_1 (by decide) ?_
  refine M_putI pf_X13_1_12 dX13_where_2 k_324 n_324 ⟨rfl, rfl⟩ ?_
  refine J_aload_n 0 dX13_where_5 rfl ?_
  refine J_iload_n 1 dX13_where_6 rfl ?_
  obtain ⟨r23, σ24, h25, h⟩ := bd_inv h
  refine M_callVI (d' := 1) (k := 324) (As := [.int a1]) (st := []) cv_X13_298 dX13_where_7 rfl (by decide) rfl (Nat.le_of_ble_eq_true rfl) (Nat.le_of_ble_eq_true rfl) (by decide) n_324 k_324 rfl rfl (t_X13_isKnown  h25) ?_
  refine J_if_eq (tgt := 20) dX13_where_10 (by decide) (fun c26 => ?_) (fun c26 => ?_)
  · have h := (if_pos c26).symm.trans h
    refine J_pick [] rfl ?_
    exact t_X13_where_20   _ _  h
  · have h := (if_neg c26).symm.trans h
    refine J_aload_n 0 dX13_where_13 rfl ?_
    obtain ⟨r27, σ28, h29, h⟩ := bd_inv h
    refine M_callVI (d' := 2) (k := 324) (As := []) (st := []) cv_X13_380 dX13_where_14 rfl (by decide) rfl (Nat.le_of_ble_eq_true rfl) (Nat.le_of_ble_eq_true rfl) (by decide) n_324 k_324 rfl rfl (t_X13_isName  h29) ?_
    refine J_if_ne (tgt := 22) dX13_where_17 (by decide) (fun c30 => ?_) (fun c30 => ?_)
    · have h := (if_neg c30).symm.trans h
      refine J_aload_n 0 dX13_where_22 rfl ?_
      refine J_bipush (v := 6) dX13_where_23 (by decide) ?_
      refine J_iconst (v := 0) dX13_where_25 (by decide) ?_
      obtain ⟨_, σ32, h33, h⟩ := bd_inv h
      refine M_callVV (d' := 1) (k := 324) (As := [.int 6, .int 0]) (st := []) cv_X13_386 dX13_where_26 rfl (by decide) rfl (Nat.le_of_ble_eq_true rfl) (Nat.le_of_ble_eq_true rfl) (by decide) n_324 k_324 rfl rfl (t_X13_takesName  h33) ?_
      refine J_iconst (v := (-1)) dX13_where_29 (by decide) ?_
      refine J_istore_n (i := 2) (ls' := [(2, .int (-1)), (0, .ref 324), (1, .int a1)]) dX13_where_30 rfl (by decide) rfl ?_
      refine J_iconst (v := 0) dX13_where_31 (by decide) ?_
      refine J_istore_n (i := 3) (ls' := [(3, .int 0), (2, .int (-1)), (0, .ref 324), (1, .int a1)]) dX13_where_32 rfl (by decide) rfl ?_
      refine J_iconst (v := 0) dX13_where_33 (by decide) ?_
      refine J_istore (i := 4) (ls' := [(4, .int 0), (3, .int 0), (2, .int (-1)), (0, .ref 324), (1, .int a1)]) dX13_where_34 (by decide) rfl ?_
      refine J_pick [3, 4, 2, 1, 0] rfl ?_
      exact t_X13_where_36  _ _ _ _ _ _ _  h
    · have h := (if_pos c30).symm.trans h
      refine J_pick [] rfl ?_
      exact t_X13_where_20   _ _  h
theorem dX0_look_0 : decode cX0_look 0 = .ok (.aload_n 0, 1) := by decide +kernel
theorem dX0_look_1 : decode cX0_look 1 = .ok (.iload_n 1, 1) := by decide +kernel
theorem dX0_look_2 : decode cX0_look 2 = .ok (.putfield 42, 3) := by decide +kernel
theorem dX0_look_5 : decode cX0_look 5 = .ok (.aload_n 0, 1) := by decide +kernel
theorem dX0_look_6 : decode cX0_look 6 = .ok (.aload_n 0, 1) := by decide +kernel
theorem dX0_look_7 : decode cX0_look 7 = .ok (.getfield 51, 3) := by decide +kernel
theorem dX0_look_10 : decode cX0_look 10 = .ok (.putfield 58, 3) := by decide +kernel
theorem dX0_look_13 : decode cX0_look 13 = .ok (.iconst 0, 1) := by decide +kernel
theorem dX0_look_14 : decode cX0_look 14 = .ok (.istore_n 2, 1) := by decide +kernel
theorem dX0_look_15 : decode cX0_look 15 = .ok (.iload_n 2, 1) := by decide +kernel
theorem dX0_look_16 : decode cX0_look 16 = .ok (.aload_n 0, 1) := by decide +kernel
theorem dX0_look_17 : decode cX0_look 17 = .ok (.getfield 77, 3) := by decide +kernel
theorem dX0_look_20 : decode cX0_look 20 = .ok (.if_icmp .ge 32, 3) := by decide +kernel
theorem dX0_look_23 : decode cX0_look 23 = .ok (.aload_n 0, 1) := by decide +kernel
theorem dX0_look_24 : decode cX0_look 24 = .ok (.getfield 19, 3) := by decide +kernel
theorem dX0_look_27 : decode cX0_look 27 = .ok (.iload_n 2, 1) := by decide +kernel
theorem dX0_look_28 : decode cX0_look 28 = .ok (.aaload, 1) := by decide +kernel
theorem dX0_look_29 : decode cX0_look 29 = .ok (.getfield 80, 3) := by decide +kernel
theorem dX0_look_32 : decode cX0_look 32 = .ok (.iload_n 1, 1) := by decide +kernel
theorem dX0_look_33 : decode cX0_look 33 = .ok (.if_icmp .gt 13, 3) := by decide +kernel
theorem dX0_look_36 : decode cX0_look 36 = .ok (.aload_n 0, 1) := by decide +kernel
theorem dX0_look_37 : decode cX0_look 37 = .ok (.aload_n 0, 1) := by decide +kernel
theorem dX0_look_38 : decode cX0_look 38 = .ok (.getfield 19, 3) := by decide +kernel
theorem dX0_look_41 : decode cX0_look 41 = .ok (.iload_n 2, 1) := by decide +kernel
theorem dX0_look_42 : decode cX0_look 42 = .ok (.aaload, 1) := by decide +kernel
theorem dX0_look_43 : decode cX0_look 43 = .ok (.putfield 58, 3) := by decide +kernel
theorem dX0_look_46 : decode cX0_look 46 = .ok (.iinc 2 1, 3) := by decide +kernel
theorem dX0_look_49 : decode cX0_look 49 = .ok (.goto (-34), 3) := by decide +kernel
theorem dX0_look_52 : decode cX0_look 52 = .ok (.aload_n 0, 1) := by decide +kernel
theorem dX0_look_53 : decode cX0_look 53 = .ok (.getfield 38, 3) := by decide +kernel
theorem dX0_look_56 : decode cX0_look 56 = .ok (.iload_n 1, 1) := by decide +kernel
theorem dX0_look_57 : decode cX0_look 57 = .ok (.aload_n 0, 1) := by decide +kernel
theorem dX0_look_58 : decode cX0_look 58 = .ok (.getfield 46, 3) := by decide +kernel
theorem dX0_look_61 : decode cX0_look 61 = .ok (.invokevirtual 83, 3) := by decide +kernel
theorem dX0_look_64 : decode cX0_look 64 = .ok (.return_, 1) := by decide +kernel
noncomputable def f_X0_look_46 (rec15 : Int32 → Int32 → jM → Option (Unit × jM)) (l1 : Int32) (l2 : Int32) (σ : jM) : Option (Unit × jM) :=
  rec15 l1 (l2 + 1) σ
noncomputable def s_X0_look_15  (rec15 : Int32 → Int32 → jM → Option (Unit × jM)) (l1 : Int32) (l2 : Int32) (σ : jM) : Option (Unit × jM) :=
  (if (rI σ 3 4) ≤ l2 then bd (f_X5_stand l1 18 σ) (fun _ σ5 => some ((), σ5)) else gd (inb l2 10) ((if l1 < (rI σ (rulX (Int32.toNatClampNeg l2)) 0) then f_X0_look_46 rec15 l1 l2 σ else gd (inb l2 10) (f_X0_look_46 rec15 l1 l2 (wC σ (Int32.toNatClampNeg l2))))))
noncomputable def f_X0_look_15  (n : Nat) : Int32 → Int32 → jM → Option (Unit × jM) := Nat.rec (motive := fun _ => Int32 → Int32 → jM → Option (Unit × jM)) (fun _ _ _ => none) (fun _ q => s_X0_look_15  q) n
noncomputable def f_X0_look (a1 : Int32) (σ : jM) : Option (Unit × jM) :=
  f_X0_look_15  Fu a1 0 (wC (wI σ 3 10 a1) 10)
set_option maxRecDepth 20000 in
set_option maxHeartbeats 4000000 in
theorem t_X0_look_46 {rec15 : Int32 → Int32 → jM → Option (Unit × jM)} (hrec15 : ∀ (l1 : Int32) (l2 : Int32) (σ : jM) (r : Unit × jM), rec15 l1 l2 σ = some r → J mi_X0_look 5 0 0 (jqV r) 15 [(0, .ref 3), (1, .int l1), (2, .int l2)] [] (ms σ)) (l1 : Int32) (l2 : Int32) (σ : jM) (r : Unit × jM)  (h : f_X0_look_46 rec15 l1 l2 σ = some r) : J mi_X0_look 5 0 0 (jqV r) 46 [(0, .ref 3), (1, .int l1), (2, .int l2)] [] (ms σ) := by
  unfold f_X0_look_46 at h
  refine J_iinc (v := (l2 + 1)) (ls' := [(2, .int (l2 + 1)), (0, .ref 3), (1, .int l1)]) 2 dX0_look_46 rfl rfl (by decide) rfl ?_
  refine J_goto (tgt := 15) dX0_look_49 (by decide) ?_
  refine J_pick [1, 2, 0] rfl ?_
  exact hrec15 _ _ _ _  h
set_option maxRecDepth 20000 in
set_option maxHeartbeats 4000000 in
theorem t_X0_look_15  : ∀ (n : Nat) (l1 : Int32) (l2 : Int32) (σ : jM) (r : Unit × jM), f_X0_look_15  n l1 l2 σ = some r → J mi_X0_look 5 0 0 (jqV r) 15 [(0, .ref 3), (1, .int l1), (2, .int l2)] [] (ms σ) := by
  intro n
  induction n with
  | zero =>
    intro l1 l2 σ r  h
    have h : (none : Option (Unit × jM)) = some r := h
    cases h
  | succ n ih =>
    intro l1 l2 σ r  h
    have h : s_X0_look_15  (f_X0_look_15  n) l1 l2 σ = some r := h
    unfold s_X0_look_15 at h
    refine J_iload_n 2 dX0_look_15 rfl ?_
    refine J_aload_n 0 dX0_look_16 rfl ?_
    refine M_getI gf_X0_77_0 dX0_look_17 k_3 n_3 ?_
    refine J_icmp_ge (tgt := 52) dX0_look_20 (by decide) (fun c10 => ?_) (fun c10 => ?_)
    · have h := (if_pos c10).symm.trans h
      refine J_aload_n 0 dX0_look_52 rfl ?_
      refine M_getR gf_X0_38_0 dX0_look_53 (g_3_9 _) k_3 n_3 ?_
      refine J_iload_n 1 dX0_look_56 rfl ?_
      refine J_aload_n 0 dX0_look_57 rfl ?_
      refine M_getR gf_X0_46_0 dX0_look_58 (g_3_11 _) k_3 n_3 ?_
      obtain ⟨_, σ12, h13, h⟩ := bd_inv h
      refine M_callVV (d' := 4) (k := 8) (As := [.int l1, .ref 18]) (st := []) cv_X0_83 dX0_look_61 rfl (by decide) rfl (Nat.le_of_ble_eq_true rfl) (Nat.le_of_ble_eq_true rfl) (by decide) n_8 k_8 rfl rfl (t_X5_stand ⟨congrArg Prod.fst a_18, n_18⟩ h13) ?_
      exact J_ret (v := none) rfl ⟨dX0_look_64, rfl⟩ (jqV_mk h)
    · have h := (if_neg c10).symm.trans h
      refine J_aload_n 0 dX0_look_23 rfl ?_
      refine M_getR gf_X0_19_0 dX0_look_24 (g_3_3 _) k_3 n_3 ?_
      refine J_iload_n 2 dX0_look_27 rfl ?_
      obtain ⟨g14, h⟩ := gd_inv h
      refine M_aald dX0_look_28 a_5 (by decide) n_5 g14 (r_rul _ g14.2) ?_
      refine M_getI gf_X0_80_6 dX0_look_29 (kk_rul (Int32.toNatClampNeg l2)) (nn_rul (Int32.toNatClampNeg l2)) ?_
      refine J_iload_n 1 dX0_look_32 rfl ?_
      refine J_icmp_gt (tgt := 46) dX0_look_33 (by decide) (fun c15 => ?_) (fun c15 => ?_)
      · have h := (if_pos c15).symm.trans h
        exact t_X0_look_46 ih _ _ _ _  h
      · have h := (if_neg c15).symm.trans h
        refine J_aload_n 0 dX0_look_36 rfl ?_
        refine J_aload_n 0 dX0_look_37 rfl ?_
        refine M_getR gf_X0_19_0 dX0_look_38 (g_3_3 _) k_3 n_3 ?_
        refine J_iload_n 2 dX0_look_41 rfl ?_
        obtain ⟨g16, h⟩ := gd_inv h
        refine M_aald dX0_look_42 a_5 (by decide) n_5 g16 (r_rul _ g16.2) ?_
        refine M_putC (c := (Int32.toNatClampNeg l2)) pf_X0_58_0 dX0_look_43 ?_
        exact t_X0_look_46 ih _ _ _ _  h
set_option maxRecDepth 20000 in
set_option maxHeartbeats 4000000 in
theorem t_X0_look {a1 : Int32} {σ : jM} {r : Unit × jM}  (h : f_X0_look a1 σ = some r) : J mi_X0_look 5 0 0 (jqV r) 0 [(0, .ref 3), (1, .int a1)] [] (ms σ) := by
  unfold f_X0_look at h
  refine J_aload_n 0 dX0_look_0 rfl ?_
  refine J_iload_n 1 dX0_look_1 rfl ?_
  refine M_putI pf_X0_42_0 dX0_look_2 k_3 n_3 ⟨rfl, rfl⟩ ?_
  refine J_aload_n 0 dX0_look_5 rfl ?_
  refine J_aload_n 0 dX0_look_6 rfl ?_
  refine M_getR gf_X0_51_0 dX0_look_7 (g_3_13 _) k_3 n_3 ?_
  refine M_putC (c := 10) pf_X0_58_0 dX0_look_10 ?_
  refine J_iconst (v := 0) dX0_look_13 (by decide) ?_
  refine J_istore_n (i := 2) (ls' := [(2, .int 0), (0, .ref 3), (1, .int a1)]) dX0_look_14 rfl (by decide) rfl ?_
  refine J_pick [1, 2, 0] rfl ?_
  exact t_X0_look_15  _ _ _ _ _  h
theorem dX2_make_0 : decode cX2_make 0 = .ok (.aload_n 0, 1) := by decide +kernel
theorem dX2_make_1 : decode cX2_make 1 = .ok (.getfield 30, 3) := by decide +kernel
theorem dX2_make_4 : decode cX2_make 4 = .ok (.ifCond .eq 4, 3) := by decide +kernel
theorem dX2_make_7 : decode cX2_make 7 = .ok (.return_, 1) := by decide +kernel
theorem dX2_make_8 : decode cX2_make 8 = .ok (.aload_n 0, 1) := by decide +kernel
theorem dX2_make_9 : decode cX2_make 9 = .ok (.iconst 1, 1) := by decide +kernel
theorem dX2_make_10 : decode cX2_make 10 = .ok (.putfield 30, 3) := by decide +kernel
theorem dX2_make_13 : decode cX2_make 13 = .ok (.aload_n 0, 1) := by decide +kernel
theorem dX2_make_14 : decode cX2_make 14 = .ok (.iconst (-1), 1) := by decide +kernel
theorem dX2_make_15 : decode cX2_make 15 = .ok (.putfield 34, 3) := by decide +kernel
theorem dX2_make_18 : decode cX2_make 18 = .ok (.aload_n 0, 1) := by decide +kernel
theorem dX2_make_19 : decode cX2_make 19 = .ok (.iconst 0, 1) := by decide +kernel
theorem dX2_make_20 : decode cX2_make 20 = .ok (.putfield 38, 3) := by decide +kernel
theorem dX2_make_23 : decode cX2_make 23 = .ok (.iconst 0, 1) := by decide +kernel
theorem dX2_make_24 : decode cX2_make 24 = .ok (.istore_n 1, 1) := by decide +kernel
theorem dX2_make_25 : decode cX2_make 25 = .ok (.iload_n 1, 1) := by decide +kernel
theorem dX2_make_26 : decode cX2_make 26 = .ok (.bipush 40, 2) := by decide +kernel
theorem dX2_make_28 : decode cX2_make 28 = .ok (.if_icmp .ge 19, 3) := by decide +kernel
theorem dX2_make_31 : decode cX2_make 31 = .ok (.aload_n 0, 1) := by decide +kernel
theorem dX2_make_32 : decode cX2_make 32 = .ok (.iload_n 1, 1) := by decide +kernel
theorem dX2_make_33 : decode cX2_make 33 = .ok (.aload_n 0, 1) := by decide +kernel
theorem dX2_make_34 : decode cX2_make 34 = .ok (.iload_n 1, 1) := by decide +kernel
theorem dX2_make_35 : decode cX2_make 35 = .ok (.invokevirtual 41, 3) := by decide +kernel
theorem dX2_make_38 : decode cX2_make 38 = .ok (.invokevirtual 45, 3) := by decide +kernel
theorem dX2_make_41 : decode cX2_make 41 = .ok (.iinc 1 1, 3) := by decide +kernel
theorem dX2_make_44 : decode cX2_make 44 = .ok (.goto (-19), 3) := by decide +kernel
theorem dX2_make_47 : decode cX2_make 47 = .ok (.aload_n 0, 1) := by decide +kernel
theorem dX2_make_48 : decode cX2_make 48 = .ok (.getfield 34, 3) := by decide +kernel
theorem dX2_make_51 : decode cX2_make 51 = .ok (.iconst (-1), 1) := by decide +kernel
theorem dX2_make_52 : decode cX2_make 52 = .ok (.if_icmp .eq 27, 3) := by decide +kernel
theorem dX2_make_55 : decode cX2_make 55 = .ok (.aload_n 0, 1) := by decide +kernel
theorem dX2_make_56 : decode cX2_make 56 = .ok (.getfield 49, 3) := by decide +kernel
theorem dX2_make_59 : decode cX2_make 59 = .ok (.istore_n 1, 1) := by decide +kernel
theorem dX2_make_60 : decode cX2_make 60 = .ok (.iload_n 1, 1) := by decide +kernel
theorem dX2_make_61 : decode cX2_make 61 = .ok (.aload_n 0, 1) := by decide +kernel
theorem dX2_make_62 : decode cX2_make 62 = .ok (.getfield 52, 3) := by decide +kernel
theorem dX2_make_65 : decode cX2_make 65 = .ok (.if_icmp .gt 14, 3) := by decide +kernel
theorem dX2_make_68 : decode cX2_make 68 = .ok (.aload_n 0, 1) := by decide +kernel
theorem dX2_make_69 : decode cX2_make 69 = .ok (.iload_n 1, 1) := by decide +kernel
theorem dX2_make_70 : decode cX2_make 70 = .ok (.invokevirtual 55, 3) := by decide +kernel
theorem dX2_make_73 : decode cX2_make 73 = .ok (.iinc 1 1, 3) := by decide +kernel
theorem dX2_make_76 : decode cX2_make 76 = .ok (.goto (-16), 3) := by decide +kernel
theorem dX2_make_79 : decode cX2_make 79 = .ok (.return_, 1) := by decide +kernel
noncomputable def f_X2_make_79   (σ : jM) : Option (Unit × jM) :=
  some ((), σ)
noncomputable def s_X2_make_60  (rec60 : Int32 → jM → Option (Unit × jM)) (l1 : Int32) (σ : jM) : Option (Unit × jM) :=
  (if (rI σ 289 11) < l1 then f_X2_make_79   σ else bd (f_X2_trace l1 σ) (fun _ σ3 => rec60 (l1 + 1) σ3))
noncomputable def f_X2_make_60  (n : Nat) : Int32 → jM → Option (Unit × jM) := Nat.rec (motive := fun _ => Int32 → jM → Option (Unit × jM)) (fun _ _ => none) (fun _ q => s_X2_make_60  q) n
noncomputable def s_X2_make_25  (rec25 : Int32 → jM → Option (Unit × jM)) (l1 : Int32) (σ : jM) : Option (Unit × jM) :=
  (if 40 ≤ l1 then (if (rI σ 289 3) = (-1) then f_X2_make_79   σ else f_X2_make_60  Fu (rI σ 289 10) σ) else bd (f_X2_clashingAbove l1 σ) (fun r11 σ12 => bd (f_X2_weighAll l1 r11 σ12) (fun _ σ15 => rec25 (l1 + 1) σ15)))
noncomputable def f_X2_make_25  (n : Nat) : Int32 → jM → Option (Unit × jM) := Nat.rec (motive := fun _ => Int32 → jM → Option (Unit × jM)) (fun _ _ => none) (fun _ q => s_X2_make_25  q) n
noncomputable def f_X2_make  (σ : jM) : Option (Unit × jM) :=
  (if (rI σ 289 0) = 0 then f_X2_make_25  Fu 0 (wI (wI (wI σ 289 0 1) 289 3 (-1)) 289 5 0) else some ((), σ))
set_option maxRecDepth 20000 in
set_option maxHeartbeats 4000000 in
theorem t_X2_make_79   (σ : jM) (r : Unit × jM)  (h : f_X2_make_79   σ = some r) : J mi_X2_make 5 0 0 (jqV r) 79 [] [] (ms σ) := by
  unfold f_X2_make_79 at h
  exact J_ret (v := none) rfl ⟨dX2_make_79, rfl⟩ (jqV_mk h)
set_option maxRecDepth 20000 in
set_option maxHeartbeats 4000000 in
theorem t_X2_make_60  : ∀ (n : Nat) (l1 : Int32) (σ : jM) (r : Unit × jM), f_X2_make_60  n l1 σ = some r → J mi_X2_make 5 0 0 (jqV r) 60 [(0, .ref 289), (1, .int l1)] [] (ms σ) := by
  intro n
  induction n with
  | zero =>
    intro l1 σ r  h
    have h : (none : Option (Unit × jM)) = some r := h
    cases h
  | succ n ih =>
    intro l1 σ r  h
    have h : s_X2_make_60  (f_X2_make_60  n) l1 σ = some r := h
    unfold s_X2_make_60 at h
    refine J_iload_n 1 dX2_make_60 rfl ?_
    refine J_aload_n 0 dX2_make_61 rfl ?_
    refine M_getI gf_X2_52_2 dX2_make_62 k_289 n_289 ?_
    refine J_icmp_gt (tgt := 79) dX2_make_65 (by decide) (fun c5 => ?_) (fun c5 => ?_)
    · have h := (if_pos c5).symm.trans h
      refine J_pick [] rfl ?_
      exact t_X2_make_79   _ _  h
    · have h := (if_neg c5).symm.trans h
      refine J_aload_n 0 dX2_make_68 rfl ?_
      refine J_iload_n 1 dX2_make_69 rfl ?_
      obtain ⟨_, σ7, h8, h⟩ := bd_inv h
      refine M_callVV (d' := 4) (k := 289) (As := [.int l1]) (st := []) cv_X2_55 dX2_make_70 rfl (by decide) rfl (Nat.le_of_ble_eq_true rfl) (Nat.le_of_ble_eq_true rfl) (by decide) n_289 k_289 rfl rfl (t_X2_trace  h8) ?_
      refine J_iinc (v := (l1 + 1)) (ls' := [(1, .int (l1 + 1)), (0, .ref 289)]) 1 dX2_make_73 rfl rfl (by decide) rfl ?_
      refine J_goto (tgt := 60) dX2_make_76 (by decide) ?_
      refine J_pick [1, 0] rfl ?_
      exact ih _ _ _  h
set_option maxRecDepth 20000 in
set_option maxHeartbeats 4000000 in
theorem t_X2_make_25  : ∀ (n : Nat) (l1 : Int32) (σ : jM) (r : Unit × jM), f_X2_make_25  n l1 σ = some r → J mi_X2_make 5 0 0 (jqV r) 25 [(0, .ref 289), (1, .int l1)] [] (ms σ) := by
  intro n
  induction n with
  | zero =>
    intro l1 σ r  h
    have h : (none : Option (Unit × jM)) = some r := h
    cases h
  | succ n ih =>
    intro l1 σ r  h
    have h : s_X2_make_25  (f_X2_make_25  n) l1 σ = some r := h
    unfold s_X2_make_25 at h
    refine J_iload_n 1 dX2_make_25 rfl ?_
    refine J_bipush (v := 40) dX2_make_26 (by decide) ?_
    refine J_icmp_ge (tgt := 47) dX2_make_28 (by decide) (fun c17 => ?_) (fun c17 => ?_)
    · have h := (if_pos c17).symm.trans h
      refine J_aload_n 0 dX2_make_47 rfl ?_
      refine M_getI gf_X2_34_2 dX2_make_48 k_289 n_289 ?_
      refine J_iconst (v := (-1)) dX2_make_51 (by decide) ?_
      refine J_icmp_eq (tgt := 79) dX2_make_52 (by decide) (fun c18 => ?_) (fun c18 => ?_)
      · have h := (if_pos c18).symm.trans h
        refine J_pick [] rfl ?_
        exact t_X2_make_79   _ _  h
      · have h := (if_neg c18).symm.trans h
        refine J_aload_n 0 dX2_make_55 rfl ?_
        refine M_getI gf_X2_49_2 dX2_make_56 k_289 n_289 ?_
        refine J_istore_n (i := 1) (ls' := [(1, .int (rI σ 289 10)), (0, .ref 289)]) dX2_make_59 rfl (by decide) rfl ?_
        refine J_pick [1, 0] rfl ?_
        exact t_X2_make_60  _ _ _ _  h
    · have h := (if_neg c17).symm.trans h
      refine J_aload_n 0 dX2_make_31 rfl ?_
      refine J_iload_n 1 dX2_make_32 rfl ?_
      refine J_aload_n 0 dX2_make_33 rfl ?_
      refine J_iload_n 1 dX2_make_34 rfl ?_
      obtain ⟨r19, σ20, h21, h⟩ := bd_inv h
      refine M_callVL (d' := 1) (k := 289) (As := [.int l1]) (st := [.int l1, .ref 289]) cv_X2_41 dX2_make_35 rfl (by decide) rfl (Nat.le_of_ble_eq_true rfl) (Nat.le_of_ble_eq_true rfl) (by decide) n_289 k_289 rfl rfl (t_X2_clashingAbove  h21) ?_
      obtain ⟨_, σ23, h24, h⟩ := bd_inv h
      refine M_callVV (d' := 4) (k := 289) (As := [.int l1, .long r19]) (st := []) cv_X2_45 dX2_make_38 rfl (by decide) rfl (Nat.le_of_ble_eq_true rfl) (Nat.le_of_ble_eq_true rfl) (by decide) n_289 k_289 rfl rfl (t_X2_weighAll  h24) ?_
      refine J_iinc (v := (l1 + 1)) (ls' := [(1, .int (l1 + 1)), (0, .ref 289)]) 1 dX2_make_41 rfl rfl (by decide) rfl ?_
      refine J_goto (tgt := 25) dX2_make_44 (by decide) ?_
      refine J_pick [1, 0] rfl ?_
      exact ih _ _ _  h
set_option maxRecDepth 20000 in
set_option maxHeartbeats 4000000 in
theorem t_X2_make  {σ : jM} {r : Unit × jM}  (h : f_X2_make  σ = some r) : J mi_X2_make 5 0 0 (jqV r) 0 [(0, .ref 289)] [] (ms σ) := by
  unfold f_X2_make at h
  refine J_aload_n 0 dX2_make_0 rfl ?_
  refine M_getI gf_X2_30_2 dX2_make_1 k_289 n_289 ?_
  refine J_if_eq (tgt := 8) dX2_make_4 (by decide) (fun c25 => ?_) (fun c25 => ?_)
  · have h := (if_pos c25).symm.trans h
    refine J_aload_n 0 dX2_make_8 rfl ?_
    refine J_iconst (v := 1) dX2_make_9 (by decide) ?_
    refine M_putI pf_X2_30_2 dX2_make_10 k_289 n_289 (jbool (Or.inr rfl)) ?_
    refine J_aload_n 0 dX2_make_13 rfl ?_
    refine J_iconst (v := (-1)) dX2_make_14 (by decide) ?_
    refine M_putI pf_X2_34_2 dX2_make_15 k_289 n_289 ⟨rfl, rfl⟩ ?_
    refine J_aload_n 0 dX2_make_18 rfl ?_
    refine J_iconst (v := 0) dX2_make_19 (by decide) ?_
    refine M_putI pf_X2_38_2 dX2_make_20 k_289 n_289 ⟨rfl, rfl⟩ ?_
    refine J_iconst (v := 0) dX2_make_23 (by decide) ?_
    refine J_istore_n (i := 1) (ls' := [(1, .int 0), (0, .ref 289)]) dX2_make_24 rfl (by decide) rfl ?_
    refine J_pick [1, 0] rfl ?_
    exact t_X2_make_25  _ _ _ _  h
  · have h := (if_neg c25).symm.trans h
    exact J_ret (v := none) rfl ⟨dX2_make_7, rfl⟩ (jqV_mk h)
