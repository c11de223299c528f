theorem dX11_begin_0 : decode cX11_begin 0 = .ok (.aload_n 0, 1) := by decide +kernel
theorem dX11_begin_1 : decode cX11_begin 1 = .ok (.iconst 0, 1) := by decide +kernel
theorem dX11_begin_2 : decode cX11_begin 2 = .ok (.putfield 159, 3) := by decide +kernel
theorem dX11_begin_5 : decode cX11_begin 5 = .ok (.aload_n 0, 1) := by decide +kernel
theorem dX11_begin_6 : decode cX11_begin 6 = .ok (.iconst (-1), 1) := by decide +kernel
theorem dX11_begin_7 : decode cX11_begin 7 = .ok (.putfield 15, 3) := by decide +kernel
theorem dX11_begin_10 : decode cX11_begin 10 = .ok (.aload_n 0, 1) := by decide +kernel
theorem dX11_begin_11 : decode cX11_begin 11 = .ok (.iconst 0, 1) := by decide +kernel
theorem dX11_begin_12 : decode cX11_begin 12 = .ok (.putfield 148, 3) := by decide +kernel
theorem dX11_begin_15 : decode cX11_begin 15 = .ok (.aload_n 0, 1) := by decide +kernel
theorem dX11_begin_16 : decode cX11_begin 16 = .ok (.invokevirtual 54, 3) := by decide +kernel
theorem dX11_begin_19 : decode cX11_begin 19 = .ok (.return_, 1) := by decide +kernel
noncomputable def f_X11_begin  (σ : jM) : Option (Unit × jM) :=
  bd (f_X11_advance  (wI (wI (wI σ 262 2 0) 262 3 (-1)) 262 6 0)) (fun _ σ2 => some ((), σ2))
set_option maxRecDepth 20000 in
set_option maxHeartbeats 4000000 in
theorem t_X11_begin  {σ : jM} {r : Unit × jM}  (h : f_X11_begin  σ = some r) : J mi_X11_begin 4 0 0 (jqV r) 0 [(0, .ref 262)] [] (ms σ) := by
  unfold f_X11_begin at h
  refine J_aload_n 0 dX11_begin_0 rfl ?_
  refine J_iconst (v := 0) dX11_begin_1 (by decide) ?_
  refine M_putI pf_X11_159_10 dX11_begin_2 k_262 n_262 ⟨rfl, rfl⟩ ?_
  refine J_aload_n 0 dX11_begin_5 rfl ?_
  refine J_iconst (v := (-1)) dX11_begin_6 (by decide) ?_
  refine M_putI pf_X11_15_10 dX11_begin_7 k_262 n_262 ⟨rfl, rfl⟩ ?_
  refine J_aload_n 0 dX11_begin_10 rfl ?_
  refine J_iconst (v := 0) dX11_begin_11 (by decide) ?_
  refine M_putI pf_X11_148_10 dX11_begin_12 k_262 n_262 ⟨rfl, rfl⟩ ?_
  refine J_aload_n 0 dX11_begin_15 rfl ?_
  obtain ⟨_, σ2, h3, h⟩ := bd_inv h
  refine M_callVV (d' := 3) (k := 262) (As := []) (st := []) cv_X11_54 dX11_begin_16 rfl (by decide) rfl (Nat.le_of_ble_eq_true rfl) (Nat.le_of_ble_eq_true rfl) (by decide) n_262 k_262 rfl rfl (t_X11_advance  h3) ?_
  exact J_ret (v := none) rfl ⟨dX11_begin_19, rfl⟩ (jqV_mk h)
theorem dX12_see_0 : decode cX12_see 0 = .ok (.iload_n 1, 1) := by decide +kernel
theorem dX12_see_1 : decode cX12_see 1 = .ok (.ifCond .lt 14, 3) := by decide +kernel
theorem dX12_see_4 : decode cX12_see 4 = .ok (.iload_n 1, 1) := by decide +kernel
theorem dX12_see_5 : decode cX12_see 5 = .ok (.aload_n 0, 1) := by decide +kernel
theorem dX12_see_6 : decode cX12_see 6 = .ok (.getfield 19, 3) := by decide +kernel
theorem dX12_see_9 : decode cX12_see 9 = .ok (.getfield 66, 3) := by decide +kernel
theorem dX12_see_12 : decode cX12_see 12 = .ok (.if_icmp .le 5, 3) := by decide +kernel
theorem dX12_see_15 : decode cX12_see 15 = .ok (.iconst 0, 1) := by decide +kernel
theorem dX12_see_16 : decode cX12_see 16 = .ok (.ireturn, 1) := by decide +kernel
theorem dX12_see_17 : decode cX12_see 17 = .ok (.aload_n 0, 1) := by decide +kernel
theorem dX12_see_18 : decode cX12_see 18 = .ok (.getfield 19, 3) := by decide +kernel
theorem dX12_see_21 : decode cX12_see 21 = .ok (.getfield 376, 3) := by decide +kernel
theorem dX12_see_24 : decode cX12_see 24 = .ok (.iload_n 1, 1) := by decide +kernel
theorem dX12_see_25 : decode cX12_see 25 = .ok (.if_icmp .eq 34, 3) := by decide +kernel
theorem dX12_see_28 : decode cX12_see 28 = .ok (.aload_n 0, 1) := by decide +kernel
theorem dX12_see_29 : decode cX12_see 29 = .ok (.getfield 19, 3) := by decide +kernel
theorem dX12_see_32 : decode cX12_see 32 = .ok (.iload_n 1, 1) := by decide +kernel
theorem dX12_see_33 : decode cX12_see 33 = .ok (.invokevirtual 379, 3) := by decide +kernel
theorem dX12_see_36 : decode cX12_see 36 = .ok (.aload_n 0, 1) := by decide +kernel
theorem dX12_see_37 : decode cX12_see 37 = .ok (.getfield 35, 3) := by decide +kernel
theorem dX12_see_40 : decode cX12_see 40 = .ok (.iconst 0, 1) := by decide +kernel
theorem dX12_see_41 : decode cX12_see 41 = .ok (.putfield 382, 3) := by decide +kernel
theorem dX12_see_44 : decode cX12_see 44 = .ok (.aload_n 0, 1) := by decide +kernel
theorem dX12_see_45 : decode cX12_see 45 = .ok (.getfield 44, 3) := by decide +kernel
theorem dX12_see_48 : decode cX12_see 48 = .ok (.iconst 0, 1) := by decide +kernel
theorem dX12_see_49 : decode cX12_see 49 = .ok (.putfield 386, 3) := by decide +kernel
theorem dX12_see_52 : decode cX12_see 52 = .ok (.aload_n 0, 1) := by decide +kernel
theorem dX12_see_53 : decode cX12_see 53 = .ok (.getfield 62, 3) := by decide +kernel
theorem dX12_see_56 : decode cX12_see 56 = .ok (.invokevirtual 387, 3) := by decide +kernel
theorem dX12_see_59 : decode cX12_see 59 = .ok (.iconst 1, 1) := by decide +kernel
theorem dX12_see_60 : decode cX12_see 60 = .ok (.ireturn, 1) := by decide +kernel
noncomputable def f_X12_see_15   (σ : jM) : Option (Int32 × jM) :=
  some (0, σ)
noncomputable def f_X12_see_59   (σ : jM) : Option (Int32 × jM) :=
  some (1, σ)
noncomputable def f_X12_see (a1 : Int32) (σ : jM) : Option (Int32 × jM) :=
  (if a1 < 0 then f_X12_see_15   σ else (if a1 ≤ (rI σ 3 0) then (if (rI σ 3 10) = a1 then f_X12_see_59   σ else bd (f_X0_look a1 σ) (fun _ σ5 => bd (f_X1_forgetCounts  (wI (wI σ5 264 0 0) 289 0 0)) (fun _ σ8 => f_X12_see_59   σ8))) else f_X12_see_15   σ))
set_option maxRecDepth 20000 in
set_option maxHeartbeats 4000000 in
theorem t_X12_see_15   (σ : jM) (r : Int32 × jM)  (h : f_X12_see_15   σ = some r) : J mi_X12_see 6 0 0 (jqI r) 15 [] [] (ms σ) := by
  unfold f_X12_see_15 at h
  refine J_iconst (v := 0) dX12_see_15 (by decide) ?_
  exact J_ret (v := some (.int 0)) rfl ⟨dX12_see_16, Or.inr (Or.inl ⟨rfl, Or.inl rfl⟩)⟩ (jqI_mk h)
set_option maxRecDepth 20000 in
set_option maxHeartbeats 4000000 in
theorem t_X12_see_59   (σ : jM) (r : Int32 × jM)  (h : f_X12_see_59   σ = some r) : J mi_X12_see 6 0 0 (jqI r) 59 [] [] (ms σ) := by
  unfold f_X12_see_59 at h
  refine J_iconst (v := 1) dX12_see_59 (by decide) ?_
  exact J_ret (v := some (.int 1)) rfl ⟨dX12_see_60, Or.inr (Or.inl ⟨rfl, Or.inr rfl⟩)⟩ (jqI_mk h)
set_option maxRecDepth 20000 in
set_option maxHeartbeats 4000000 in
theorem t_X12_see {a1 : Int32} {σ : jM} {r : Int32 × jM}  (h : f_X12_see a1 σ = some r) : J mi_X12_see 6 0 0 (jqI r) 0 [(0, .ref 0), (1, .int a1)] [] (ms σ) := by
  unfold f_X12_see at h
  refine J_iload_n 1 dX12_see_0 rfl ?_
  refine J_if_lt (tgt := 15) dX12_see_1 (by decide) (fun c1 => ?_) (fun c1 => ?_)
  · have h := (if_pos c1).symm.trans h
    refine J_pick [] rfl ?_
    exact t_X12_see_15   _ _  h
  · have h := (if_neg c1).symm.trans h
    refine J_iload_n 1 dX12_see_4 rfl ?_
    refine J_aload_n 0 dX12_see_5 rfl ?_
    refine M_getR gf_X12_19_11 dX12_see_6 (g_0_0 _) k_0 n_0 ?_
    refine M_getI gf_X12_66_0 dX12_see_9 k_3 n_3 ?_
    refine J_icmp_le (tgt := 17) dX12_see_12 (by decide) (fun c2 => ?_) (fun c2 => ?_)
    · have h := (if_pos c2).symm.trans h
      refine J_aload_n 0 dX12_see_17 rfl ?_
      refine M_getR gf_X12_19_11 dX12_see_18 (g_0_0 _) k_0 n_0 ?_
      refine M_getI gf_X12_376_0 dX12_see_21 k_3 n_3 ?_
      refine J_iload_n 1 dX12_see_24 rfl ?_
      refine J_icmp_eq (tgt := 59) dX12_see_25 (by decide) (fun c3 => ?_) (fun c3 => ?_)
      · have h := (if_pos c3).symm.trans h
        refine J_pick [] rfl ?_
        exact t_X12_see_59   _ _  h
      · have h := (if_neg c3).symm.trans h
        refine J_aload_n 0 dX12_see_28 rfl ?_
        refine M_getR gf_X12_19_11 dX12_see_29 (g_0_0 _) k_0 n_0 ?_
        refine J_iload_n 1 dX12_see_32 rfl ?_
        obtain ⟨_, σ5, h6, h⟩ := bd_inv h
        refine M_callVV (d' := 5) (k := 3) (As := [.int a1]) (st := []) cv_X12_379 dX12_see_33 rfl (by decide) rfl (Nat.le_of_ble_eq_true rfl) (Nat.le_of_ble_eq_true rfl) (by decide) n_3 k_3 rfl rfl (t_X0_look  h6) ?_
        refine J_aload_n 0 dX12_see_36 rfl ?_
        refine M_getR gf_X12_35_11 dX12_see_37 (g_0_2 _) k_0 n_0 ?_
        refine J_iconst (v := 0) dX12_see_40 (by decide) ?_
        refine M_putI pf_X12_382_3 dX12_see_41 k_264 n_264 (jbool (Or.inl rfl)) ?_
        refine J_aload_n 0 dX12_see_44 rfl ?_
        refine M_getR gf_X12_44_11 dX12_see_45 (g_0_3 _) k_0 n_0 ?_
        refine J_iconst (v := 0) dX12_see_48 (by decide) ?_
        refine M_putI pf_X12_386_2 dX12_see_49 k_289 n_289 (jbool (Or.inl rfl)) ?_
        refine J_aload_n 0 dX12_see_52 rfl ?_
        refine M_getR gf_X12_62_11 dX12_see_53 (g_0_5 _) k_0 n_0 ?_
        obtain ⟨_, σ8, h9, h⟩ := bd_inv h
        refine M_callVV (d' := 1) (k := 322) (As := []) (st := []) cv_X12_387 dX12_see_56 rfl (by decide) rfl (Nat.le_of_ble_eq_true rfl) (Nat.le_of_ble_eq_true rfl) (by decide) n_322 k_322 rfl rfl (t_X1_forgetCounts  h9) ?_
        refine J_pick [] rfl ?_
        exact t_X12_see_59   _ _  h
    · have h := (if_neg c2).symm.trans h
      refine J_pick [] rfl ?_
      exact t_X12_see_15   _ _  h
theorem dX4_make_0 : decode cX4_make 0 = .ok (.aload_n 0, 1) := by decide +kernel
theorem dX4_make_1 : decode cX4_make 1 = .ok (.getfield 39, 3) := by decide +kernel
theorem dX4_make_4 : decode cX4_make 4 = .ok (.ifCond .eq 4, 3) := by decide +kernel
theorem dX4_make_7 : decode cX4_make 7 = .ok (.return_, 1) := by decide +kernel
theorem dX4_make_8 : decode cX4_make 8 = .ok (.aload_n 0, 1) := by decide +kernel
theorem dX4_make_9 : decode cX4_make 9 = .ok (.iconst 1, 1) := by decide +kernel
theorem dX4_make_10 : decode cX4_make 10 = .ok (.putfield 39, 3) := by decide +kernel
theorem dX4_make_13 : decode cX4_make 13 = .ok (.iconst 0, 1) := by decide +kernel
theorem dX4_make_14 : decode cX4_make 14 = .ok (.istore_n 1, 1) := by decide +kernel
theorem dX4_make_15 : decode cX4_make 15 = .ok (.iload_n 1, 1) := by decide +kernel
theorem dX4_make_16 : decode cX4_make 16 = .ok (.iconst 2, 1) := by decide +kernel
theorem dX4_make_17 : decode cX4_make 17 = .ok (.if_icmp .ge 29, 3) := by decide +kernel
theorem dX4_make_20 : decode cX4_make 20 = .ok (.aload_n 0, 1) := by decide +kernel
theorem dX4_make_21 : decode cX4_make 21 = .ok (.getfield 18, 3) := by decide +kernel
theorem dX4_make_24 : decode cX4_make 24 = .ok (.iload_n 1, 1) := by decide +kernel
theorem dX4_make_25 : decode cX4_make 25 = .ok (.aaload, 1) := by decide +kernel
theorem dX4_make_26 : decode cX4_make 26 = .ok (.lconst 0, 1) := by decide +kernel
theorem dX4_make_27 : decode cX4_make 27 = .ok (.invokestatic 43, 3) := by decide +kernel
theorem dX4_make_30 : decode cX4_make 30 = .ok (.aload_n 0, 1) := by decide +kernel
theorem dX4_make_31 : decode cX4_make 31 = .ok (.getfield 21, 3) := by decide +kernel
theorem dX4_make_34 : decode cX4_make 34 = .ok (.iload_n 1, 1) := by decide +kernel
theorem dX4_make_35 : decode cX4_make 35 = .ok (.aaload, 1) := by decide +kernel
theorem dX4_make_36 : decode cX4_make 36 = .ok (.lconst 0, 1) := by decide +kernel
theorem dX4_make_37 : decode cX4_make 37 = .ok (.invokestatic 43, 3) := by decide +kernel
theorem dX4_make_40 : decode cX4_make 40 = .ok (.iinc 1 1, 3) := by decide +kernel
theorem dX4_make_43 : decode cX4_make 43 = .ok (.goto (-28), 3) := by decide +kernel
theorem dX4_make_46 : decode cX4_make 46 = .ok (.aload_n 0, 1) := by decide +kernel
theorem dX4_make_47 : decode cX4_make 47 = .ok (.invokevirtual 49, 3) := by decide +kernel
theorem dX4_make_50 : decode cX4_make 50 = .ok (.aload_n 0, 1) := by decide +kernel
theorem dX4_make_51 : decode cX4_make 51 = .ok (.invokevirtual 52, 3) := by decide +kernel
theorem dX4_make_54 : decode cX4_make 54 = .ok (.aload_n 0, 1) := by decide +kernel
theorem dX4_make_55 : decode cX4_make 55 = .ok (.invokevirtual 55, 3) := by decide +kernel
theorem dX4_make_58 : decode cX4_make 58 = .ok (.iconst 0, 1) := by decide +kernel
theorem dX4_make_59 : decode cX4_make 59 = .ok (.istore_n 1, 1) := by decide +kernel
theorem dX4_make_60 : decode cX4_make 60 = .ok (.iload_n 1, 1) := by decide +kernel
theorem dX4_make_61 : decode cX4_make 61 = .ok (.iconst 2, 1) := by decide +kernel
theorem dX4_make_62 : decode cX4_make 62 = .ok (.if_icmp .ge 41, 3) := by decide +kernel
theorem dX4_make_65 : decode cX4_make 65 = .ok (.iconst 0, 1) := by decide +kernel
theorem dX4_make_66 : decode cX4_make 66 = .ok (.istore_n 2, 1) := by decide +kernel
theorem dX4_make_67 : decode cX4_make 67 = .ok (.iload_n 2, 1) := by decide +kernel
theorem dX4_make_68 : decode cX4_make 68 = .ok (.bipush 40, 2) := by decide +kernel
theorem dX4_make_70 : decode cX4_make 70 = .ok (.if_icmp .ge 27, 3) := by decide +kernel
theorem dX4_make_73 : decode cX4_make 73 = .ok (.aload_n 0, 1) := by decide +kernel
theorem dX4_make_74 : decode cX4_make 74 = .ok (.getfield 24, 3) := by decide +kernel
theorem dX4_make_77 : decode cX4_make 77 = .ok (.iload_n 1, 1) := by decide +kernel
theorem dX4_make_78 : decode cX4_make 78 = .ok (.aaload, 1) := by decide +kernel
theorem dX4_make_79 : decode cX4_make 79 = .ok (.iload_n 2, 1) := by decide +kernel
theorem dX4_make_80 : decode cX4_make 80 = .ok (.aload_n 0, 1) := by decide +kernel
theorem dX4_make_81 : decode cX4_make 81 = .ok (.getfield 18, 3) := by decide +kernel
theorem dX4_make_84 : decode cX4_make 84 = .ok (.iload_n 1, 1) := by decide +kernel
theorem dX4_make_85 : decode cX4_make 85 = .ok (.aaload, 1) := by decide +kernel
theorem dX4_make_86 : decode cX4_make 86 = .ok (.iload_n 2, 1) := by decide +kernel
theorem dX4_make_87 : decode cX4_make 87 = .ok (.invokestatic 58, 3) := by decide +kernel
theorem dX4_make_90 : decode cX4_make 90 = .ok (.lastore, 1) := by decide +kernel
theorem dX4_make_91 : decode cX4_make 91 = .ok (.iinc 2 1, 3) := by decide +kernel
theorem dX4_make_94 : decode cX4_make 94 = .ok (.goto (-27), 3) := by decide +kernel
theorem dX4_make_97 : decode cX4_make 97 = .ok (.iinc 1 1, 3) := by decide +kernel
theorem dX4_make_100 : decode cX4_make 100 = .ok (.goto (-40), 3) := by decide +kernel
theorem dX4_make_103 : decode cX4_make 103 = .ok (.return_, 1) := by decide +kernel
noncomputable def s_X4_make_67 (rec60 : Int32 → jM → Option (Unit × jM)) (rec67 : Int32 → Int32 → jM → Option (Unit × jM)) (l1 : Int32) (l2 : Int32) (σ : jM) : Option (Unit × jM) :=
  (if 40 ≤ l2 then rec60 (l1 + 1) σ else gd (inb l1 2) (gd (inb l1 2) (bd (f_X12_reachOf (279 + (Int32.toNatClampNeg l1)) l2 σ) (fun r9 σ10 => gd (inb l2 40) (rec67 l1 (l2 + 1) (wL σ10 (285 + (Int32.toNatClampNeg l1)) (Int32.toNatClampNeg l2) r9))))))
noncomputable def f_X4_make_67 (rec60 : Int32 → jM → Option (Unit × jM)) (n : Nat) : Int32 → Int32 → jM → Option (Unit × jM) := Nat.rec (motive := fun _ => Int32 → Int32 → jM → Option (Unit × jM)) (fun _ _ _ => none) (fun _ q => s_X4_make_67 rec60 q) n
noncomputable def s_X4_make_60  (rec60 : Int32 → jM → Option (Unit × jM)) (l1 : Int32) (σ : jM) : Option (Unit × jM) :=
  (if 2 ≤ l1 then some ((), σ) else f_X4_make_67 rec60 Fu l1 0 σ)
noncomputable def f_X4_make_60  (n : Nat) : Int32 → jM → Option (Unit × jM) := Nat.rec (motive := fun _ => Int32 → jM → Option (Unit × jM)) (fun _ _ => none) (fun _ q => s_X4_make_60  q) n
noncomputable def s_X4_make_15  (rec15 : Int32 → jM → Option (Unit × jM)) (l1 : Int32) (σ : jM) : Option (Unit × jM) :=
  (if 2 ≤ l1 then bd (f_X4_gatherRows  σ) (fun _ σ24 => bd (f_X4_linkByClauses  σ24) (fun _ σ27 => bd (f_X4_linkByShares  σ27) (fun _ σ30 => f_X4_make_60  Fu 0 σ30))) else gd (inb l1 2) (bd (f_J7_fill_d0a16 (279 + (Int32.toNatClampNeg l1)) 0 σ) (fun _ σ34 => gd (inb l1 2) (bd (f_J7_fill_d0a16 (282 + (Int32.toNatClampNeg l1)) 0 σ34) (fun _ σ38 => rec15 (l1 + 1) σ38)))))
noncomputable def f_X4_make_15  (n : Nat) : Int32 → jM → Option (Unit × jM) := Nat.rec (motive := fun _ => Int32 → jM → Option (Unit × jM)) (fun _ _ => none) (fun _ q => s_X4_make_15  q) n
noncomputable def f_X4_make  (σ : jM) : Option (Unit × jM) :=
  (if (rI σ 264 0) = 0 then f_X4_make_15  Fu 0 (wI σ 264 0 1) else some ((), σ))
set_option maxRecDepth 20000 in
set_option maxHeartbeats 4000000 in
theorem t_X4_make_67 {rec60 : Int32 → jM → Option (Unit × jM)} (hrec60 : ∀ (l1 : Int32) (σ : jM) (r : Unit × jM), rec60 l1 σ = some r → J mi_X4_make 5 0 0 (jqV r) 60 [(0, .ref 264), (1, .int l1)] [] (ms σ)) : ∀ (n : Nat) (l1 : Int32) (l2 : Int32) (σ : jM) (r : Unit × jM), f_X4_make_67 rec60 n l1 l2 σ = some r → J mi_X4_make 5 0 0 (jqV r) 67 [(0, .ref 264), (1, .int l1), (2, .int l2)] [] (ms σ) := by
  intro n
  induction n with
  | zero =>
    intro l1 l2 σ r  h
    have h : (none : Option (Unit × jM)) = some r := h
    cases h
  | succ n ih =>
    intro l1 l2 σ r  h
    have h : s_X4_make_67 rec60 (f_X4_make_67 rec60 n) l1 l2 σ = some r := h
    unfold s_X4_make_67 at h
    refine J_iload_n 2 dX4_make_67 rfl ?_
    refine J_bipush (v := 40) dX4_make_68 (by decide) ?_
    refine J_icmp_ge (tgt := 97) dX4_make_70 (by decide) (fun c13 => ?_) (fun c13 => ?_)
    · have h := (if_pos c13).symm.trans h
      refine J_iinc (v := (l1 + 1)) (ls' := [(1, .int (l1 + 1)), (0, .ref 264), (2, .int l2)]) 1 dX4_make_97 rfl rfl (by decide) rfl ?_
      refine J_goto (tgt := 60) dX4_make_100 (by decide) ?_
      refine J_pick [1, 0] rfl ?_
      exact hrec60 _ _ _  h
    · have h := (if_neg c13).symm.trans h
      refine J_aload_n 0 dX4_make_73 rfl ?_
      refine M_getR gf_X4_24_3 dX4_make_74 (g_264_4 _) k_264 n_264 ?_
      refine J_iload_n 1 dX4_make_77 rfl ?_
      obtain ⟨g14, h⟩ := gd_inv h
      refine M_aald dX4_make_78 a_284 (by decide) n_284 g14 (r_row284 _ g14.2) ?_
      refine J_iload_n 2 dX4_make_79 rfl ?_
      refine J_aload_n 0 dX4_make_80 rfl ?_
      refine M_getR gf_X4_18_3 dX4_make_81 (g_264_2 _) k_264 n_264 ?_
      refine J_iload_n 1 dX4_make_84 rfl ?_
      obtain ⟨g15, h⟩ := gd_inv h
      refine M_aald dX4_make_85 a_278 (by decide) n_278 g15 (r_row278 _ g15.2) ?_
      refine J_iload_n 2 dX4_make_86 rfl ?_
      obtain ⟨r16, σ17, h18, h⟩ := bd_inv h
      refine M_callNL (d' := 3) (As := [.ref (279 + (Int32.toNatClampNeg l1)), .int l2]) (st := [.int l2, .ref (285 + (Int32.toNatClampNeg l1))]) cn_X4_58 dX4_make_87 rfl (Nat.le_of_ble_eq_true rfl) (Nat.le_of_ble_eq_true rfl) (by decide) rfl rfl (t_X12_reachOf ⟨congrArg Prod.fst (a_row278 g15.2), (na_row278 g15.2)⟩ h18) ?_
      obtain ⟨g19, h⟩ := gd_inv h
      refine M_last dX4_make_90 (a_row284 g14.2) (na_row284 g14.2) g19 ?_
      refine J_iinc (v := (l2 + 1)) (ls' := [(2, .int (l2 + 1)), (0, .ref 264), (1, .int l1)]) 2 dX4_make_91 rfl rfl (by decide) rfl ?_
      refine J_goto (tgt := 67) dX4_make_94 (by decide) ?_
      refine J_pick [1, 2, 0] rfl ?_
      exact ih _ _ _ _  h
set_option maxRecDepth 20000 in
set_option maxHeartbeats 4000000 in
theorem t_X4_make_60  : ∀ (n : Nat) (l1 : Int32) (σ : jM) (r : Unit × jM), f_X4_make_60  n l1 σ = some r → J mi_X4_make 5 0 0 (jqV r) 60 [(0, .ref 264), (1, .int l1)] [] (ms σ) := by
  intro n
  induction n with
  | zero =>
    intro l1 σ r  h
    have h : (none : Option (Unit × jM)) = some r := h
    cases h
  | succ n ih =>
    intro l1 σ r  h
    have h : s_X4_make_60  (f_X4_make_60  n) l1 σ = some r := h
    unfold s_X4_make_60 at h
    refine J_iload_n 1 dX4_make_60 rfl ?_
    refine J_iconst (v := 2) dX4_make_61 (by decide) ?_
    refine J_icmp_ge (tgt := 103) dX4_make_62 (by decide) (fun c21 => ?_) (fun c21 => ?_)
    · have h := (if_pos c21).symm.trans h
      exact J_ret (v := none) rfl ⟨dX4_make_103, rfl⟩ (jqV_mk h)
    · have h := (if_neg c21).symm.trans h
      refine J_iconst (v := 0) dX4_make_65 (by decide) ?_
      refine J_istore_n (i := 2) (ls' := [(2, .int 0), (0, .ref 264), (1, .int l1)]) dX4_make_66 rfl (by decide) rfl ?_
      refine J_pick [1, 2, 0] rfl ?_
      exact t_X4_make_67 ih _ _ _ _ _  h
set_option maxRecDepth 20000 in
set_option maxHeartbeats 4000000 in
theorem t_X4_make_15  : ∀ (n : Nat) (l1 : Int32) (σ : jM) (r : Unit × jM), f_X4_make_15  n l1 σ = some r → J mi_X4_make 5 0 0 (jqV r) 15 [(0, .ref 264), (1, .int l1)] [] (ms σ) := by
  intro n
  induction n with
  | zero =>
    intro l1 σ r  h
    have h : (none : Option (Unit × jM)) = some r := h
    cases h
  | succ n ih =>
    intro l1 σ r  h
    have h : s_X4_make_15  (f_X4_make_15  n) l1 σ = some r := h
    unfold s_X4_make_15 at h
    refine J_iload_n 1 dX4_make_15 rfl ?_
    refine J_iconst (v := 2) dX4_make_16 (by decide) ?_
    refine J_icmp_ge (tgt := 46) dX4_make_17 (by decide) (fun c40 => ?_) (fun c40 => ?_)
    · have h := (if_pos c40).symm.trans h
      refine J_aload_n 0 dX4_make_46 rfl ?_
      obtain ⟨_, σ42, h43, h⟩ := bd_inv h
      refine M_callVV (d' := 4) (k := 264) (As := []) (st := []) cv_X4_49 dX4_make_47 rfl (by decide) rfl (Nat.le_of_ble_eq_true rfl) (Nat.le_of_ble_eq_true rfl) (by decide) n_264 k_264 rfl rfl (t_X4_gatherRows  h43) ?_
      refine J_aload_n 0 dX4_make_50 rfl ?_
      obtain ⟨_, σ45, h46, h⟩ := bd_inv h
      refine M_callVV (d' := 4) (k := 264) (As := []) (st := []) cv_X4_52 dX4_make_51 rfl (by decide) rfl (Nat.le_of_ble_eq_true rfl) (Nat.le_of_ble_eq_true rfl) (by decide) n_264 k_264 rfl rfl (t_X4_linkByClauses  h46) ?_
      refine J_aload_n 0 dX4_make_54 rfl ?_
      obtain ⟨_, σ48, h49, h⟩ := bd_inv h
      refine M_callVV (d' := 2) (k := 264) (As := []) (st := []) cv_X4_55 dX4_make_55 rfl (by decide) rfl (Nat.le_of_ble_eq_true rfl) (Nat.le_of_ble_eq_true rfl) (by decide) n_264 k_264 rfl rfl (t_X4_linkByShares  h49) ?_
      refine J_iconst (v := 0) dX4_make_58 (by decide) ?_
      refine J_istore_n (i := 1) (ls' := [(1, .int 0), (0, .ref 264)]) dX4_make_59 rfl (by decide) rfl ?_
      refine J_pick [1, 0] rfl ?_
      exact t_X4_make_60  _ _ _ _  h
    · have h := (if_neg c40).symm.trans h
      refine J_aload_n 0 dX4_make_20 rfl ?_
      refine M_getR gf_X4_18_3 dX4_make_21 (g_264_2 _) k_264 n_264 ?_
      refine J_iload_n 1 dX4_make_24 rfl ?_
      obtain ⟨g50, h⟩ := gd_inv h
      refine M_aald dX4_make_25 a_278 (by decide) n_278 g50 (r_row278 _ g50.2) ?_
      refine J_lconst (v := 0) dX4_make_26 (by decide) ?_
      obtain ⟨_, σ52, h53, h⟩ := bd_inv h
      refine M_callSV (d' := 1) (As := [.ref (279 + (Int32.toNatClampNeg l1)), .long 0]) (st := []) cs_X4_43 dX4_make_27 rfl (Nat.le_of_ble_eq_true rfl) (Nat.le_of_ble_eq_true rfl) (by decide) rfl rfl (t_J7_fill_d0a16 ⟨congrArg Prod.fst (a_row278 g50.2), (na_row278 g50.2)⟩ h53) ?_
      refine J_aload_n 0 dX4_make_30 rfl ?_
      refine M_getR gf_X4_21_3 dX4_make_31 (g_264_3 _) k_264 n_264 ?_
      refine J_iload_n 1 dX4_make_34 rfl ?_
      obtain ⟨g54, h⟩ := gd_inv h
      refine M_aald dX4_make_35 a_281 (by decide) n_281 g54 (r_row281 _ g54.2) ?_
      refine J_lconst (v := 0) dX4_make_36 (by decide) ?_
      obtain ⟨_, σ56, h57, h⟩ := bd_inv h
      refine M_callSV (d' := 1) (As := [.ref (282 + (Int32.toNatClampNeg l1)), .long 0]) (st := []) cs_X4_43 dX4_make_37 rfl (Nat.le_of_ble_eq_true rfl) (Nat.le_of_ble_eq_true rfl) (by decide) rfl rfl (t_J7_fill_d0a16 ⟨congrArg Prod.fst (a_row281 g54.2), (na_row281 g54.2)⟩ h57) ?_
      refine J_iinc (v := (l1 + 1)) (ls' := [(1, .int (l1 + 1)), (0, .ref 264)]) 1 dX4_make_40 rfl rfl (by decide) rfl ?_
      refine J_goto (tgt := 15) dX4_make_43 (by decide) ?_
      refine J_pick [1, 0] rfl ?_
      exact ih _ _ _  h
set_option maxRecDepth 20000 in
set_option maxHeartbeats 4000000 in
theorem t_X4_make  {σ : jM} {r : Unit × jM}  (h : f_X4_make  σ = some r) : J mi_X4_make 5 0 0 (jqV r) 0 [(0, .ref 264)] [] (ms σ) := by
  unfold f_X4_make at h
  refine J_aload_n 0 dX4_make_0 rfl ?_
  refine M_getI gf_X4_39_3 dX4_make_1 k_264 n_264 ?_
  refine J_if_eq (tgt := 8) dX4_make_4 (by decide) (fun c58 => ?_) (fun c58 => ?_)
  · have h := (if_pos c58).symm.trans h
    refine J_aload_n 0 dX4_make_8 rfl ?_
    refine J_iconst (v := 1) dX4_make_9 (by decide) ?_
    refine M_putI pf_X4_39_3 dX4_make_10 k_264 n_264 (jbool (Or.inr rfl)) ?_
    refine J_iconst (v := 0) dX4_make_13 (by decide) ?_
    refine J_istore_n (i := 1) (ls' := [(1, .int 0), (0, .ref 264)]) dX4_make_14 rfl (by decide) rfl ?_
    refine J_pick [1, 0] rfl ?_
    exact t_X4_make_15  _ _ _ _  h
  · have h := (if_neg c58).symm.trans h
    exact J_ret (v := none) rfl ⟨dX4_make_7, rfl⟩ (jqV_mk h)
theorem dX8_layAll_0 : decode cX8_layAll 0 = .ok (.aload_n 0, 1) := by decide +kernel
theorem dX8_layAll_1 : decode cX8_layAll 1 = .ok (.iload_n 1, 1) := by decide +kernel
theorem dX8_layAll_2 : decode cX8_layAll 2 = .ok (.putfield 158, 3) := by decide +kernel
theorem dX8_layAll_5 : decode cX8_layAll 5 = .ok (.aload_n 0, 1) := by decide +kernel
theorem dX8_layAll_6 : decode cX8_layAll 6 = .ok (.invokevirtual 161, 3) := by decide +kernel
theorem dX8_layAll_9 : decode cX8_layAll 9 = .ok (.ifCond .eq 15, 3) := by decide +kernel
theorem dX8_layAll_12 : decode cX8_layAll 12 = .ok (.aload_n 0, 1) := by decide +kernel
theorem dX8_layAll_13 : decode cX8_layAll 13 = .ok (.iconst 0, 1) := by decide +kernel
theorem dX8_layAll_14 : decode cX8_layAll 14 = .ok (.invokevirtual 165, 3) := by decide +kernel
theorem dX8_layAll_17 : decode cX8_layAll 17 = .ok (.ifCond .eq 7, 3) := by decide +kernel
theorem dX8_layAll_20 : decode cX8_layAll 20 = .ok (.iconst 1, 1) := by decide +kernel
theorem dX8_layAll_21 : decode cX8_layAll 21 = .ok (.goto 4, 3) := by decide +kernel
theorem dX8_layAll_24 : decode cX8_layAll 24 = .ok (.iconst 0, 1) := by decide +kernel
theorem dX8_layAll_25 : decode cX8_layAll 25 = .ok (.ireturn, 1) := by decide +kernel
noncomputable def f_X8_layAll_25  (s0 : Int32) (σ : jM) : Option (Int32 × jM) :=
  gd (s0 = 0 ∨ s0 = 1) (some (s0, σ))
noncomputable def f_X8_layAll_24   (σ : jM) : Option (Int32 × jM) :=
  f_X8_layAll_25  0 σ
noncomputable def f_X8_layAll (a1 : Int32) (σ : jM) : Option (Int32 × jM) :=
  bd (f_X8_everySeatHasRows  (wI σ 296 17 a1)) (fun r3 σ4 => (if r3 = 0 then f_X8_layAll_24   σ4 else bd (f_X8_descend 0 σ4) (fun r7 σ8 => (if r7 = 0 then f_X8_layAll_24   σ8 else f_X8_layAll_25  1 σ8))))
set_option maxRecDepth 20000 in
set_option maxHeartbeats 4000000 in
theorem t_X8_layAll_25  (s0 : Int32) (σ : jM) (r : Int32 × jM)  (h : f_X8_layAll_25  s0 σ = some r) : J mi_X8_layAll 14 0 0 (jqI r) 25 [] [.int s0] (ms σ) := by
  unfold f_X8_layAll_25 at h
  obtain ⟨g2, h⟩ := gd_inv h
  exact J_ret (v := some (.int s0)) rfl ⟨dX8_layAll_25, Or.inr (Or.inl ⟨rfl, g2⟩)⟩ (jqI_mk h)
set_option maxRecDepth 20000 in
set_option maxHeartbeats 4000000 in
theorem t_X8_layAll_24   (σ : jM) (r : Int32 × jM)  (h : f_X8_layAll_24   σ = some r) : J mi_X8_layAll 14 0 0 (jqI r) 24 [] [] (ms σ) := by
  unfold f_X8_layAll_24 at h
  refine J_iconst (v := 0) dX8_layAll_24 (by decide) ?_
  exact t_X8_layAll_25  _ _ _  h
set_option maxRecDepth 20000 in
set_option maxHeartbeats 4000000 in
theorem t_X8_layAll {a1 : Int32} {σ : jM} {r : Int32 × jM}  (h : f_X8_layAll a1 σ = some r) : J mi_X8_layAll 14 0 0 (jqI r) 0 [(0, .ref 296), (1, .int a1)] [] (ms σ) := by
  unfold f_X8_layAll at h
  refine J_aload_n 0 dX8_layAll_0 rfl ?_
  refine J_iload_n 1 dX8_layAll_1 rfl ?_
  refine M_putI pf_X8_158_7 dX8_layAll_2 k_296 n_296 ⟨rfl, rfl⟩ ?_
  refine J_aload_n 0 dX8_layAll_5 rfl ?_
  obtain ⟨r3, σ4, h5, h⟩ := bd_inv h
  refine M_callVI (d' := 1) (k := 296) (As := []) (st := []) cv_X8_161 dX8_layAll_6 rfl (by decide) rfl (Nat.le_of_ble_eq_true rfl) (Nat.le_of_ble_eq_true rfl) (by decide) n_296 k_296 rfl rfl (t_X8_everySeatHasRows  h5) ?_
  refine J_if_eq (tgt := 24) dX8_layAll_9 (by decide) (fun c6 => ?_) (fun c6 => ?_)
  · have h := (if_pos c6).symm.trans h
    refine J_pick [] rfl ?_
    exact t_X8_layAll_24   _ _  h
  · have h := (if_neg c6).symm.trans h
    refine J_aload_n 0 dX8_layAll_12 rfl ?_
    refine J_iconst (v := 0) dX8_layAll_13 (by decide) ?_
    obtain ⟨r7, σ8, h9, h⟩ := bd_inv h
    refine M_callVI (d' := 13) (k := 296) (As := [.int 0]) (st := []) cv_X8_165 dX8_layAll_14 rfl (by decide) rfl (Nat.le_of_ble_eq_true rfl) (Nat.le_of_ble_eq_true rfl) (by decide) n_296 k_296 rfl rfl (t_X8_descend  h9) ?_
    refine J_if_eq (tgt := 24) dX8_layAll_17 (by decide) (fun c10 => ?_) (fun c10 => ?_)
    · have h := (if_pos c10).symm.trans h
      refine J_pick [] rfl ?_
      exact t_X8_layAll_24   _ _  h
    · have h := (if_neg c10).symm.trans h
      refine J_iconst (v := 1) dX8_layAll_20 (by decide) ?_
      refine J_goto (tgt := 25) dX8_layAll_21 (by decide) ?_
      refine J_pick [] rfl ?_
      exact t_X8_layAll_25  _ _ _  h
theorem dX11_readTablet_0 : decode cX11_readTablet 0 = .ok (.aload_n 0, 1) := by decide +kernel
theorem dX11_readTablet_1 : decode cX11_readTablet 1 = .ok (.invokevirtual 26, 3) := by decide +kernel
theorem dX11_readTablet_4 : decode cX11_readTablet 4 = .ok (.iconst 0, 1) := by decide +kernel
theorem dX11_readTablet_5 : decode cX11_readTablet 5 = .ok (.istore_n 2, 1) := by decide +kernel
theorem dX11_readTablet_6 : decode cX11_readTablet 6 = .ok (.iload_n 2, 1) := by decide +kernel
theorem dX11_readTablet_7 : decode cX11_readTablet 7 = .ok (.bipush 8, 2) := by decide +kernel
theorem dX11_readTablet_9 : decode cX11_readTablet 9 = .ok (.if_icmp .gt 63, 3) := by decide +kernel
theorem dX11_readTablet_12 : decode cX11_readTablet 12 = .ok (.iload_n 2, 1) := by decide +kernel
theorem dX11_readTablet_13 : decode cX11_readTablet 13 = .ok (.ifCond .le 17, 3) := by decide +kernel
theorem dX11_readTablet_16 : decode cX11_readTablet 16 = .ok (.aload_n 0, 1) := by decide +kernel
theorem dX11_readTablet_17 : decode cX11_readTablet 17 = .ok (.getfield 29, 3) := by decide +kernel
theorem dX11_readTablet_20 : decode cX11_readTablet 20 = .ok (.ifCond .ne 10, 3) := by decide +kernel
theorem dX11_readTablet_23 : decode cX11_readTablet 23 = .ok (.aload_n 1, 1) := by decide +kernel
theorem dX11_readTablet_24 : decode cX11_readTablet 24 = .ok (.iload_n 2, 1) := by decide +kernel
theorem dX11_readTablet_25 : decode cX11_readTablet 25 = .ok (.putfield 32, 3) := by decide +kernel
theorem dX11_readTablet_28 : decode cX11_readTablet 28 = .ok (.iconst 1, 1) := by decide +kernel
theorem dX11_readTablet_29 : decode cX11_readTablet 29 = .ok (.ireturn, 1) := by decide +kernel
theorem dX11_readTablet_30 : decode cX11_readTablet 30 = .ok (.aload_n 0, 1) := by decide +kernel
theorem dX11_readTablet_31 : decode cX11_readTablet 31 = .ok (.invokevirtual 37, 3) := by decide +kernel
theorem dX11_readTablet_34 : decode cX11_readTablet 34 = .ok (.ifCond .ne 9, 3) := by decide +kernel
theorem dX11_readTablet_37 : decode cX11_readTablet 37 = .ok (.aload_n 0, 1) := by decide +kernel
theorem dX11_readTablet_38 : decode cX11_readTablet 38 = .ok (.iconst 1, 1) := by decide +kernel
theorem dX11_readTablet_39 : decode cX11_readTablet 39 = .ok (.invokevirtual 41, 3) := by decide +kernel
theorem dX11_readTablet_42 : decode cX11_readTablet 42 = .ok (.ireturn, 1) := by decide +kernel
theorem dX11_readTablet_43 : decode cX11_readTablet 43 = .ok (.iload_n 2, 1) := by decide +kernel
theorem dX11_readTablet_44 : decode cX11_readTablet 44 = .ok (.bipush 8, 2) := by decide +kernel
theorem dX11_readTablet_46 : decode cX11_readTablet 46 = .ok (.if_icmp .ne 9, 3) := by decide +kernel
theorem dX11_readTablet_49 : decode cX11_readTablet 49 = .ok (.aload_n 0, 1) := by decide +kernel
theorem dX11_readTablet_50 : decode cX11_readTablet 50 = .ok (.iconst 3, 1) := by decide +kernel
theorem dX11_readTablet_51 : decode cX11_readTablet 51 = .ok (.invokevirtual 41, 3) := by decide +kernel
theorem dX11_readTablet_54 : decode cX11_readTablet 54 = .ok (.ireturn, 1) := by decide +kernel
theorem dX11_readTablet_55 : decode cX11_readTablet 55 = .ok (.aload_n 0, 1) := by decide +kernel
theorem dX11_readTablet_56 : decode cX11_readTablet 56 = .ok (.aload_n 1, 1) := by decide +kernel
theorem dX11_readTablet_57 : decode cX11_readTablet 57 = .ok (.iload_n 2, 1) := by decide +kernel
theorem dX11_readTablet_58 : decode cX11_readTablet 58 = .ok (.invokevirtual 44, 3) := by decide +kernel
theorem dX11_readTablet_61 : decode cX11_readTablet 61 = .ok (.ifCond .ne 5, 3) := by decide +kernel
theorem dX11_readTablet_64 : decode cX11_readTablet 64 = .ok (.iconst 0, 1) := by decide +kernel
theorem dX11_readTablet_65 : decode cX11_readTablet 65 = .ok (.ireturn, 1) := by decide +kernel
theorem dX11_readTablet_66 : decode cX11_readTablet 66 = .ok (.iinc 2 1, 3) := by decide +kernel
theorem dX11_readTablet_69 : decode cX11_readTablet 69 = .ok (.goto (-63), 3) := by decide +kernel
theorem dX11_readTablet_72 : decode cX11_readTablet 72 = .ok (.iconst 0, 1) := by decide +kernel
theorem dX11_readTablet_73 : decode cX11_readTablet 73 = .ok (.ireturn, 1) := by decide +kernel
noncomputable def f_X11_readTablet_30 (rec6 : Nat → Int32 → jM → Option (Int32 × jM)) (l1 : Nat) (l2 : Int32) (σ : jM) : Option (Int32 × jM) :=
  bd (f_X11_beginsPlace  σ) (fun r1 σ2 => (if r1 = 0 then bd (f_X11_fault 1 σ2) (fun r14 σ15 => gd (r14 = 0 ∨ r14 = 1) (some (r14, σ15))) else (if l2 = 8 then bd (f_X11_fault 3 σ2) (fun r10 σ11 => gd (r10 = 0 ∨ r10 = 1) (some (r10, σ11))) else bd (f_X11_readRow l1 l2 σ2) (fun r6 σ7 => (if r6 = 0 then some (0, σ7) else rec6 l1 (l2 + 1) σ7)))))
noncomputable def s_X11_readTablet_6  (rec6 : Nat → Int32 → jM → Option (Int32 × jM)) (l1 : Nat) (l2 : Int32) (σ : jM) : Option (Int32 × jM) :=
  (if 8 < l2 then some (0, σ) else (if l2 ≤ 0 then f_X11_readTablet_30 rec6 l1 l2 σ else (if (rI σ 262 4) = 0 then some (1, wI σ (tabX l1) 2 l2) else f_X11_readTablet_30 rec6 l1 l2 σ)))
noncomputable def f_X11_readTablet_6  (n : Nat) : Nat → Int32 → jM → Option (Int32 × jM) := Nat.rec (motive := fun _ => Nat → Int32 → jM → Option (Int32 × jM)) (fun _ _ _ => none) (fun _ q => s_X11_readTablet_6  q) n
noncomputable def f_X11_readTablet (a1 : Nat) (σ : jM) : Option (Int32 × jM) :=
  bd (f_X11_begin  σ) (fun _ σ42 => f_X11_readTablet_6  Fu a1 0 σ42)
set_option maxRecDepth 20000 in
set_option maxHeartbeats 4000000 in
theorem t_X11_readTablet_30 {rec6 : Nat → Int32 → jM → Option (Int32 × jM)} (hrec6 : ∀ (l1 : Nat) (l2 : Int32) (σ : jM) (r : Int32 × jM), l1 < 24 → rec6 l1 l2 σ = some r → J mi_X11_readTablet 5 0 0 (jqI r) 6 [(0, .ref 262), (1, .ref (tabX l1)), (2, .int l2)] [] (ms σ)) (l1 : Nat) (l2 : Int32) (σ : jM) (r : Int32 × jM) (hl1 : l1 < 24) (h : f_X11_readTablet_30 rec6 l1 l2 σ = some r) : J mi_X11_readTablet 5 0 0 (jqI r) 30 [(0, .ref 262), (1, .ref (tabX l1)), (2, .int l2)] [] (ms σ) := by
  unfold f_X11_readTablet_30 at h
  refine J_aload_n 0 dX11_readTablet_30 rfl ?_
  obtain ⟨r18, σ19, h20, h⟩ := bd_inv h
  refine M_callVI (d' := 2) (k := 262) (As := []) (st := []) cv_X11_37 dX11_readTablet_31 rfl (by decide) rfl (Nat.le_of_ble_eq_true rfl) (Nat.le_of_ble_eq_true rfl) (by decide) n_262 k_262 rfl rfl (t_X11_beginsPlace  h20) ?_
  refine J_if_ne (tgt := 43) dX11_readTablet_34 (by decide) (fun c21 => ?_) (fun c21 => ?_)
  · have h := (if_neg c21).symm.trans h
    refine J_iload_n 2 dX11_readTablet_43 rfl ?_
    refine J_bipush (v := 8) dX11_readTablet_44 (by decide) ?_
    refine J_icmp_ne (tgt := 55) dX11_readTablet_46 (by decide) (fun c22 => ?_) (fun c22 => ?_)
    · have h := (if_neg c22).symm.trans h
      refine J_aload_n 0 dX11_readTablet_55 rfl ?_
      refine J_aload_n 1 dX11_readTablet_56 rfl ?_
      refine J_iload_n 2 dX11_readTablet_57 rfl ?_
      obtain ⟨r23, σ24, h25, h⟩ := bd_inv h
      refine M_callVI (d' := 4) (k := 262) (As := [.ref (tabX l1), .int l2]) (st := []) cv_X11_44 dX11_readTablet_58 rfl (by decide) rfl (Nat.le_of_ble_eq_true rfl) (Nat.le_of_ble_eq_true rfl) (by decide) n_262 k_262 rfl rfl (t_X11_readRow hl1 h25) ?_
      refine J_if_ne (tgt := 66) dX11_readTablet_61 (by decide) (fun c26 => ?_) (fun c26 => ?_)
      · have h := (if_neg c26).symm.trans h
        refine J_iinc (v := (l2 + 1)) (ls' := [(2, .int (l2 + 1)), (0, .ref 262), (1, .ref (tabX l1))]) 2 dX11_readTablet_66 rfl rfl (by decide) rfl ?_
        refine J_goto (tgt := 6) dX11_readTablet_69 (by decide) ?_
        refine J_pick [1, 2, 0] rfl ?_
        exact hrec6 _ _ _ _ hl1 h
      · have h := (if_pos c26).symm.trans h
        refine J_iconst (v := 0) dX11_readTablet_64 (by decide) ?_
        exact J_ret (v := some (.int 0)) rfl ⟨dX11_readTablet_65, Or.inr (Or.inl ⟨rfl, Or.inl rfl⟩)⟩ (jqI_mk h)
    · have h := (if_pos c22).symm.trans h
      refine J_aload_n 0 dX11_readTablet_49 rfl ?_
      refine J_iconst (v := 3) dX11_readTablet_50 (by decide) ?_
      obtain ⟨r27, σ28, h29, h⟩ := bd_inv h
      refine M_callVI (d' := 1) (k := 262) (As := [.int 3]) (st := []) cv_X11_41 dX11_readTablet_51 rfl (by decide) rfl (Nat.le_of_ble_eq_true rfl) (Nat.le_of_ble_eq_true rfl) (by decide) n_262 k_262 rfl rfl (t_X11_fault  h29) ?_
      obtain ⟨g30, h⟩ := gd_inv h
      exact J_ret (v := some (.int r27)) rfl ⟨dX11_readTablet_54, Or.inr (Or.inl ⟨rfl, g30⟩)⟩ (jqI_mk h)
  · have h := (if_pos c21).symm.trans h
    refine J_aload_n 0 dX11_readTablet_37 rfl ?_
    refine J_iconst (v := 1) dX11_readTablet_38 (by decide) ?_
    obtain ⟨r31, σ32, h33, h⟩ := bd_inv h
    refine M_callVI (d' := 1) (k := 262) (As := [.int 1]) (st := []) cv_X11_41 dX11_readTablet_39 rfl (by decide) rfl (Nat.le_of_ble_eq_true rfl) (Nat.le_of_ble_eq_true rfl) (by decide) n_262 k_262 rfl rfl (t_X11_fault  h33) ?_
    obtain ⟨g34, h⟩ := gd_inv h
    exact J_ret (v := some (.int r31)) rfl ⟨dX11_readTablet_42, Or.inr (Or.inl ⟨rfl, g34⟩)⟩ (jqI_mk h)
set_option maxRecDepth 20000 in
set_option maxHeartbeats 4000000 in
theorem t_X11_readTablet_6  : ∀ (n : Nat) (l1 : Nat) (l2 : Int32) (σ : jM) (r : Int32 × jM), l1 < 24 → f_X11_readTablet_6  n l1 l2 σ = some r → J mi_X11_readTablet 5 0 0 (jqI r) 6 [(0, .ref 262), (1, .ref (tabX l1)), (2, .int l2)] [] (ms σ) := by
  intro n
  induction n with
  | zero =>
    intro l1 l2 σ r hl1 h
    have h : (none : Option (Int32 × jM)) = some r := h
    cases h
  | succ n ih =>
    intro l1 l2 σ r hl1 h
    have h : s_X11_readTablet_6  (f_X11_readTablet_6  n) l1 l2 σ = some r := h
    unfold s_X11_readTablet_6 at h
    refine J_iload_n 2 dX11_readTablet_6 rfl ?_
    refine J_bipush (v := 8) dX11_readTablet_7 (by decide) ?_
    refine J_icmp_gt (tgt := 72) dX11_readTablet_9 (by decide) (fun c38 => ?_) (fun c38 => ?_)
    · have h := (if_pos c38).symm.trans h
      refine J_iconst (v := 0) dX11_readTablet_72 (by decide) ?_
      exact J_ret (v := some (.int 0)) rfl ⟨dX11_readTablet_73, Or.inr (Or.inl ⟨rfl, Or.inl rfl⟩)⟩ (jqI_mk h)
    · have h := (if_neg c38).symm.trans h
      refine J_iload_n 2 dX11_readTablet_12 rfl ?_
      refine J_if_le (tgt := 30) dX11_readTablet_13 (by decide) (fun c39 => ?_) (fun c39 => ?_)
      · have h := (if_pos c39).symm.trans h
        exact t_X11_readTablet_30 ih _ _ _ _ hl1 h
      · have h := (if_neg c39).symm.trans h
        refine J_aload_n 0 dX11_readTablet_16 rfl ?_
        refine M_getI gf_X11_29_10 dX11_readTablet_17 k_262 n_262 ?_
        refine J_if_ne (tgt := 30) dX11_readTablet_20 (by decide) (fun c40 => ?_) (fun c40 => ?_)
        · have h := (if_neg c40).symm.trans h
          exact t_X11_readTablet_30 ih _ _ _ _ hl1 h
        · have h := (if_pos c40).symm.trans h
          refine J_aload_n 1 dX11_readTablet_23 rfl ?_
          refine J_iload_n 2 dX11_readTablet_24 rfl ?_
          refine M_putI pf_X11_32_9 dX11_readTablet_25 (k_tab hl1) (n_tab hl1) ⟨rfl, rfl⟩ ?_
          refine J_iconst (v := 1) dX11_readTablet_28 (by decide) ?_
          exact J_ret (v := some (.int 1)) rfl ⟨dX11_readTablet_29, Or.inr (Or.inl ⟨rfl, Or.inr rfl⟩)⟩ (jqI_mk h)
set_option maxRecDepth 20000 in
set_option maxHeartbeats 4000000 in
theorem t_X11_readTablet {a1 : Nat} {σ : jM} {r : Int32 × jM} (ha1 : a1 < 24) (h : f_X11_readTablet a1 σ = some r) : J mi_X11_readTablet 5 0 0 (jqI r) 0 [(0, .ref 262), (1, .ref (tabX a1))] [] (ms σ) := by
  unfold f_X11_readTablet at h
  refine J_aload_n 0 dX11_readTablet_0 rfl ?_
  obtain ⟨_, σ42, h43, h⟩ := bd_inv h
  refine M_callVV (d' := 4) (k := 262) (As := []) (st := []) cv_X11_26 dX11_readTablet_1 rfl (by decide) rfl (Nat.le_of_ble_eq_true rfl) (Nat.le_of_ble_eq_true rfl) (by decide) n_262 k_262 rfl rfl (t_X11_begin  h43) ?_
  refine J_iconst (v := 0) dX11_readTablet_4 (by decide) ?_
  refine J_istore_n (i := 2) (ls' := [(2, .int 0), (0, .ref 262), (1, .ref (tabX a1))]) dX11_readTablet_5 rfl (by decide) rfl ?_
  refine J_pick [1, 2, 0] rfl ?_
  exact t_X11_readTablet_6  _ _ _ _ _ ha1 h
theorem dX11_readSharing_0 : decode cX11_readSharing 0 = .ok (.aload_n 1, 1) := by decide +kernel
theorem dX11_readSharing_1 : decode cX11_readSharing 1 = .ok (.getfield 103, 3) := by decide +kernel
theorem dX11_readSharing_4 : decode cX11_readSharing 4 = .ok (.iload_n 2, 1) := by decide +kernel
theorem dX11_readSharing_5 : decode cX11_readSharing 5 = .ok (.iconst 3, 1) := by decide +kernel
theorem dX11_readSharing_6 : decode cX11_readSharing 6 = .ok (.iastore, 1) := by decide +kernel
theorem dX11_readSharing_7 : decode cX11_readSharing 7 = .ok (.aload_n 1, 1) := by decide +kernel
theorem dX11_readSharing_8 : decode cX11_readSharing 8 = .ok (.getfield 106, 3) := by decide +kernel
theorem dX11_readSharing_11 : decode cX11_readSharing 11 = .ok (.iload_n 2, 1) := by decide +kernel
theorem dX11_readSharing_12 : decode cX11_readSharing 12 = .ok (.iconst 1, 1) := by decide +kernel
theorem dX11_readSharing_13 : decode cX11_readSharing 13 = .ok (.iastore, 1) := by decide +kernel
theorem dX11_readSharing_14 : decode cX11_readSharing 14 = .ok (.aload_n 0, 1) := by decide +kernel
theorem dX11_readSharing_15 : decode cX11_readSharing 15 = .ok (.aload_n 1, 1) := by decide +kernel
theorem dX11_readSharing_16 : decode cX11_readSharing 16 = .ok (.iload_n 2, 1) := by decide +kernel
theorem dX11_readSharing_17 : decode cX11_readSharing 17 = .ok (.invokevirtual 109, 3) := by decide +kernel
theorem dX11_readSharing_20 : decode cX11_readSharing 20 = .ok (.ifCond .eq 41, 3) := by decide +kernel
theorem dX11_readSharing_23 : decode cX11_readSharing 23 = .ok (.aload_n 0, 1) := by decide +kernel
theorem dX11_readSharing_24 : decode cX11_readSharing 24 = .ok (.ldc 112, 2) := by decide +kernel
theorem dX11_readSharing_26 : decode cX11_readSharing 26 = .ok (.aload_n 1, 1) := by decide +kernel
theorem dX11_readSharing_27 : decode cX11_readSharing 27 = .ok (.getfield 103, 3) := by decide +kernel
theorem dX11_readSharing_30 : decode cX11_readSharing 30 = .ok (.iload_n 2, 1) := by decide +kernel
theorem dX11_readSharing_31 : decode cX11_readSharing 31 = .ok (.iconst 2, 1) := by decide +kernel
theorem dX11_readSharing_32 : decode cX11_readSharing 32 = .ok (.bipush 6, 2) := by decide +kernel
theorem dX11_readSharing_34 : decode cX11_readSharing 34 = .ok (.invokevirtual 114, 3) := by decide +kernel
theorem dX11_readSharing_37 : decode cX11_readSharing 37 = .ok (.ifCond .eq 24, 3) := by decide +kernel
theorem dX11_readSharing_40 : decode cX11_readSharing 40 = .ok (.aload_n 0, 1) := by decide +kernel
theorem dX11_readSharing_41 : decode cX11_readSharing 41 = .ok (.ldc 118, 2) := by decide +kernel
theorem dX11_readSharing_43 : decode cX11_readSharing 43 = .ok (.aload_n 1, 1) := by decide +kernel
theorem dX11_readSharing_44 : decode cX11_readSharing 44 = .ok (.getfield 106, 3) := by decide +kernel
theorem dX11_readSharing_47 : decode cX11_readSharing 47 = .ok (.iload_n 2, 1) := by decide +kernel
theorem dX11_readSharing_48 : decode cX11_readSharing 48 = .ok (.iconst 1, 1) := by decide +kernel
theorem dX11_readSharing_49 : decode cX11_readSharing 49 = .ok (.bipush 99, 2) := by decide +kernel
theorem dX11_readSharing_51 : decode cX11_readSharing 51 = .ok (.invokevirtual 114, 3) := by decide +kernel
theorem dX11_readSharing_54 : decode cX11_readSharing 54 = .ok (.ifCond .eq 7, 3) := by decide +kernel
theorem dX11_readSharing_57 : decode cX11_readSharing 57 = .ok (.iconst 1, 1) := by decide +kernel
theorem dX11_readSharing_58 : decode cX11_readSharing 58 = .ok (.goto 4, 3) := by decide +kernel
theorem dX11_readSharing_61 : decode cX11_readSharing 61 = .ok (.iconst 0, 1) := by decide +kernel
theorem dX11_readSharing_62 : decode cX11_readSharing 62 = .ok (.ireturn, 1) := by decide +kernel
noncomputable def f_X11_readSharing_62  (s0 : Int32) (σ : jM) : Option (Int32 × jM) :=
  gd (s0 = 0 ∨ s0 = 1) (some (s0, σ))
noncomputable def f_X11_readSharing_61   (σ : jM) : Option (Int32 × jM) :=
  f_X11_readSharing_62  0 σ
noncomputable def f_X11_readSharing (a1 : Nat) (a2 : Int32) (σ : jM) : Option (Int32 × jM) :=
  gd (inb a2 12) (gd (inb a2 12) (bd (f_X11_readWhere a1 a2 (wI (wI σ (rulX a1 + 3) (Int32.toNatClampNeg a2) 3) (rulX a1 + 4) (Int32.toNatClampNeg a2) 1)) (fun r7 σ8 => (if r7 = 0 then f_X11_readSharing_61   σ8 else bd (f_X11_readOption 7 (rulX a1 + 3) a2 2 6 σ8) (fun r11 σ12 => (if r11 = 0 then f_X11_readSharing_61   σ12 else bd (f_X11_readOption 8 (rulX a1 + 4) a2 1 99 σ12) (fun r15 σ16 => (if r15 = 0 then f_X11_readSharing_61   σ16 else f_X11_readSharing_62  1 σ16))))))))
set_option maxRecDepth 20000 in
set_option maxHeartbeats 4000000 in
theorem t_X11_readSharing_62  (s0 : Int32) (σ : jM) (r : Int32 × jM)  (h : f_X11_readSharing_62  s0 σ = some r) : J mi_X11_readSharing 8 0 0 (jqI r) 62 [] [.int s0] (ms σ) := by
  unfold f_X11_readSharing_62 at h
  obtain ⟨g4, h⟩ := gd_inv h
  exact J_ret (v := some (.int s0)) rfl ⟨dX11_readSharing_62, Or.inr (Or.inl ⟨rfl, g4⟩)⟩ (jqI_mk h)
set_option maxRecDepth 20000 in
set_option maxHeartbeats 4000000 in
theorem t_X11_readSharing_61   (σ : jM) (r : Int32 × jM)  (h : f_X11_readSharing_61   σ = some r) : J mi_X11_readSharing 8 0 0 (jqI r) 61 [] [] (ms σ) := by
  unfold f_X11_readSharing_61 at h
  refine J_iconst (v := 0) dX11_readSharing_61 (by decide) ?_
  exact t_X11_readSharing_62  _ _ _  h
set_option maxRecDepth 20000 in
set_option maxHeartbeats 4000000 in
theorem t_X11_readSharing {a1 : Nat} {a2 : Int32} {σ : jM} {r : Int32 × jM}  (h : f_X11_readSharing a1 a2 σ = some r) : J mi_X11_readSharing 8 0 0 (jqI r) 0 [(0, .ref 262), (1, .ref (rulX a1)), (2, .int a2)] [] (ms σ) := by
  unfold f_X11_readSharing at h
  refine J_aload_n 1 dX11_readSharing_0 rfl ?_
  refine M_getR gf_X11_103_6 dX11_readSharing_1 (gg_rul4 _ a1) (kk_rul a1) (nn_rul a1) ?_
  refine J_iload_n 2 dX11_readSharing_4 rfl ?_
  refine J_iconst (v := 3) dX11_readSharing_5 (by decide) ?_
  obtain ⟨g5, h⟩ := gd_inv h
  refine M_iast dX11_readSharing_6 (aa_rul4 a1) (nna_rul4 a1) g5 ?_
  refine J_aload_n 1 dX11_readSharing_7 rfl ?_
  refine M_getR gf_X11_106_6 dX11_readSharing_8 (gg_rul5 _ a1) (kk_rul a1) (nn_rul a1) ?_
  refine J_iload_n 2 dX11_readSharing_11 rfl ?_
  refine J_iconst (v := 1) dX11_readSharing_12 (by decide) ?_
  obtain ⟨g6, h⟩ := gd_inv h
  refine M_iast dX11_readSharing_13 (aa_rul5 a1) (nna_rul5 a1) g6 ?_
  refine J_aload_n 0 dX11_readSharing_14 rfl ?_
  refine J_aload_n 1 dX11_readSharing_15 rfl ?_
  refine J_iload_n 2 dX11_readSharing_16 rfl ?_
  obtain ⟨r7, σ8, h9, h⟩ := bd_inv h
  refine M_callVI (d' := 7) (k := 262) (As := [.ref (rulX a1), .int a2]) (st := []) cv_X11_109 dX11_readSharing_17 rfl (by decide) rfl (Nat.le_of_ble_eq_true rfl) (Nat.le_of_ble_eq_true rfl) (by decide) n_262 k_262 rfl rfl (t_X11_readWhere  h9) ?_
  refine J_if_eq (tgt := 61) dX11_readSharing_20 (by decide) (fun c10 => ?_) (fun c10 => ?_)
  · have h := (if_pos c10).symm.trans h
    refine J_pick [] rfl ?_
    exact t_X11_readSharing_61   _ _  h
  · have h := (if_neg c10).symm.trans h
    refine J_aload_n 0 dX11_readSharing_23 rfl ?_
    refine M_ldcS (w := 7) (tx := "length") dX11_readSharing_24 (by decide +kernel) ?_
    refine J_aload_n 1 dX11_readSharing_26 rfl ?_
    refine M_getR gf_X11_103_6 dX11_readSharing_27 (gg_rul4 _ a1) (kk_rul a1) (nn_rul a1) ?_
    refine J_iload_n 2 dX11_readSharing_30 rfl ?_
    refine J_iconst (v := 2) dX11_readSharing_31 (by decide) ?_
    refine J_bipush (v := 6) dX11_readSharing_32 (by decide) ?_
    obtain ⟨r11, σ12, h13, h⟩ := bd_inv h
    refine M_callVI (d' := 7) (k := 262) (As := [.ref (1000000 + 7), .ref (rulX a1 + 3), .int a2, .int 2, .int 6]) (st := []) cv_X11_114 dX11_readSharing_34 rfl (by decide) rfl (Nat.le_of_ble_eq_true rfl) (Nat.le_of_ble_eq_true rfl) (by decide) n_262 k_262 rfl rfl (t_X11_readOption (by decide) ⟨congrArg Prod.fst (aa_rul4 a1), (nna_rul4 a1)⟩ h13) ?_
    refine J_if_eq (tgt := 61) dX11_readSharing_37 (by decide) (fun c14 => ?_) (fun c14 => ?_)
    · have h := (if_pos c14).symm.trans h
      refine J_pick [] rfl ?_
      exact t_X11_readSharing_61   _ _  h
    · have h := (if_neg c14).symm.trans h
      refine J_aload_n 0 dX11_readSharing_40 rfl ?_
      refine M_ldcS (w := 8) (tx := "count") dX11_readSharing_41 (by decide +kernel) ?_
      refine J_aload_n 1 dX11_readSharing_43 rfl ?_
      refine M_getR gf_X11_106_6 dX11_readSharing_44 (gg_rul5 _ a1) (kk_rul a1) (nn_rul a1) ?_
      refine J_iload_n 2 dX11_readSharing_47 rfl ?_
      refine J_iconst (v := 1) dX11_readSharing_48 (by decide) ?_
      refine J_bipush (v := 99) dX11_readSharing_49 (by decide) ?_
      obtain ⟨r15, σ16, h17, h⟩ := bd_inv h
      refine M_callVI (d' := 7) (k := 262) (As := [.ref (1000000 + 8), .ref (rulX a1 + 4), .int a2, .int 1, .int 99]) (st := []) cv_X11_114 dX11_readSharing_51 rfl (by decide) rfl (Nat.le_of_ble_eq_true rfl) (Nat.le_of_ble_eq_true rfl) (by decide) n_262 k_262 rfl rfl (t_X11_readOption (by decide) ⟨congrArg Prod.fst (aa_rul5 a1), (nna_rul5 a1)⟩ h17) ?_
      refine J_if_eq (tgt := 61) dX11_readSharing_54 (by decide) (fun c18 => ?_) (fun c18 => ?_)
      · have h := (if_pos c18).symm.trans h
        refine J_pick [] rfl ?_
        exact t_X11_readSharing_61   _ _  h
      · have h := (if_neg c18).symm.trans h
        refine J_iconst (v := 1) dX11_readSharing_57 (by decide) ?_
        refine J_goto (tgt := 62) dX11_readSharing_58 (by decide) ?_
        refine J_pick [] rfl ?_
        exact t_X11_readSharing_62  _ _ _  h
theorem dX12_tablet_0 : decode cX12_tablet 0 = .ok (.aload_n 0, 1) := by decide +kernel
theorem dX12_tablet_1 : decode cX12_tablet 1 = .ok (.getfield 19, 3) := by decide +kernel
theorem dX12_tablet_4 : decode cX12_tablet 4 = .ok (.getfield 78, 3) := by decide +kernel
theorem dX12_tablet_7 : decode cX12_tablet 7 = .ok (.istore_n 1, 1) := by decide +kernel
theorem dX12_tablet_8 : decode cX12_tablet 8 = .ok (.iload_n 1, 1) := by decide +kernel
theorem dX12_tablet_9 : decode cX12_tablet 9 = .ok (.bipush 24, 2) := by decide +kernel
theorem dX12_tablet_11 : decode cX12_tablet 11 = .ok (.if_icmp .lt 5, 3) := by decide +kernel
theorem dX12_tablet_14 : decode cX12_tablet 14 = .ok (.iconst (-1), 1) := by decide +kernel
theorem dX12_tablet_15 : decode cX12_tablet 15 = .ok (.ireturn, 1) := by decide +kernel
theorem dX12_tablet_16 : decode cX12_tablet 16 = .ok (.aload_n 0, 1) := by decide +kernel
theorem dX12_tablet_17 : decode cX12_tablet 17 = .ok (.getfield 26, 3) := by decide +kernel
theorem dX12_tablet_20 : decode cX12_tablet 20 = .ok (.aload_n 0, 1) := by decide +kernel
theorem dX12_tablet_21 : decode cX12_tablet 21 = .ok (.getfield 19, 3) := by decide +kernel
theorem dX12_tablet_24 : decode cX12_tablet 24 = .ok (.getfield 81, 3) := by decide +kernel
theorem dX12_tablet_27 : decode cX12_tablet 27 = .ok (.iload_n 1, 1) := by decide +kernel
theorem dX12_tablet_28 : decode cX12_tablet 28 = .ok (.aaload, 1) := by decide +kernel
theorem dX12_tablet_29 : decode cX12_tablet 29 = .ok (.invokevirtual 85, 3) := by decide +kernel
theorem dX12_tablet_32 : decode cX12_tablet 32 = .ok (.istore_n 2, 1) := by decide +kernel
theorem dX12_tablet_33 : decode cX12_tablet 33 = .ok (.aload_n 0, 1) := by decide +kernel
theorem dX12_tablet_34 : decode cX12_tablet 34 = .ok (.getfield 26, 3) := by decide +kernel
theorem dX12_tablet_37 : decode cX12_tablet 37 = .ok (.iconst 0, 1) := by decide +kernel
theorem dX12_tablet_38 : decode cX12_tablet 38 = .ok (.putfield 71, 3) := by decide +kernel
theorem dX12_tablet_41 : decode cX12_tablet 41 = .ok (.iload_n 2, 1) := by decide +kernel
theorem dX12_tablet_42 : decode cX12_tablet 42 = .ok (.ifCond .ne 13, 3) := by decide +kernel
theorem dX12_tablet_45 : decode cX12_tablet 45 = .ok (.iconst (-1), 1) := by decide +kernel
theorem dX12_tablet_46 : decode cX12_tablet 46 = .ok (.aload_n 0, 1) := by decide +kernel
theorem dX12_tablet_47 : decode cX12_tablet 47 = .ok (.getfield 26, 3) := by decide +kernel
theorem dX12_tablet_50 : decode cX12_tablet 50 = .ok (.getfield 89, 3) := by decide +kernel
theorem dX12_tablet_53 : decode cX12_tablet 53 = .ok (.isub, 1) := by decide +kernel
theorem dX12_tablet_54 : decode cX12_tablet 54 = .ok (.ireturn, 1) := by decide +kernel
theorem dX12_tablet_55 : decode cX12_tablet 55 = .ok (.aload_n 0, 1) := by decide +kernel
theorem dX12_tablet_56 : decode cX12_tablet 56 = .ok (.getfield 19, 3) := by decide +kernel
theorem dX12_tablet_59 : decode cX12_tablet 59 = .ok (.getfield 81, 3) := by decide +kernel
theorem dX12_tablet_62 : decode cX12_tablet 62 = .ok (.iload_n 1, 1) := by decide +kernel
theorem dX12_tablet_63 : decode cX12_tablet 63 = .ok (.aaload, 1) := by decide +kernel
theorem dX12_tablet_64 : decode cX12_tablet 64 = .ok (.aload_n 0, 1) := by decide +kernel
theorem dX12_tablet_65 : decode cX12_tablet 65 = .ok (.getfield 19, 3) := by decide +kernel
theorem dX12_tablet_68 : decode cX12_tablet 68 = .ok (.getfield 66, 3) := by decide +kernel
theorem dX12_tablet_71 : decode cX12_tablet 71 = .ok (.putfield 92, 3) := by decide +kernel
theorem dX12_tablet_74 : decode cX12_tablet 74 = .ok (.aload_n 0, 1) := by decide +kernel
theorem dX12_tablet_75 : decode cX12_tablet 75 = .ok (.getfield 19, 3) := by decide +kernel
theorem dX12_tablet_78 : decode cX12_tablet 78 = .ok (.dup, 1) := by decide +kernel
theorem dX12_tablet_79 : decode cX12_tablet 79 = .ok (.getfield 78, 3) := by decide +kernel
theorem dX12_tablet_82 : decode cX12_tablet 82 = .ok (.iconst 1, 1) := by decide +kernel
theorem dX12_tablet_83 : decode cX12_tablet 83 = .ok (.iadd, 1) := by decide +kernel
theorem dX12_tablet_84 : decode cX12_tablet 84 = .ok (.putfield 78, 3) := by decide +kernel
theorem dX12_tablet_87 : decode cX12_tablet 87 = .ok (.aload_n 0, 1) := by decide +kernel
theorem dX12_tablet_88 : decode cX12_tablet 88 = .ok (.invokevirtual 97, 3) := by decide +kernel
theorem dX12_tablet_91 : decode cX12_tablet 91 = .ok (.iload_n 1, 1) := by decide +kernel
theorem dX12_tablet_92 : decode cX12_tablet 92 = .ok (.ireturn, 1) := by decide +kernel
noncomputable def f_X12_tablet  (σ : jM) : Option (Int32 × jM) :=
  (if (rI σ 3 2) < 24 then gd (inb (rI σ 3 2) 24) (bd (f_X11_readTablet (Int32.toNatClampNeg (rI σ 3 2)) σ) (fun r5 σ6 => (if r5 = 0 then some (((-1) - (rI (wI σ6 262 1 0) 262 2)), wI σ6 262 1 0) else gd (inb (rI σ 3 2) 24) (bd (f_X12_forgetView  (wI (wI (wI σ6 262 1 0) (tabX (Int32.toNatClampNeg (rI σ 3 2))) 0 (rI (wI σ6 262 1 0) 3 0)) 3 2 ((rI (wI (wI σ6 262 1 0) (tabX (Int32.toNatClampNeg (rI σ 3 2))) 0 (rI (wI σ6 262 1 0) 3 0)) 3 2) + 1))) (fun _ σ11 => some ((rI σ 3 2), σ11)))))) else some ((-1), σ))
set_option maxRecDepth 20000 in
set_option maxHeartbeats 4000000 in
theorem t_X12_tablet  {σ : jM} {r : Int32 × jM}  (h : f_X12_tablet  σ = some r) : J mi_X12_tablet 6 0 0 (jqI r) 0 [(0, .ref 0)] [] (ms σ) := by
  unfold f_X12_tablet at h
  refine J_aload_n 0 dX12_tablet_0 rfl ?_
  refine M_getR gf_X12_19_11 dX12_tablet_1 (g_0_0 _) k_0 n_0 ?_
  refine M_getI gf_X12_78_0 dX12_tablet_4 k_3 n_3 ?_
  refine J_istore_n (i := 1) (ls' := [(1, .int (rI σ 3 2)), (0, .ref 0)]) dX12_tablet_7 rfl (by decide) rfl ?_
  refine J_iload_n 0 dX12_tablet_8 rfl ?_
  refine J_bipush (v := 24) dX12_tablet_9 (by decide) ?_
  refine J_icmp_lt (tgt := 16) dX12_tablet_11 (by decide) (fun c3 => ?_) (fun c3 => ?_)
  · have h := (if_pos c3).symm.trans h
    refine J_aload_n 1 dX12_tablet_16 rfl ?_
    refine M_getR gf_X12_26_11 dX12_tablet_17 (g_0_1 _) k_0 n_0 ?_
    refine J_aload_n 1 dX12_tablet_20 rfl ?_
    refine M_getR gf_X12_19_11 dX12_tablet_21 (g_0_0 _) k_0 n_0 ?_
    refine M_getR gf_X12_81_0 dX12_tablet_24 (g_3_1 _) k_3 n_3 ?_
    refine J_iload_n 0 dX12_tablet_27 rfl ?_
    obtain ⟨g4, h⟩ := gd_inv h
    refine M_aald dX12_tablet_28 a_4 (by decide) n_4 g4 (r_tab _ g4.2) ?_
    obtain ⟨r5, σ6, h7, h⟩ := bd_inv h
    refine M_callVI (d' := 5) (k := 262) (As := [.ref (tabX (Int32.toNatClampNeg (rI σ 3 2)))]) (st := []) cv_X12_85 dX12_tablet_29 rfl (by decide) rfl (Nat.le_of_ble_eq_true rfl) (Nat.le_of_ble_eq_true rfl) (by decide) n_262 k_262 rfl rfl (t_X11_readTablet g4.2 h7) ?_
    refine J_istore_n (i := 2) (ls' := [(2, .int r5), (1, .int (rI σ 3 2)), (0, .ref 0)]) dX12_tablet_32 rfl (by decide) rfl ?_
    refine J_aload_n 2 dX12_tablet_33 rfl ?_
    refine M_getR gf_X12_26_11 dX12_tablet_34 (g_0_1 _) k_0 n_0 ?_
    refine J_iconst (v := 0) dX12_tablet_37 (by decide) ?_
    refine M_putI pf_X12_71_10 dX12_tablet_38 k_262 n_262 ⟨rfl, rfl⟩ ?_
    refine J_iload_n 0 dX12_tablet_41 rfl ?_
    refine J_if_ne (tgt := 55) dX12_tablet_42 (by decide) (fun c8 => ?_) (fun c8 => ?_)
    · have h := (if_neg c8).symm.trans h
      refine J_aload_n 2 dX12_tablet_55 rfl ?_
      refine M_getR gf_X12_19_11 dX12_tablet_56 (g_0_0 _) k_0 n_0 ?_
      refine M_getR gf_X12_81_0 dX12_tablet_59 (g_3_1 _) k_3 n_3 ?_
      refine J_iload_n 1 dX12_tablet_62 rfl ?_
      obtain ⟨g9, h⟩ := gd_inv h
      refine M_aald dX12_tablet_63 a_4 (by decide) n_4 g9 (r_tab _ g9.2) ?_
      refine J_aload_n 2 dX12_tablet_64 rfl ?_
      refine M_getR gf_X12_19_11 dX12_tablet_65 (g_0_0 _) k_0 n_0 ?_
      refine M_getI gf_X12_66_0 dX12_tablet_68 k_3 n_3 ?_
      refine M_putI pf_X12_92_9 dX12_tablet_71 (k_tab g9.2) (n_tab g9.2) ⟨rfl, rfl⟩ ?_
      refine J_aload_n 2 dX12_tablet_74 rfl ?_
      refine M_getR gf_X12_19_11 dX12_tablet_75 (g_0_0 _) k_0 n_0 ?_
      refine J_dup dX12_tablet_78 rfl ?_
      refine M_getI gf_X12_78_0 dX12_tablet_79 k_3 n_3 ?_
      refine J_iconst (v := 1) dX12_tablet_82 (by decide) ?_
      refine J_iadd dX12_tablet_83 ?_
      refine M_putI pf_X12_78_0 dX12_tablet_84 k_3 n_3 ⟨rfl, rfl⟩ ?_
      refine J_aload_n 2 dX12_tablet_87 rfl ?_
      obtain ⟨_, σ11, h12, h⟩ := bd_inv h
      refine M_callVV (d' := 1) (k := 0) (As := []) (st := []) cv_X12_97 dX12_tablet_88 rfl (by decide) rfl (Nat.le_of_ble_eq_true rfl) (Nat.le_of_ble_eq_true rfl) (by decide) n_0 k_0 rfl rfl (t_X12_forgetView  h12) ?_
      refine J_iload_n 1 dX12_tablet_91 rfl ?_
      exact J_ret (v := some (.int (rI σ 3 2))) rfl ⟨dX12_tablet_92, Or.inl rfl⟩ (jqI_mk h)
    · have h := (if_pos c8).symm.trans h
      refine J_iconst (v := (-1)) dX12_tablet_45 (by decide) ?_
      refine J_aload_n 2 dX12_tablet_46 rfl ?_
      refine M_getR gf_X12_26_11 dX12_tablet_47 (g_0_1 _) k_0 n_0 ?_
      refine M_getI gf_X12_89_10 dX12_tablet_50 k_262 n_262 ?_
      refine J_isub dX12_tablet_53 ?_
      exact J_ret (v := some (.int ((-1) - (rI (wI σ6 262 1 0) 262 2)))) rfl ⟨dX12_tablet_54, Or.inl rfl⟩ (jqI_mk h)
  · have h := (if_neg c3).symm.trans h
    refine J_iconst (v := (-1)) dX12_tablet_14 (by decide) ?_
    exact J_ret (v := some (.int (-1))) rfl ⟨dX12_tablet_15, Or.inl rfl⟩ (jqI_mk h)
theorem dX12_sign_0 : decode cX12_sign 0 = .ok (.iload_n 1, 1) := by decide +kernel
theorem dX12_sign_1 : decode cX12_sign 1 = .ok (.invokestatic 144, 3) := by decide +kernel
theorem dX12_sign_4 : decode cX12_sign 4 = .ok (.ifCond .eq 23, 3) := by decide +kernel
theorem dX12_sign_7 : decode cX12_sign 7 = .ok (.aload_n 0, 1) := by decide +kernel
theorem dX12_sign_8 : decode cX12_sign 8 = .ok (.iload_n 2, 1) := by decide +kernel
theorem dX12_sign_9 : decode cX12_sign 9 = .ok (.invokevirtual 202, 3) := by decide +kernel
theorem dX12_sign_12 : decode cX12_sign 12 = .ok (.ifCond .eq 15, 3) := by decide +kernel
theorem dX12_sign_15 : decode cX12_sign 15 = .ok (.aload_n 0, 1) := by decide +kernel
theorem dX12_sign_16 : decode cX12_sign 16 = .ok (.getfield 19, 3) := by decide +kernel
theorem dX12_sign_19 : decode cX12_sign 19 = .ok (.getfield 205, 3) := by decide +kernel
theorem dX12_sign_22 : decode cX12_sign 22 = .ok (.iload_n 1, 1) := by decide +kernel
theorem dX12_sign_23 : decode cX12_sign 23 = .ok (.iaload, 1) := by decide +kernel
theorem dX12_sign_24 : decode cX12_sign 24 = .ok (.goto 4, 3) := by decide +kernel
theorem dX12_sign_27 : decode cX12_sign 27 = .ok (.iconst (-1), 1) := by decide +kernel
theorem dX12_sign_28 : decode cX12_sign 28 = .ok (.ireturn, 1) := by decide +kernel
noncomputable def f_X12_sign_28  (s0 : Int32) (σ : jM) : Option (Int32 × jM) :=
  some (s0, σ)
noncomputable def f_X12_sign_27   (σ : jM) : Option (Int32 × jM) :=
  f_X12_sign_28  (-1) σ
noncomputable def f_X12_sign (a1 : Int32) (a2 : Int32) (σ : jM) : Option (Int32 × jM) :=
  bd (f_X12_isSign a1 σ) (fun r2 σ3 => (if r2 = 0 then f_X12_sign_27   σ3 else bd (f_X12_see a2 σ3) (fun r6 σ7 => (if r6 = 0 then f_X12_sign_27   σ7 else gd (inb a1 40) (f_X12_sign_28  (rI σ7 18 (Int32.toNatClampNeg a1)) σ7)))))
set_option maxRecDepth 20000 in
set_option maxHeartbeats 4000000 in
theorem t_X12_sign_28  (s0 : Int32) (σ : jM) (r : Int32 × jM)  (h : f_X12_sign_28  s0 σ = some r) : J mi_X12_sign 7 0 0 (jqI r) 28 [] [.int s0] (ms σ) := by
  unfold f_X12_sign_28 at h
  exact J_ret (v := some (.int s0)) rfl ⟨dX12_sign_28, Or.inl rfl⟩ (jqI_mk h)
set_option maxRecDepth 20000 in
set_option maxHeartbeats 4000000 in
theorem t_X12_sign_27   (σ : jM) (r : Int32 × jM)  (h : f_X12_sign_27   σ = some r) : J mi_X12_sign 7 0 0 (jqI r) 27 [] [] (ms σ) := by
  unfold f_X12_sign_27 at h
  refine J_iconst (v := (-1)) dX12_sign_27 (by decide) ?_
  exact t_X12_sign_28  _ _ _  h
set_option maxRecDepth 20000 in
set_option maxHeartbeats 4000000 in
theorem t_X12_sign {a1 : Int32} {a2 : Int32} {σ : jM} {r : Int32 × jM}  (h : f_X12_sign a1 a2 σ = some r) : J mi_X12_sign 7 0 0 (jqI r) 0 [(0, .ref 0), (1, .int a1), (2, .int a2)] [] (ms σ) := by
  unfold f_X12_sign at h
  refine J_iload_n 1 dX12_sign_0 rfl ?_
  obtain ⟨r2, σ3, h4, h⟩ := bd_inv h
  refine M_callSI (d' := 1) (As := [.int a1]) (st := []) cs_X12_144 dX12_sign_1 rfl (Nat.le_of_ble_eq_true rfl) (Nat.le_of_ble_eq_true rfl) (by decide) rfl rfl (t_X12_isSign  h4) ?_
  refine J_if_eq (tgt := 27) dX12_sign_4 (by decide) (fun c5 => ?_) (fun c5 => ?_)
  · have h := (if_pos c5).symm.trans h
    refine J_pick [] rfl ?_
    exact t_X12_sign_27   _ _  h
  · have h := (if_neg c5).symm.trans h
    refine J_aload_n 0 dX12_sign_7 rfl ?_
    refine J_iload_n 2 dX12_sign_8 rfl ?_
    obtain ⟨r6, σ7, h8, h⟩ := bd_inv h
    refine M_callVI (d' := 6) (k := 0) (As := [.int a2]) (st := []) cv_X12_202 dX12_sign_9 rfl (by decide) rfl (Nat.le_of_ble_eq_true rfl) (Nat.le_of_ble_eq_true rfl) (by decide) n_0 k_0 rfl rfl (t_X12_see  h8) ?_
    refine J_if_eq (tgt := 27) dX12_sign_12 (by decide) (fun c9 => ?_) (fun c9 => ?_)
    · have h := (if_pos c9).symm.trans h
      refine J_pick [] rfl ?_
      exact t_X12_sign_27   _ _  h
    · have h := (if_neg c9).symm.trans h
      refine J_aload_n 0 dX12_sign_15 rfl ?_
      refine M_getR gf_X12_19_11 dX12_sign_16 (g_0_0 _) k_0 n_0 ?_
      refine M_getR gf_X12_205_0 dX12_sign_19 (g_3_11 _) k_3 n_3 ?_
      refine J_iload_n 1 dX12_sign_22 rfl ?_
      obtain ⟨g10, h⟩ := gd_inv h
      refine M_iald dX12_sign_23 a_18 n_18 g10 ?_
      refine J_goto (tgt := 28) dX12_sign_24 (by decide) ?_
      refine J_pick [] rfl ?_
      exact t_X12_sign_28  _ _ _  h
theorem dX12_spelled_0 : decode cX12_spelled 0 = .ok (.aload_n 0, 1) := by decide +kernel
theorem dX12_spelled_1 : decode cX12_spelled 1 = .ok (.getfield 19, 3) := by decide +kernel
theorem dX12_spelled_4 : decode cX12_spelled 4 = .ok (.iload_n 1, 1) := by decide +kernel
theorem dX12_spelled_5 : decode cX12_spelled 5 = .ok (.invokevirtual 281, 3) := by decide +kernel
theorem dX12_spelled_8 : decode cX12_spelled 8 = .ok (.ifCond .eq 11, 3) := by decide +kernel
theorem dX12_spelled_11 : decode cX12_spelled 11 = .ok (.aload_n 0, 1) := by decide +kernel
theorem dX12_spelled_12 : decode cX12_spelled 12 = .ok (.iload_n 2, 1) := by decide +kernel
theorem dX12_spelled_13 : decode cX12_spelled 13 = .ok (.invokevirtual 202, 3) := by decide +kernel
theorem dX12_spelled_16 : decode cX12_spelled 16 = .ok (.ifCond .ne 5, 3) := by decide +kernel
theorem dX12_spelled_19 : decode cX12_spelled 19 = .ok (.iconst (-1), 1) := by decide +kernel
theorem dX12_spelled_20 : decode cX12_spelled 20 = .ok (.ireturn, 1) := by decide +kernel
theorem dX12_spelled_21 : decode cX12_spelled 21 = .ok (.aload_n 0, 1) := by decide +kernel
theorem dX12_spelled_22 : decode cX12_spelled 22 = .ok (.iload_n 1, 1) := by decide +kernel
theorem dX12_spelled_23 : decode cX12_spelled 23 = .ok (.invokevirtual 284, 3) := by decide +kernel
theorem dX12_spelled_26 : decode cX12_spelled 26 = .ok (.ireturn, 1) := by decide +kernel
noncomputable def f_X12_spelled_19   (σ : jM) : Option (Int32 × jM) :=
  some ((-1), σ)
noncomputable def f_X12_spelled (a1 : Int32) (a2 : Int32) (σ : jM) : Option (Int32 × jM) :=
  bd (f_X0_hasName a1 σ) (fun r1 σ2 => (if r1 = 0 then f_X12_spelled_19   σ2 else bd (f_X12_see a2 σ2) (fun r5 σ6 => (if r5 = 0 then f_X12_spelled_19   σ6 else bd (f_X12_spellName a1 σ6) (fun r9 σ10 => some (r9, σ10))))))
set_option maxRecDepth 20000 in
set_option maxHeartbeats 4000000 in
theorem t_X12_spelled_19   (σ : jM) (r : Int32 × jM)  (h : f_X12_spelled_19   σ = some r) : J mi_X12_spelled 7 0 0 (jqI r) 19 [] [] (ms σ) := by
  unfold f_X12_spelled_19 at h
  refine J_iconst (v := (-1)) dX12_spelled_19 (by decide) ?_
  exact J_ret (v := some (.int (-1))) rfl ⟨dX12_spelled_20, Or.inl rfl⟩ (jqI_mk h)
set_option maxRecDepth 20000 in
set_option maxHeartbeats 4000000 in
theorem t_X12_spelled {a1 : Int32} {a2 : Int32} {σ : jM} {r : Int32 × jM}  (h : f_X12_spelled a1 a2 σ = some r) : J mi_X12_spelled 7 0 0 (jqI r) 0 [(0, .ref 0), (1, .int a1), (2, .int a2)] [] (ms σ) := by
  unfold f_X12_spelled at h
  refine J_aload_n 0 dX12_spelled_0 rfl ?_
  refine M_getR gf_X12_19_11 dX12_spelled_1 (g_0_0 _) k_0 n_0 ?_
  refine J_iload_n 1 dX12_spelled_4 rfl ?_
  obtain ⟨r1, σ2, h3, h⟩ := bd_inv h
  refine M_callVI (d' := 1) (k := 3) (As := [.int a1]) (st := []) cv_X12_281 dX12_spelled_5 rfl (by decide) rfl (Nat.le_of_ble_eq_true rfl) (Nat.le_of_ble_eq_true rfl) (by decide) n_3 k_3 rfl rfl (t_X0_hasName  h3) ?_
  refine J_if_eq (tgt := 19) dX12_spelled_8 (by decide) (fun c4 => ?_) (fun c4 => ?_)
  · have h := (if_pos c4).symm.trans h
    refine J_pick [] rfl ?_
    exact t_X12_spelled_19   _ _  h
  · have h := (if_neg c4).symm.trans h
    refine J_aload_n 0 dX12_spelled_11 rfl ?_
    refine J_iload_n 2 dX12_spelled_12 rfl ?_
    obtain ⟨r5, σ6, h7, h⟩ := bd_inv h
    refine M_callVI (d' := 6) (k := 0) (As := [.int a2]) (st := []) cv_X12_202 dX12_spelled_13 rfl (by decide) rfl (Nat.le_of_ble_eq_true rfl) (Nat.le_of_ble_eq_true rfl) (by decide) n_0 k_0 rfl rfl (t_X12_see  h7) ?_
    refine J_if_ne (tgt := 21) dX12_spelled_16 (by decide) (fun c8 => ?_) (fun c8 => ?_)
    · have h := (if_neg c8).symm.trans h
      refine J_aload_n 0 dX12_spelled_21 rfl ?_
      refine J_iload_n 1 dX12_spelled_22 rfl ?_
      obtain ⟨r9, σ10, h11, h⟩ := bd_inv h
      refine M_callVI (d' := 4) (k := 0) (As := [.int a1]) (st := []) cv_X12_284 dX12_spelled_23 rfl (by decide) rfl (Nat.le_of_ble_eq_true rfl) (Nat.le_of_ble_eq_true rfl) (by decide) n_0 k_0 rfl rfl (t_X12_spellName  h11) ?_
      exact J_ret (v := some (.int r9)) rfl ⟨dX12_spelled_26, Or.inl rfl⟩ (jqI_mk h)
    · have h := (if_pos c8).symm.trans h
      refine J_pick [] rfl ?_
      exact t_X12_spelled_19   _ _  h
theorem dX12_cell_0 : decode cX12_cell 0 = .ok (.aload_n 0, 1) := by decide +kernel
theorem dX12_cell_1 : decode cX12_cell 1 = .ok (.getfield 19, 3) := by decide +kernel
theorem dX12_cell_4 : decode cX12_cell 4 = .ok (.iload_n 1, 1) := by decide +kernel
theorem dX12_cell_5 : decode cX12_cell 5 = .ok (.invokevirtual 281, 3) := by decide +kernel
theorem dX12_cell_8 : decode cX12_cell 8 = .ok (.ifCond .eq 11, 3) := by decide +kernel
theorem dX12_cell_11 : decode cX12_cell 11 = .ok (.aload_n 0, 1) := by decide +kernel
theorem dX12_cell_12 : decode cX12_cell 12 = .ok (.iload_n 3, 1) := by decide +kernel
theorem dX12_cell_13 : decode cX12_cell 13 = .ok (.invokevirtual 202, 3) := by decide +kernel
theorem dX12_cell_16 : decode cX12_cell 16 = .ok (.ifCond .ne 5, 3) := by decide +kernel
theorem dX12_cell_19 : decode cX12_cell 19 = .ok (.iconst (-1), 1) := by decide +kernel
theorem dX12_cell_20 : decode cX12_cell 20 = .ok (.ireturn, 1) := by decide +kernel
theorem dX12_cell_21 : decode cX12_cell 21 = .ok (.aload_n 0, 1) := by decide +kernel
theorem dX12_cell_22 : decode cX12_cell 22 = .ok (.iload_n 1, 1) := by decide +kernel
theorem dX12_cell_23 : decode cX12_cell 23 = .ok (.invokevirtual 284, 3) := by decide +kernel
theorem dX12_cell_26 : decode cX12_cell 26 = .ok (.istore 4, 2) := by decide +kernel
theorem dX12_cell_28 : decode cX12_cell 28 = .ok (.iload_n 2, 1) := by decide +kernel
theorem dX12_cell_29 : decode cX12_cell 29 = .ok (.ifCond .lt 18, 3) := by decide +kernel
theorem dX12_cell_32 : decode cX12_cell 32 = .ok (.iload_n 2, 1) := by decide +kernel
theorem dX12_cell_33 : decode cX12_cell 33 = .ok (.iload 4, 2) := by decide +kernel
theorem dX12_cell_35 : decode cX12_cell 35 = .ok (.if_icmp .ge 12, 3) := by decide +kernel
theorem dX12_cell_38 : decode cX12_cell 38 = .ok (.aload_n 0, 1) := by decide +kernel
theorem dX12_cell_39 : decode cX12_cell 39 = .ok (.getfield 13, 3) := by decide +kernel
theorem dX12_cell_42 : decode cX12_cell 42 = .ok (.iload_n 2, 1) := by decide +kernel
theorem dX12_cell_43 : decode cX12_cell 43 = .ok (.iaload, 1) := by decide +kernel
theorem dX12_cell_44 : decode cX12_cell 44 = .ok (.goto 4, 3) := by decide +kernel
theorem dX12_cell_47 : decode cX12_cell 47 = .ok (.iconst (-1), 1) := by decide +kernel
theorem dX12_cell_48 : decode cX12_cell 48 = .ok (.ireturn, 1) := by decide +kernel
noncomputable def f_X12_cell_19   (σ : jM) : Option (Int32 × jM) :=
  some ((-1), σ)
noncomputable def f_X12_cell_48  (s0 : Int32) (σ : jM) : Option (Int32 × jM) :=
  some (s0, σ)
noncomputable def f_X12_cell_47   (σ : jM) : Option (Int32 × jM) :=
  f_X12_cell_48  (-1) σ
noncomputable def f_X12_cell (a1 : Int32) (a2 : Int32) (a3 : Int32) (σ : jM) : Option (Int32 × jM) :=
  bd (f_X0_hasName a1 σ) (fun r2 σ3 => (if r2 = 0 then f_X12_cell_19   σ3 else bd (f_X12_see a3 σ3) (fun r6 σ7 => (if r6 = 0 then f_X12_cell_19   σ7 else bd (f_X12_spellName a1 σ7) (fun r10 σ11 => (if a2 < 0 then f_X12_cell_47   σ11 else (if r10 ≤ a2 then f_X12_cell_47   σ11 else gd (inb a2 8) (f_X12_cell_48  (rI σ11 2 (Int32.toNatClampNeg a2)) σ11))))))))
set_option maxRecDepth 20000 in
set_option maxHeartbeats 4000000 in
theorem t_X12_cell_19   (σ : jM) (r : Int32 × jM)  (h : f_X12_cell_19   σ = some r) : J mi_X12_cell 7 0 0 (jqI r) 19 [] [] (ms σ) := by
  unfold f_X12_cell_19 at h
  refine J_iconst (v := (-1)) dX12_cell_19 (by decide) ?_
  exact J_ret (v := some (.int (-1))) rfl ⟨dX12_cell_20, Or.inl rfl⟩ (jqI_mk h)
set_option maxRecDepth 20000 in
set_option maxHeartbeats 4000000 in
theorem t_X12_cell_48  (s0 : Int32) (σ : jM) (r : Int32 × jM)  (h : f_X12_cell_48  s0 σ = some r) : J mi_X12_cell 7 0 0 (jqI r) 48 [] [.int s0] (ms σ) := by
  unfold f_X12_cell_48 at h
  exact J_ret (v := some (.int s0)) rfl ⟨dX12_cell_48, Or.inl rfl⟩ (jqI_mk h)
set_option maxRecDepth 20000 in
set_option maxHeartbeats 4000000 in
theorem t_X12_cell_47   (σ : jM) (r : Int32 × jM)  (h : f_X12_cell_47   σ = some r) : J mi_X12_cell 7 0 0 (jqI r) 47 [] [] (ms σ) := by
  unfold f_X12_cell_47 at h
  refine J_iconst (v := (-1)) dX12_cell_47 (by decide) ?_
  exact t_X12_cell_48  _ _ _  h
set_option maxRecDepth 20000 in
set_option maxHeartbeats 4000000 in
theorem t_X12_cell {a1 : Int32} {a2 : Int32} {a3 : Int32} {σ : jM} {r : Int32 × jM}  (h : f_X12_cell a1 a2 a3 σ = some r) : J mi_X12_cell 7 0 0 (jqI r) 0 [(0, .ref 0), (1, .int a1), (2, .int a2), (3, .int a3)] [] (ms σ) := by
  unfold f_X12_cell at h
  refine J_aload_n 0 dX12_cell_0 rfl ?_
  refine M_getR gf_X12_19_11 dX12_cell_1 (g_0_0 _) k_0 n_0 ?_
  refine J_iload_n 1 dX12_cell_4 rfl ?_
  obtain ⟨r2, σ3, h4, h⟩ := bd_inv h
  refine M_callVI (d' := 1) (k := 3) (As := [.int a1]) (st := []) cv_X12_281 dX12_cell_5 rfl (by decide) rfl (Nat.le_of_ble_eq_true rfl) (Nat.le_of_ble_eq_true rfl) (by decide) n_3 k_3 rfl rfl (t_X0_hasName  h4) ?_
  refine J_if_eq (tgt := 19) dX12_cell_8 (by decide) (fun c5 => ?_) (fun c5 => ?_)
  · have h := (if_pos c5).symm.trans h
    refine J_pick [] rfl ?_
    exact t_X12_cell_19   _ _  h
  · have h := (if_neg c5).symm.trans h
    refine J_aload_n 0 dX12_cell_11 rfl ?_
    refine J_iload_n 3 dX12_cell_12 rfl ?_
    obtain ⟨r6, σ7, h8, h⟩ := bd_inv h
    refine M_callVI (d' := 6) (k := 0) (As := [.int a3]) (st := []) cv_X12_202 dX12_cell_13 rfl (by decide) rfl (Nat.le_of_ble_eq_true rfl) (Nat.le_of_ble_eq_true rfl) (by decide) n_0 k_0 rfl rfl (t_X12_see  h8) ?_
    refine J_if_ne (tgt := 21) dX12_cell_16 (by decide) (fun c9 => ?_) (fun c9 => ?_)
    · have h := (if_neg c9).symm.trans h
      refine J_aload_n 0 dX12_cell_21 rfl ?_
      refine J_iload_n 1 dX12_cell_22 rfl ?_
      obtain ⟨r10, σ11, h12, h⟩ := bd_inv h
      refine M_callVI (d' := 4) (k := 0) (As := [.int a1]) (st := []) cv_X12_284 dX12_cell_23 rfl (by decide) rfl (Nat.le_of_ble_eq_true rfl) (Nat.le_of_ble_eq_true rfl) (by decide) n_0 k_0 rfl rfl (t_X12_spellName  h12) ?_
      refine J_istore (i := 4) (ls' := [(4, .int r10), (0, .ref 0), (1, .int a1), (2, .int a2), (3, .int a3)]) dX12_cell_26 (by decide) rfl ?_
      refine J_iload_n 3 dX12_cell_28 rfl ?_
      refine J_if_lt (tgt := 47) dX12_cell_29 (by decide) (fun c13 => ?_) (fun c13 => ?_)
      · have h := (if_pos c13).symm.trans h
        refine J_pick [] rfl ?_
        exact t_X12_cell_47   _ _  h
      · have h := (if_neg c13).symm.trans h
        refine J_iload_n 3 dX12_cell_32 rfl ?_
        refine J_iload 0 dX12_cell_33 rfl ?_
        refine J_icmp_ge (tgt := 47) dX12_cell_35 (by decide) (fun c14 => ?_) (fun c14 => ?_)
        · have h := (if_pos c14).symm.trans h
          refine J_pick [] rfl ?_
          exact t_X12_cell_47   _ _  h
        · have h := (if_neg c14).symm.trans h
          refine J_aload_n 1 dX12_cell_38 rfl ?_
          refine M_getR gf_X12_13_11 dX12_cell_39 (g_0_8 _) k_0 n_0 ?_
          refine J_iload_n 3 dX12_cell_42 rfl ?_
          obtain ⟨g15, h⟩ := gd_inv h
          refine M_iald dX12_cell_43 a_2 n_2 g15 ?_
          refine J_goto (tgt := 48) dX12_cell_44 (by decide) ?_
          refine J_pick [] rfl ?_
          exact t_X12_cell_48  _ _ _  h
    · have h := (if_pos c9).symm.trans h
      refine J_pick [] rfl ?_
      exact t_X12_cell_19   _ _  h
theorem dX12_often_0 : decode cX12_often 0 = .ok (.iload_n 1, 1) := by decide +kernel
theorem dX12_often_1 : decode cX12_often 1 = .ok (.invokestatic 144, 3) := by decide +kernel
theorem dX12_often_4 : decode cX12_often 4 = .ok (.ifCond .eq 20, 3) := by decide +kernel
theorem dX12_often_7 : decode cX12_often 7 = .ok (.iload_n 3, 1) := by decide +kernel
theorem dX12_often_8 : decode cX12_often 8 = .ok (.ifCond .lt 16, 3) := by decide +kernel
theorem dX12_often_11 : decode cX12_often 11 = .ok (.iload_n 3, 1) := by decide +kernel
theorem dX12_often_12 : decode cX12_often 12 = .ok (.iconst 4, 1) := by decide +kernel
theorem dX12_often_13 : decode cX12_often 13 = .ok (.if_icmp .gt 11, 3) := by decide +kernel
theorem dX12_often_16 : decode cX12_often 16 = .ok (.aload_n 0, 1) := by decide +kernel
theorem dX12_often_17 : decode cX12_often 17 = .ok (.iload_n 2, 1) := by decide +kernel
theorem dX12_often_18 : decode cX12_often 18 = .ok (.invokevirtual 202, 3) := by decide +kernel
theorem dX12_often_21 : decode cX12_often 21 = .ok (.ifCond .ne 5, 3) := by decide +kernel
theorem dX12_often_24 : decode cX12_often 24 = .ok (.iconst (-1), 1) := by decide +kernel
theorem dX12_often_25 : decode cX12_often 25 = .ok (.ireturn, 1) := by decide +kernel
theorem dX12_often_26 : decode cX12_often 26 = .ok (.aload_n 0, 1) := by decide +kernel
theorem dX12_often_27 : decode cX12_often 27 = .ok (.getfield 62, 3) := by decide +kernel
theorem dX12_often_30 : decode cX12_often 30 = .ok (.invokevirtual 362, 3) := by decide +kernel
theorem dX12_often_33 : decode cX12_often 33 = .ok (.aload_n 0, 1) := by decide +kernel
theorem dX12_often_34 : decode cX12_often 34 = .ok (.getfield 62, 3) := by decide +kernel
theorem dX12_often_37 : decode cX12_often 37 = .ok (.getfield 365, 3) := by decide +kernel
theorem dX12_often_40 : decode cX12_often 40 = .ok (.aload_n 0, 1) := by decide +kernel
theorem dX12_often_41 : decode cX12_often 41 = .ok (.getfield 19, 3) := by decide +kernel
theorem dX12_often_44 : decode cX12_often 44 = .ok (.getfield 205, 3) := by decide +kernel
theorem dX12_often_47 : decode cX12_often 47 = .ok (.iload_n 1, 1) := by decide +kernel
theorem dX12_often_48 : decode cX12_often 48 = .ok (.iaload, 1) := by decide +kernel
theorem dX12_often_49 : decode cX12_often 49 = .ok (.iconst 5, 1) := by decide +kernel
theorem dX12_often_50 : decode cX12_often 50 = .ok (.imul, 1) := by decide +kernel
theorem dX12_often_51 : decode cX12_often 51 = .ok (.iload_n 3, 1) := by decide +kernel
theorem dX12_often_52 : decode cX12_often 52 = .ok (.iadd, 1) := by decide +kernel
theorem dX12_often_53 : decode cX12_often 53 = .ok (.iaload, 1) := by decide +kernel
theorem dX12_often_54 : decode cX12_often 54 = .ok (.ireturn, 1) := by decide +kernel
noncomputable def f_X12_often_24   (σ : jM) : Option (Int32 × jM) :=
  some ((-1), σ)
noncomputable def f_X12_often (a1 : Int32) (a2 : Int32) (a3 : Int32) (σ : jM) : Option (Int32 × jM) :=
  bd (f_X12_isSign a1 σ) (fun r3 σ4 => (if r3 = 0 then f_X12_often_24   σ4 else (if a3 < 0 then f_X12_often_24   σ4 else (if 4 < a3 then f_X12_often_24   σ4 else bd (f_X12_see a2 σ4) (fun r9 σ10 => (if r9 = 0 then f_X12_often_24   σ10 else bd (f_X1_countPlaces  σ10) (fun _ σ14 => gd (inb a1 40) (gd (inb (((rI σ14 18 (Int32.toNatClampNeg a1)) * 5) + a3) 200) (some ((rI σ14 323 (Int32.toNatClampNeg (((rI σ14 18 (Int32.toNatClampNeg a1)) * 5) + a3))), σ14))))))))))
set_option maxRecDepth 20000 in
set_option maxHeartbeats 4000000 in
theorem t_X12_often_24   (σ : jM) (r : Int32 × jM)  (h : f_X12_often_24   σ = some r) : J mi_X12_often 7 0 0 (jqI r) 24 [] [] (ms σ) := by
  unfold f_X12_often_24 at h
  refine J_iconst (v := (-1)) dX12_often_24 (by decide) ?_
  exact J_ret (v := some (.int (-1))) rfl ⟨dX12_often_25, Or.inl rfl⟩ (jqI_mk h)
set_option maxRecDepth 20000 in
set_option maxHeartbeats 4000000 in
theorem t_X12_often {a1 : Int32} {a2 : Int32} {a3 : Int32} {σ : jM} {r : Int32 × jM}  (h : f_X12_often a1 a2 a3 σ = some r) : J mi_X12_often 7 0 0 (jqI r) 0 [(0, .ref 0), (1, .int a1), (2, .int a2), (3, .int a3)] [] (ms σ) := by
  unfold f_X12_often at h
  refine J_iload_n 1 dX12_often_0 rfl ?_
  obtain ⟨r3, σ4, h5, h⟩ := bd_inv h
  refine M_callSI (d' := 1) (As := [.int a1]) (st := []) cs_X12_144 dX12_often_1 rfl (Nat.le_of_ble_eq_true rfl) (Nat.le_of_ble_eq_true rfl) (by decide) rfl rfl (t_X12_isSign  h5) ?_
  refine J_if_eq (tgt := 24) dX12_often_4 (by decide) (fun c6 => ?_) (fun c6 => ?_)
  · have h := (if_pos c6).symm.trans h
    refine J_pick [] rfl ?_
    exact t_X12_often_24   _ _  h
  · have h := (if_neg c6).symm.trans h
    refine J_iload_n 3 dX12_often_7 rfl ?_
    refine J_if_lt (tgt := 24) dX12_often_8 (by decide) (fun c7 => ?_) (fun c7 => ?_)
    · have h := (if_pos c7).symm.trans h
      refine J_pick [] rfl ?_
      exact t_X12_often_24   _ _  h
    · have h := (if_neg c7).symm.trans h
      refine J_iload_n 3 dX12_often_11 rfl ?_
      refine J_iconst (v := 4) dX12_often_12 (by decide) ?_
      refine J_icmp_gt (tgt := 24) dX12_often_13 (by decide) (fun c8 => ?_) (fun c8 => ?_)
      · have h := (if_pos c8).symm.trans h
        refine J_pick [] rfl ?_
        exact t_X12_often_24   _ _  h
      · have h := (if_neg c8).symm.trans h
        refine J_aload_n 0 dX12_often_16 rfl ?_
        refine J_iload_n 2 dX12_often_17 rfl ?_
        obtain ⟨r9, σ10, h11, h⟩ := bd_inv h
        refine M_callVI (d' := 6) (k := 0) (As := [.int a2]) (st := []) cv_X12_202 dX12_often_18 rfl (by decide) rfl (Nat.le_of_ble_eq_true rfl) (Nat.le_of_ble_eq_true rfl) (by decide) n_0 k_0 rfl rfl (t_X12_see  h11) ?_
        refine J_if_ne (tgt := 26) dX12_often_21 (by decide) (fun c12 => ?_) (fun c12 => ?_)
        · have h := (if_neg c12).symm.trans h
          refine J_aload_n 0 dX12_often_26 rfl ?_
          refine M_getR gf_X12_62_11 dX12_often_27 (g_0_5 _) k_0 n_0 ?_
          obtain ⟨_, σ14, h15, h⟩ := bd_inv h
          refine M_callVV (d' := 3) (k := 322) (As := []) (st := []) cv_X12_362 dX12_often_30 rfl (by decide) rfl (Nat.le_of_ble_eq_true rfl) (Nat.le_of_ble_eq_true rfl) (by decide) n_322 k_322 rfl rfl (t_X1_countPlaces  h15) ?_
          refine J_aload_n 0 dX12_often_33 rfl ?_
          refine M_getR gf_X12_62_11 dX12_often_34 (g_0_5 _) k_0 n_0 ?_
          refine M_getR gf_X12_365_1 dX12_often_37 (g_322_2 _) k_322 n_322 ?_
          refine J_aload_n 0 dX12_often_40 rfl ?_
          refine M_getR gf_X12_19_11 dX12_often_41 (g_0_0 _) k_0 n_0 ?_
          refine M_getR gf_X12_205_0 dX12_often_44 (g_3_11 _) k_3 n_3 ?_
          refine J_iload_n 1 dX12_often_47 rfl ?_
          obtain ⟨g16, h⟩ := gd_inv h
          refine M_iald dX12_often_48 a_18 n_18 g16 ?_
          refine J_iconst (v := 5) dX12_often_49 (by decide) ?_
          refine J_imul dX12_often_50 ?_
          refine J_iload_n 3 dX12_often_51 rfl ?_
          refine J_iadd dX12_often_52 ?_
          obtain ⟨g17, h⟩ := gd_inv h
          refine M_iald dX12_often_53 a_323 n_323 g17 ?_
          exact J_ret (v := some (.int (rI σ14 323 (Int32.toNatClampNeg (((rI σ14 18 (Int32.toNatClampNeg a1)) * 5) + a3))))) rfl ⟨dX12_often_54, Or.inl rfl⟩ (jqI_mk h)
        · have h := (if_pos c12).symm.trans h
          refine J_pick [] rfl ?_
          exact t_X12_often_24   _ _  h
theorem dX12_rank_0 : decode cX12_rank 0 = .ok (.iload_n 2, 1) := by decide +kernel
theorem dX12_rank_1 : decode cX12_rank 1 = .ok (.ifCond .lt 11, 3) := by decide +kernel
theorem dX12_rank_4 : decode cX12_rank 4 = .ok (.aload_n 0, 1) := by decide +kernel
theorem dX12_rank_5 : decode cX12_rank 5 = .ok (.iload_n 1, 1) := by decide +kernel
theorem dX12_rank_6 : decode cX12_rank 6 = .ok (.invokevirtual 202, 3) := by decide +kernel
theorem dX12_rank_9 : decode cX12_rank 9 = .ok (.ifCond .ne 5, 3) := by decide +kernel
theorem dX12_rank_12 : decode cX12_rank 12 = .ok (.iconst (-1), 1) := by decide +kernel
theorem dX12_rank_13 : decode cX12_rank 13 = .ok (.ireturn, 1) := by decide +kernel
theorem dX12_rank_14 : decode cX12_rank 14 = .ok (.aload_n 0, 1) := by decide +kernel
theorem dX12_rank_15 : decode cX12_rank 15 = .ok (.getfield 62, 3) := by decide +kernel
theorem dX12_rank_18 : decode cX12_rank 18 = .ok (.invokevirtual 362, 3) := by decide +kernel
theorem dX12_rank_21 : decode cX12_rank 21 = .ok (.aload_n 0, 1) := by decide +kernel
theorem dX12_rank_22 : decode cX12_rank 22 = .ok (.getfield 62, 3) := by decide +kernel
theorem dX12_rank_25 : decode cX12_rank 25 = .ok (.iload_n 2, 1) := by decide +kernel
theorem dX12_rank_26 : decode cX12_rank 26 = .ok (.invokevirtual 368, 3) := by decide +kernel
theorem dX12_rank_29 : decode cX12_rank 29 = .ok (.ireturn, 1) := by decide +kernel
noncomputable def f_X12_rank_12   (σ : jM) : Option (Int32 × jM) :=
  some ((-1), σ)
noncomputable def f_X12_rank (a1 : Int32) (a2 : Int32) (σ : jM) : Option (Int32 × jM) :=
  (if a2 < 0 then f_X12_rank_12   σ else bd (f_X12_see a1 σ) (fun r2 σ3 => (if r2 = 0 then f_X12_rank_12   σ3 else bd (f_X1_countPlaces  σ3) (fun _ σ7 => bd (f_X1_signRanked a2 σ7) (fun r9 σ10 => some (r9, σ10))))))
set_option maxRecDepth 20000 in
set_option maxHeartbeats 4000000 in
theorem t_X12_rank_12   (σ : jM) (r : Int32 × jM)  (h : f_X12_rank_12   σ = some r) : J mi_X12_rank 7 0 0 (jqI r) 12 [] [] (ms σ) := by
  unfold f_X12_rank_12 at h
  refine J_iconst (v := (-1)) dX12_rank_12 (by decide) ?_
  exact J_ret (v := some (.int (-1))) rfl ⟨dX12_rank_13, Or.inl rfl⟩ (jqI_mk h)
set_option maxRecDepth 20000 in
set_option maxHeartbeats 4000000 in
theorem t_X12_rank {a1 : Int32} {a2 : Int32} {σ : jM} {r : Int32 × jM}  (h : f_X12_rank a1 a2 σ = some r) : J mi_X12_rank 7 0 0 (jqI r) 0 [(0, .ref 0), (1, .int a1), (2, .int a2)] [] (ms σ) := by
  unfold f_X12_rank at h
  refine J_iload_n 2 dX12_rank_0 rfl ?_
  refine J_if_lt (tgt := 12) dX12_rank_1 (by decide) (fun c1 => ?_) (fun c1 => ?_)
  · have h := (if_pos c1).symm.trans h
    refine J_pick [] rfl ?_
    exact t_X12_rank_12   _ _  h
  · have h := (if_neg c1).symm.trans h
    refine J_aload_n 0 dX12_rank_4 rfl ?_
    refine J_iload_n 1 dX12_rank_5 rfl ?_
    obtain ⟨r2, σ3, h4, h⟩ := bd_inv h
    refine M_callVI (d' := 6) (k := 0) (As := [.int a1]) (st := []) cv_X12_202 dX12_rank_6 rfl (by decide) rfl (Nat.le_of_ble_eq_true rfl) (Nat.le_of_ble_eq_true rfl) (by decide) n_0 k_0 rfl rfl (t_X12_see  h4) ?_
    refine J_if_ne (tgt := 14) dX12_rank_9 (by decide) (fun c5 => ?_) (fun c5 => ?_)
    · have h := (if_neg c5).symm.trans h
      refine J_aload_n 0 dX12_rank_14 rfl ?_
      refine M_getR gf_X12_62_11 dX12_rank_15 (g_0_5 _) k_0 n_0 ?_
      obtain ⟨_, σ7, h8, h⟩ := bd_inv h
      refine M_callVV (d' := 3) (k := 322) (As := []) (st := []) cv_X12_362 dX12_rank_18 rfl (by decide) rfl (Nat.le_of_ble_eq_true rfl) (Nat.le_of_ble_eq_true rfl) (by decide) n_322 k_322 rfl rfl (t_X1_countPlaces  h8) ?_
      refine J_aload_n 0 dX12_rank_21 rfl ?_
      refine M_getR gf_X12_62_11 dX12_rank_22 (g_0_5 _) k_0 n_0 ?_
      refine J_iload_n 2 dX12_rank_25 rfl ?_
      obtain ⟨r9, σ10, h11, h⟩ := bd_inv h
      refine M_callVI (d' := 3) (k := 322) (As := [.int a2]) (st := []) cv_X12_368 dX12_rank_26 rfl (by decide) rfl (Nat.le_of_ble_eq_true rfl) (Nat.le_of_ble_eq_true rfl) (by decide) n_322 k_322 rfl rfl (t_X1_signRanked  h11) ?_
      exact J_ret (v := some (.int r9)) rfl ⟨dX12_rank_29, Or.inl rfl⟩ (jqI_mk h)
    · have h := (if_pos c5).symm.trans h
      refine J_pick [] rfl ?_
      exact t_X12_rank_12   _ _  h
theorem dX12_seeGrid_0 : decode cX12_seeGrid 0 = .ok (.aload_n 0, 1) := by decide +kernel
theorem dX12_seeGrid_1 : decode cX12_seeGrid 1 = .ok (.iload_n 1, 1) := by decide +kernel
theorem dX12_seeGrid_2 : decode cX12_seeGrid 2 = .ok (.invokevirtual 202, 3) := by decide +kernel
theorem dX12_seeGrid_5 : decode cX12_seeGrid 5 = .ok (.ifCond .ne 5, 3) := by decide +kernel
theorem dX12_seeGrid_8 : decode cX12_seeGrid 8 = .ok (.iconst 0, 1) := by decide +kernel
theorem dX12_seeGrid_9 : decode cX12_seeGrid 9 = .ok (.ireturn, 1) := by decide +kernel
theorem dX12_seeGrid_10 : decode cX12_seeGrid 10 = .ok (.aload_n 0, 1) := by decide +kernel
theorem dX12_seeGrid_11 : decode cX12_seeGrid 11 = .ok (.getfield 35, 3) := by decide +kernel
theorem dX12_seeGrid_14 : decode cX12_seeGrid 14 = .ok (.invokevirtual 390, 3) := by decide +kernel
theorem dX12_seeGrid_17 : decode cX12_seeGrid 17 = .ok (.iconst 1, 1) := by decide +kernel
theorem dX12_seeGrid_18 : decode cX12_seeGrid 18 = .ok (.ireturn, 1) := by decide +kernel
noncomputable def f_X12_seeGrid (a1 : Int32) (σ : jM) : Option (Int32 × jM) :=
  bd (f_X12_see a1 σ) (fun r1 σ2 => (if r1 = 0 then some (0, σ2) else bd (f_X4_make  σ2) (fun _ σ6 => some (1, σ6))))
set_option maxRecDepth 20000 in
set_option maxHeartbeats 4000000 in
theorem t_X12_seeGrid {a1 : Int32} {σ : jM} {r : Int32 × jM}  (h : f_X12_seeGrid a1 σ = some r) : J mi_X12_seeGrid 7 0 0 (jqI r) 0 [(0, .ref 0), (1, .int a1)] [] (ms σ) := by
  unfold f_X12_seeGrid at h
  refine J_aload_n 0 dX12_seeGrid_0 rfl ?_
  refine J_iload_n 1 dX12_seeGrid_1 rfl ?_
  obtain ⟨r1, σ2, h3, h⟩ := bd_inv h
  refine M_callVI (d' := 6) (k := 0) (As := [.int a1]) (st := []) cv_X12_202 dX12_seeGrid_2 rfl (by decide) rfl (Nat.le_of_ble_eq_true rfl) (Nat.le_of_ble_eq_true rfl) (by decide) n_0 k_0 rfl rfl (t_X12_see  h3) ?_
  refine J_if_ne (tgt := 10) dX12_seeGrid_5 (by decide) (fun c4 => ?_) (fun c4 => ?_)
  · have h := (if_neg c4).symm.trans h
    refine J_aload_n 0 dX12_seeGrid_10 rfl ?_
    refine M_getR gf_X12_35_11 dX12_seeGrid_11 (g_0_2 _) k_0 n_0 ?_
    obtain ⟨_, σ6, h7, h⟩ := bd_inv h
    refine M_callVV (d' := 5) (k := 264) (As := []) (st := []) cv_X12_390 dX12_seeGrid_14 rfl (by decide) rfl (Nat.le_of_ble_eq_true rfl) (Nat.le_of_ble_eq_true rfl) (by decide) n_264 k_264 rfl rfl (t_X4_make  h7) ?_
    refine J_iconst (v := 1) dX12_seeGrid_17 (by decide) ?_
    exact J_ret (v := some (.int 1)) rfl ⟨dX12_seeGrid_18, Or.inr (Or.inl ⟨rfl, Or.inr rfl⟩)⟩ (jqI_mk h)
  · have h := (if_pos c4).symm.trans h
    refine J_iconst (v := 0) dX12_seeGrid_8 (by decide) ?_
    exact J_ret (v := some (.int 0)) rfl ⟨dX12_seeGrid_9, Or.inr (Or.inl ⟨rfl, Or.inl rfl⟩)⟩ (jqI_mk h)
theorem dX8_tallyWays_0 : decode cX8_tallyWays 0 = .ok (.aload_n 0, 1) := by decide +kernel
theorem dX8_tallyWays_1 : decode cX8_tallyWays 1 = .ok (.iconst 0, 1) := by decide +kernel
theorem dX8_tallyWays_2 : decode cX8_tallyWays 2 = .ok (.invokevirtual 94, 3) := by decide +kernel
theorem dX8_tallyWays_5 : decode cX8_tallyWays 5 = .ok (.aload_n 0, 1) := by decide +kernel
theorem dX8_tallyWays_6 : decode cX8_tallyWays 6 = .ok (.invokevirtual 98, 3) := by decide +kernel
theorem dX8_tallyWays_9 : decode cX8_tallyWays 9 = .ok (.aload_n 0, 1) := by decide +kernel
theorem dX8_tallyWays_10 : decode cX8_tallyWays 10 = .ok (.getfield 9, 3) := by decide +kernel
theorem dX8_tallyWays_13 : decode cX8_tallyWays 13 = .ok (.iconst 0, 1) := by decide +kernel
theorem dX8_tallyWays_14 : decode cX8_tallyWays 14 = .ok (.invokestatic 101, 3) := by decide +kernel
theorem dX8_tallyWays_17 : decode cX8_tallyWays 17 = .ok (.aload_n 0, 1) := by decide +kernel
theorem dX8_tallyWays_18 : decode cX8_tallyWays 18 = .ok (.lconst 0, 1) := by decide +kernel
theorem dX8_tallyWays_19 : decode cX8_tallyWays 19 = .ok (.putfield 107, 3) := by decide +kernel
theorem dX8_tallyWays_22 : decode cX8_tallyWays 22 = .ok (.aload_n 0, 1) := by decide +kernel
theorem dX8_tallyWays_23 : decode cX8_tallyWays 23 = .ok (.iconst 1, 1) := by decide +kernel
theorem dX8_tallyWays_24 : decode cX8_tallyWays 24 = .ok (.putfield 111, 3) := by decide +kernel
theorem dX8_tallyWays_27 : decode cX8_tallyWays 27 = .ok (.aload_n 0, 1) := by decide +kernel
theorem dX8_tallyWays_28 : decode cX8_tallyWays 28 = .ok (.ldc 115, 2) := by decide +kernel
theorem dX8_tallyWays_30 : decode cX8_tallyWays 30 = .ok (.invokevirtual 116, 3) := by decide +kernel
theorem dX8_tallyWays_33 : decode cX8_tallyWays 33 = .ok (.pop, 1) := by decide +kernel
theorem dX8_tallyWays_34 : decode cX8_tallyWays 34 = .ok (.aload_n 0, 1) := by decide +kernel
theorem dX8_tallyWays_35 : decode cX8_tallyWays 35 = .ok (.iconst 0, 1) := by decide +kernel
theorem dX8_tallyWays_36 : decode cX8_tallyWays 36 = .ok (.putfield 111, 3) := by decide +kernel
theorem dX8_tallyWays_39 : decode cX8_tallyWays 39 = .ok (.aload_n 0, 1) := by decide +kernel
theorem dX8_tallyWays_40 : decode cX8_tallyWays 40 = .ok (.getfield 119, 3) := by decide +kernel
theorem dX8_tallyWays_43 : decode cX8_tallyWays 43 = .ok (.ireturn, 1) := by decide +kernel
noncomputable def f_X8_tallyWays  (σ : jM) : Option (Int32 × jM) :=
  bd (f_X8_seatNames 0 σ) (fun _ σ2 => bd (f_X8_clearCells  σ2) (fun _ σ5 => bd (f_J7_fill_53178 297 0 σ5) (fun _ σ8 => bd (f_X8_layAll 2147483647 (wI (wL σ8 296 1 0) 296 18 1)) (fun r10 σ11 => some ((rI (wI σ11 296 18 0) 296 16), wI σ11 296 18 0)))))
set_option maxRecDepth 20000 in
set_option maxHeartbeats 4000000 in
theorem t_X8_tallyWays  {σ : jM} {r : Int32 × jM}  (h : f_X8_tallyWays  σ = some r) : J mi_X8_tallyWays 15 0 0 (jqI r) 0 [(0, .ref 296)] [] (ms σ) := by
  unfold f_X8_tallyWays at h
  refine J_aload_n 0 dX8_tallyWays_0 rfl ?_
  refine J_iconst (v := 0) dX8_tallyWays_1 (by decide) ?_
  obtain ⟨_, σ2, h3, h⟩ := bd_inv h
  refine M_callVV (d' := 4) (k := 296) (As := [.int 0]) (st := []) cv_X8_94 dX8_tallyWays_2 rfl (by decide) rfl (Nat.le_of_ble_eq_true rfl) (Nat.le_of_ble_eq_true rfl) (by decide) n_296 k_296 rfl rfl (t_X8_seatNames  h3) ?_
  refine J_aload_n 0 dX8_tallyWays_5 rfl ?_
  obtain ⟨_, σ5, h6, h⟩ := bd_inv h
  refine M_callVV (d' := 2) (k := 296) (As := []) (st := []) cv_X8_98 dX8_tallyWays_6 rfl (by decide) rfl (Nat.le_of_ble_eq_true rfl) (Nat.le_of_ble_eq_true rfl) (by decide) n_296 k_296 rfl rfl (t_X8_clearCells  h6) ?_
  refine J_aload_n 0 dX8_tallyWays_9 rfl ?_
  refine M_getR gf_X8_9_7 dX8_tallyWays_10 (g_296_0 _) k_296 n_296 ?_
  refine J_iconst (v := 0) dX8_tallyWays_13 (by decide) ?_
  obtain ⟨_, σ8, h9, h⟩ := bd_inv h
  refine M_callSV (d' := 1) (As := [.ref 297, .int 0]) (st := []) cs_X8_101 dX8_tallyWays_14 rfl (Nat.le_of_ble_eq_true rfl) (Nat.le_of_ble_eq_true rfl) (by decide) rfl rfl (t_J7_fill_53178 ⟨congrArg Prod.fst a_297, n_297⟩ h9) ?_
  refine J_aload_n 0 dX8_tallyWays_17 rfl ?_
  refine J_lconst (v := 0) dX8_tallyWays_18 (by decide) ?_
  refine M_putL pf_X8_107_7 dX8_tallyWays_19 k_296 n_296 ?_
  refine J_aload_n 0 dX8_tallyWays_22 rfl ?_
  refine J_iconst (v := 1) dX8_tallyWays_23 (by decide) ?_
  refine M_putI pf_X8_111_7 dX8_tallyWays_24 k_296 n_296 (jbool (Or.inr rfl)) ?_
  refine J_aload_n 0 dX8_tallyWays_27 rfl ?_
  refine J_ldc dX8_tallyWays_28 ct_X8_115 ?_
  obtain ⟨r10, σ11, h12, h⟩ := bd_inv h
  refine M_callVI (d' := 14) (k := 296) (As := [.int 2147483647]) (st := []) cv_X8_116 dX8_tallyWays_30 rfl (by decide) rfl (Nat.le_of_ble_eq_true rfl) (Nat.le_of_ble_eq_true rfl) (by decide) n_296 k_296 rfl rfl (t_X8_layAll  h12) ?_
  refine J_pop dX8_tallyWays_33 rfl ?_
  refine J_aload_n 0 dX8_tallyWays_34 rfl ?_
  refine J_iconst (v := 0) dX8_tallyWays_35 (by decide) ?_
  refine M_putI pf_X8_111_7 dX8_tallyWays_36 k_296 n_296 (jbool (Or.inl rfl)) ?_
  refine J_aload_n 0 dX8_tallyWays_39 rfl ?_
  refine M_getI gf_X8_119_7 dX8_tallyWays_40 k_296 n_296 ?_
  exact J_ret (v := some (.int (rI (wI σ11 296 18 0) 296 16))) rfl ⟨dX8_tallyWays_43, Or.inl rfl⟩ (jqI_mk h)
theorem dX8_findWay_0 : decode cX8_findWay 0 = .ok (.aload_n 0, 1) := by decide +kernel
theorem dX8_findWay_1 : decode cX8_findWay 1 = .ok (.iconst 0, 1) := by decide +kernel
theorem dX8_findWay_2 : decode cX8_findWay 2 = .ok (.invokevirtual 94, 3) := by decide +kernel
theorem dX8_findWay_5 : decode cX8_findWay 5 = .ok (.aload_n 0, 1) := by decide +kernel
theorem dX8_findWay_6 : decode cX8_findWay 6 = .ok (.invokevirtual 98, 3) := by decide +kernel
theorem dX8_findWay_9 : decode cX8_findWay 9 = .ok (.iload_n 1, 1) := by decide +kernel
theorem dX8_findWay_10 : decode cX8_findWay 10 = .ok (.ldc 115, 2) := by decide +kernel
theorem dX8_findWay_12 : decode cX8_findWay 12 = .ok (.if_icmp .ge 17, 3) := by decide +kernel
theorem dX8_findWay_15 : decode cX8_findWay 15 = .ok (.aload_n 0, 1) := by decide +kernel
theorem dX8_findWay_16 : decode cX8_findWay 16 = .ok (.iload_n 1, 1) := by decide +kernel
theorem dX8_findWay_17 : decode cX8_findWay 17 = .ok (.iconst 1, 1) := by decide +kernel
theorem dX8_findWay_18 : decode cX8_findWay 18 = .ok (.iadd, 1) := by decide +kernel
theorem dX8_findWay_19 : decode cX8_findWay 19 = .ok (.invokevirtual 116, 3) := by decide +kernel
theorem dX8_findWay_22 : decode cX8_findWay 22 = .ok (.ifCond .eq 7, 3) := by decide +kernel
theorem dX8_findWay_25 : decode cX8_findWay 25 = .ok (.iconst 1, 1) := by decide +kernel
theorem dX8_findWay_26 : decode cX8_findWay 26 = .ok (.goto 4, 3) := by decide +kernel
theorem dX8_findWay_29 : decode cX8_findWay 29 = .ok (.iconst 0, 1) := by decide +kernel
theorem dX8_findWay_30 : decode cX8_findWay 30 = .ok (.ireturn, 1) := by decide +kernel
noncomputable def f_X8_findWay_30  (s0 : Int32) (σ : jM) : Option (Int32 × jM) :=
  gd (s0 = 0 ∨ s0 = 1) (some (s0, σ))
noncomputable def f_X8_findWay_29   (σ : jM) : Option (Int32 × jM) :=
  f_X8_findWay_30  0 σ
noncomputable def f_X8_findWay (a1 : Int32) (σ : jM) : Option (Int32 × jM) :=
  bd (f_X8_seatNames 0 σ) (fun _ σ4 => bd (f_X8_clearCells  σ4) (fun _ σ7 => (if 2147483647 ≤ a1 then f_X8_findWay_29   σ7 else bd (f_X8_layAll (a1 + 1) σ7) (fun r10 σ11 => (if r10 = 0 then f_X8_findWay_29   σ11 else f_X8_findWay_30  1 σ11)))))
set_option maxRecDepth 20000 in
set_option maxHeartbeats 4000000 in
theorem t_X8_findWay_30  (s0 : Int32) (σ : jM) (r : Int32 × jM)  (h : f_X8_findWay_30  s0 σ = some r) : J mi_X8_findWay 15 0 0 (jqI r) 30 [] [.int s0] (ms σ) := by
  unfold f_X8_findWay_30 at h
  obtain ⟨g2, h⟩ := gd_inv h
  exact J_ret (v := some (.int s0)) rfl ⟨dX8_findWay_30, Or.inr (Or.inl ⟨rfl, g2⟩)⟩ (jqI_mk h)
set_option maxRecDepth 20000 in
set_option maxHeartbeats 4000000 in
theorem t_X8_findWay_29   (σ : jM) (r : Int32 × jM)  (h : f_X8_findWay_29   σ = some r) : J mi_X8_findWay 15 0 0 (jqI r) 29 [] [] (ms σ) := by
  unfold f_X8_findWay_29 at h
  refine J_iconst (v := 0) dX8_findWay_29 (by decide) ?_
  exact t_X8_findWay_30  _ _ _  h
set_option maxRecDepth 20000 in
set_option maxHeartbeats 4000000 in
theorem t_X8_findWay {a1 : Int32} {σ : jM} {r : Int32 × jM}  (h : f_X8_findWay a1 σ = some r) : J mi_X8_findWay 15 0 0 (jqI r) 0 [(0, .ref 296), (1, .int a1)] [] (ms σ) := by
  unfold f_X8_findWay at h
  refine J_aload_n 0 dX8_findWay_0 rfl ?_
  refine J_iconst (v := 0) dX8_findWay_1 (by decide) ?_
  obtain ⟨_, σ4, h5, h⟩ := bd_inv h
  refine M_callVV (d' := 4) (k := 296) (As := [.int 0]) (st := []) cv_X8_94 dX8_findWay_2 rfl (by decide) rfl (Nat.le_of_ble_eq_true rfl) (Nat.le_of_ble_eq_true rfl) (by decide) n_296 k_296 rfl rfl (t_X8_seatNames  h5) ?_
  refine J_aload_n 0 dX8_findWay_5 rfl ?_
  obtain ⟨_, σ7, h8, h⟩ := bd_inv h
  refine M_callVV (d' := 2) (k := 296) (As := []) (st := []) cv_X8_98 dX8_findWay_6 rfl (by decide) rfl (Nat.le_of_ble_eq_true rfl) (Nat.le_of_ble_eq_true rfl) (by decide) n_296 k_296 rfl rfl (t_X8_clearCells  h8) ?_
  refine J_iload_n 1 dX8_findWay_9 rfl ?_
  refine J_ldc dX8_findWay_10 ct_X8_115 ?_
  refine J_icmp_ge (tgt := 29) dX8_findWay_12 (by decide) (fun c9 => ?_) (fun c9 => ?_)
  · have h := (if_pos c9).symm.trans h
    refine J_pick [] rfl ?_
    exact t_X8_findWay_29   _ _  h
  · have h := (if_neg c9).symm.trans h
    refine J_aload_n 0 dX8_findWay_15 rfl ?_
    refine J_iload_n 1 dX8_findWay_16 rfl ?_
    refine J_iconst (v := 1) dX8_findWay_17 (by decide) ?_
    refine J_iadd dX8_findWay_18 ?_
    obtain ⟨r10, σ11, h12, h⟩ := bd_inv h
    refine M_callVI (d' := 14) (k := 296) (As := [.int (a1 + 1)]) (st := []) cv_X8_116 dX8_findWay_19 rfl (by decide) rfl (Nat.le_of_ble_eq_true rfl) (Nat.le_of_ble_eq_true rfl) (by decide) n_296 k_296 rfl rfl (t_X8_layAll  h12) ?_
    refine J_if_eq (tgt := 29) dX8_findWay_22 (by decide) (fun c13 => ?_) (fun c13 => ?_)
    · have h := (if_pos c13).symm.trans h
      refine J_pick [] rfl ?_
      exact t_X8_findWay_29   _ _  h
    · have h := (if_neg c13).symm.trans h
      refine J_iconst (v := 1) dX8_findWay_25 (by decide) ?_
      refine J_goto (tgt := 30) dX8_findWay_26 (by decide) ?_
      refine J_pick [] rfl ?_
      exact t_X8_findWay_30  _ _ _  h
theorem dX8_hasWayWithout_0 : decode cX8_hasWayWithout 0 = .ok (.aload_n 0, 1) := by decide +kernel
theorem dX8_hasWayWithout_1 : decode cX8_hasWayWithout 1 = .ok (.iload_n 1, 1) := by decide +kernel
theorem dX8_hasWayWithout_2 : decode cX8_hasWayWithout 2 = .ok (.invokevirtual 94, 3) := by decide +kernel
theorem dX8_hasWayWithout_5 : decode cX8_hasWayWithout 5 = .ok (.aload_n 0, 1) := by decide +kernel
theorem dX8_hasWayWithout_6 : decode cX8_hasWayWithout 6 = .ok (.invokevirtual 98, 3) := by decide +kernel
theorem dX8_hasWayWithout_9 : decode cX8_hasWayWithout 9 = .ok (.aload_n 0, 1) := by decide +kernel
theorem dX8_hasWayWithout_10 : decode cX8_hasWayWithout 10 = .ok (.iconst 1, 1) := by decide +kernel
theorem dX8_hasWayWithout_11 : decode cX8_hasWayWithout 11 = .ok (.invokevirtual 116, 3) := by decide +kernel
theorem dX8_hasWayWithout_14 : decode cX8_hasWayWithout 14 = .ok (.ireturn, 1) := by decide +kernel
noncomputable def f_X8_hasWayWithout (a1 : Int32) (σ : jM) : Option (Int32 × jM) :=
  bd (f_X8_seatNames a1 σ) (fun _ σ2 => bd (f_X8_clearCells  σ2) (fun _ σ5 => bd (f_X8_layAll 1 σ5) (fun r7 σ8 => gd (r7 = 0 ∨ r7 = 1) (some (r7, σ8)))))
set_option maxRecDepth 20000 in
set_option maxHeartbeats 4000000 in
theorem t_X8_hasWayWithout {a1 : Int32} {σ : jM} {r : Int32 × jM}  (h : f_X8_hasWayWithout a1 σ = some r) : J mi_X8_hasWayWithout 15 0 0 (jqI r) 0 [(0, .ref 296), (1, .int a1)] [] (ms σ) := by
  unfold f_X8_hasWayWithout at h
  refine J_aload_n 0 dX8_hasWayWithout_0 rfl ?_
  refine J_iload_n 1 dX8_hasWayWithout_1 rfl ?_
  obtain ⟨_, σ2, h3, h⟩ := bd_inv h
  refine M_callVV (d' := 4) (k := 296) (As := [.int a1]) (st := []) cv_X8_94 dX8_hasWayWithout_2 rfl (by decide) rfl (Nat.le_of_ble_eq_true rfl) (Nat.le_of_ble_eq_true rfl) (by decide) n_296 k_296 rfl rfl (t_X8_seatNames  h3) ?_
  refine J_aload_n 0 dX8_hasWayWithout_5 rfl ?_
  obtain ⟨_, σ5, h6, h⟩ := bd_inv h
  refine M_callVV (d' := 2) (k := 296) (As := []) (st := []) cv_X8_98 dX8_hasWayWithout_6 rfl (by decide) rfl (Nat.le_of_ble_eq_true rfl) (Nat.le_of_ble_eq_true rfl) (by decide) n_296 k_296 rfl rfl (t_X8_clearCells  h6) ?_
  refine J_aload_n 0 dX8_hasWayWithout_9 rfl ?_
  refine J_iconst (v := 1) dX8_hasWayWithout_10 (by decide) ?_
  obtain ⟨r7, σ8, h9, h⟩ := bd_inv h
  refine M_callVI (d' := 14) (k := 296) (As := [.int 1]) (st := []) cv_X8_116 dX8_hasWayWithout_11 rfl (by decide) rfl (Nat.le_of_ble_eq_true rfl) (Nat.le_of_ble_eq_true rfl) (by decide) n_296 k_296 rfl rfl (t_X8_layAll  h9) ?_
  obtain ⟨g10, h⟩ := gd_inv h
  exact J_ret (v := some (.int r7)) rfl ⟨dX8_hasWayWithout_14, Or.inr (Or.inl ⟨rfl, g10⟩)⟩ (jqI_mk h)
