theorem dX4_gatherRows_0 : decode cX4_gatherRows 0 = .ok (.aload_n 0, 1) := by decide +kernel
theorem dX4_gatherRows_1 : decode cX4_gatherRows 1 = .ok (.iconst 0, 1) := by decide +kernel
theorem dX4_gatherRows_2 : decode cX4_gatherRows 2 = .ok (.putfield 68, 3) := by decide +kernel
theorem dX4_gatherRows_5 : decode cX4_gatherRows 5 = .ok (.iconst 0, 1) := by decide +kernel
theorem dX4_gatherRows_6 : decode cX4_gatherRows 6 = .ok (.istore_n 1, 1) := by decide +kernel
theorem dX4_gatherRows_7 : decode cX4_gatherRows 7 = .ok (.iload_n 1, 1) := by decide +kernel
theorem dX4_gatherRows_8 : decode cX4_gatherRows 8 = .ok (.aload_n 0, 1) := by decide +kernel
theorem dX4_gatherRows_9 : decode cX4_gatherRows 9 = .ok (.getfield 35, 3) := by decide +kernel
theorem dX4_gatherRows_12 : decode cX4_gatherRows 12 = .ok (.getfield 72, 3) := by decide +kernel
theorem dX4_gatherRows_15 : decode cX4_gatherRows 15 = .ok (.if_icmp .ge 33, 3) := by decide +kernel
theorem dX4_gatherRows_18 : decode cX4_gatherRows 18 = .ok (.aload_n 0, 1) := by decide +kernel
theorem dX4_gatherRows_19 : decode cX4_gatherRows 19 = .ok (.getfield 35, 3) := by decide +kernel
theorem dX4_gatherRows_22 : decode cX4_gatherRows 22 = .ok (.iload_n 1, 1) := by decide +kernel
theorem dX4_gatherRows_23 : decode cX4_gatherRows 23 = .ok (.invokevirtual 77, 3) := by decide +kernel
theorem dX4_gatherRows_26 : decode cX4_gatherRows 26 = .ok (.ifCond .eq 16, 3) := by decide +kernel
theorem dX4_gatherRows_29 : decode cX4_gatherRows 29 = .ok (.aload_n 0, 1) := by decide +kernel
theorem dX4_gatherRows_30 : decode cX4_gatherRows 30 = .ok (.aload_n 0, 1) := by decide +kernel
theorem dX4_gatherRows_31 : decode cX4_gatherRows 31 = .ok (.getfield 35, 3) := by decide +kernel
theorem dX4_gatherRows_34 : decode cX4_gatherRows 34 = .ok (.getfield 81, 3) := by decide +kernel
theorem dX4_gatherRows_37 : decode cX4_gatherRows 37 = .ok (.iload_n 1, 1) := by decide +kernel
theorem dX4_gatherRows_38 : decode cX4_gatherRows 38 = .ok (.aaload, 1) := by decide +kernel
theorem dX4_gatherRows_39 : decode cX4_gatherRows 39 = .ok (.invokevirtual 85, 3) := by decide +kernel
theorem dX4_gatherRows_42 : decode cX4_gatherRows 42 = .ok (.iinc 1 1, 3) := by decide +kernel
theorem dX4_gatherRows_45 : decode cX4_gatherRows 45 = .ok (.goto (-38), 3) := by decide +kernel
theorem dX4_gatherRows_48 : decode cX4_gatherRows 48 = .ok (.return_, 1) := by decide +kernel
noncomputable def f_X4_gatherRows_42 (rec7 : Int32 → jM → Option (Unit × jM)) (l1 : Int32) (σ : jM) : Option (Unit × jM) :=
  rec7 (l1 + 1) σ
noncomputable def s_X4_gatherRows_7  (rec7 : Int32 → jM → Option (Unit × jM)) (l1 : Int32) (σ : jM) : Option (Unit × jM) :=
  (if (rI σ 3 2) ≤ l1 then some ((), σ) else bd (f_X0_tabletCounts l1 σ) (fun r3 σ4 => (if r3 = 0 then f_X4_gatherRows_42 rec7 l1 σ4 else gd (inb l1 24) (bd (f_X4_gatherRowsOf (Int32.toNatClampNeg l1) σ4) (fun _ σ9 => f_X4_gatherRows_42 rec7 l1 σ9)))))
noncomputable def f_X4_gatherRows_7  (n : Nat) : Int32 → jM → Option (Unit × jM) := Nat.rec (motive := fun _ => Int32 → jM → Option (Unit × jM)) (fun _ _ => none) (fun _ q => s_X4_gatherRows_7  q) n
noncomputable def f_X4_gatherRows  (σ : jM) : Option (Unit × jM) :=
  f_X4_gatherRows_7  Fu 0 (wI σ 264 8 0)
set_option maxRecDepth 20000 in
set_option maxHeartbeats 4000000 in
theorem t_X4_gatherRows_42 {rec7 : Int32 → jM → Option (Unit × jM)} (hrec7 : ∀ (l1 : Int32) (σ : jM) (r : Unit × jM), rec7 l1 σ = some r → J mi_X4_gatherRows 4 0 0 (jqV r) 7 [(0, .ref 264), (1, .int l1)] [] (ms σ)) (l1 : Int32) (σ : jM) (r : Unit × jM)  (h : f_X4_gatherRows_42 rec7 l1 σ = some r) : J mi_X4_gatherRows 4 0 0 (jqV r) 42 [(0, .ref 264), (1, .int l1)] [] (ms σ) := by
  unfold f_X4_gatherRows_42 at h
  refine J_iinc (v := (l1 + 1)) (ls' := [(1, .int (l1 + 1)), (0, .ref 264)]) 1 dX4_gatherRows_42 rfl rfl (by decide) rfl ?_
  refine J_goto (tgt := 7) dX4_gatherRows_45 (by decide) ?_
  refine J_pick [1, 0] rfl ?_
  exact hrec7 _ _ _  h
set_option maxRecDepth 20000 in
set_option maxHeartbeats 4000000 in
theorem t_X4_gatherRows_7  : ∀ (n : Nat) (l1 : Int32) (σ : jM) (r : Unit × jM), f_X4_gatherRows_7  n l1 σ = some r → J mi_X4_gatherRows 4 0 0 (jqV r) 7 [(0, .ref 264), (1, .int l1)] [] (ms σ) := by
  intro n
  induction n with
  | zero =>
    intro l1 σ r  h
    have h : (none : Option (Unit × jM)) = some r := h
    cases h
  | succ n ih =>
    intro l1 σ r  h
    have h : s_X4_gatherRows_7  (f_X4_gatherRows_7  n) l1 σ = some r := h
    unfold s_X4_gatherRows_7 at h
    refine J_iload_n 1 dX4_gatherRows_7 rfl ?_
    refine J_aload_n 0 dX4_gatherRows_8 rfl ?_
    refine M_getR gf_X4_35_3 dX4_gatherRows_9 (g_264_5 _) k_264 n_264 ?_
    refine M_getI gf_X4_72_0 dX4_gatherRows_12 k_3 n_3 ?_
    refine J_icmp_ge (tgt := 48) dX4_gatherRows_15 (by decide) (fun c11 => ?_) (fun c11 => ?_)
    · have h := (if_pos c11).symm.trans h
      exact J_ret (v := none) rfl ⟨dX4_gatherRows_48, rfl⟩ (jqV_mk h)
    · have h := (if_neg c11).symm.trans h
      refine J_aload_n 0 dX4_gatherRows_18 rfl ?_
      refine M_getR gf_X4_35_3 dX4_gatherRows_19 (g_264_5 _) k_264 n_264 ?_
      refine J_iload_n 1 dX4_gatherRows_22 rfl ?_
      obtain ⟨r12, σ13, h14, h⟩ := bd_inv h
      refine M_callVI (d' := 2) (k := 3) (As := [.int l1]) (st := []) cv_X4_77 dX4_gatherRows_23 rfl (by decide) rfl (Nat.le_of_ble_eq_true rfl) (Nat.le_of_ble_eq_true rfl) (by decide) n_3 k_3 rfl rfl (t_X0_tabletCounts  h14) ?_
      refine J_if_eq (tgt := 42) dX4_gatherRows_26 (by decide) (fun c15 => ?_) (fun c15 => ?_)
      · have h := (if_pos c15).symm.trans h
        exact t_X4_gatherRows_42 ih _ _ _  h
      · have h := (if_neg c15).symm.trans h
        refine J_aload_n 0 dX4_gatherRows_29 rfl ?_
        refine J_aload_n 0 dX4_gatherRows_30 rfl ?_
        refine M_getR gf_X4_35_3 dX4_gatherRows_31 (g_264_5 _) k_264 n_264 ?_
        refine M_getR gf_X4_81_0 dX4_gatherRows_34 (g_3_1 _) k_3 n_3 ?_
        refine J_iload_n 1 dX4_gatherRows_37 rfl ?_
        obtain ⟨g16, h⟩ := gd_inv h
        refine M_aald dX4_gatherRows_38 a_4 (by decide) n_4 g16 (r_tab _ g16.2) ?_
        obtain ⟨_, σ18, h19, h⟩ := bd_inv h
        refine M_callVV (d' := 3) (k := 264) (As := [.ref (tabX (Int32.toNatClampNeg l1))]) (st := []) cv_X4_85 dX4_gatherRows_39 rfl (by decide) rfl (Nat.le_of_ble_eq_true rfl) (Nat.le_of_ble_eq_true rfl) (by decide) n_264 k_264 rfl rfl (t_X4_gatherRowsOf g16.2 h19) ?_
        exact t_X4_gatherRows_42 ih _ _ _  h
set_option maxRecDepth 20000 in
set_option maxHeartbeats 4000000 in
theorem t_X4_gatherRows  {σ : jM} {r : Unit × jM}  (h : f_X4_gatherRows  σ = some r) : J mi_X4_gatherRows 4 0 0 (jqV r) 0 [(0, .ref 264)] [] (ms σ) := by
  unfold f_X4_gatherRows at h
  refine J_aload_n 0 dX4_gatherRows_0 rfl ?_
  refine J_iconst (v := 0) dX4_gatherRows_1 (by decide) ?_
  refine M_putI pf_X4_68_3 dX4_gatherRows_2 k_264 n_264 ⟨rfl, rfl⟩ ?_
  refine J_iconst (v := 0) dX4_gatherRows_5 (by decide) ?_
  refine J_istore_n (i := 1) (ls' := [(1, .int 0), (0, .ref 264)]) dX4_gatherRows_6 rfl (by decide) rfl ?_
  refine J_pick [1, 0] rfl ?_
  exact t_X4_gatherRows_7  _ _ _ _  h
theorem dX4_linkByClauses_0 : decode cX4_linkByClauses 0 = .ok (.iconst 0, 1) := by decide +kernel
theorem dX4_linkByClauses_1 : decode cX4_linkByClauses 1 = .ok (.istore_n 1, 1) := by decide +kernel
theorem dX4_linkByClauses_2 : decode cX4_linkByClauses 2 = .ok (.iload_n 1, 1) := by decide +kernel
theorem dX4_linkByClauses_3 : decode cX4_linkByClauses 3 = .ok (.aload_n 0, 1) := by decide +kernel
theorem dX4_linkByClauses_4 : decode cX4_linkByClauses 4 = .ok (.getfield 35, 3) := by decide +kernel
theorem dX4_linkByClauses_7 : decode cX4_linkByClauses 7 = .ok (.getfield 110, 3) := by decide +kernel
theorem dX4_linkByClauses_10 : decode cX4_linkByClauses 10 = .ok (.getfield 114, 3) := by decide +kernel
theorem dX4_linkByClauses_13 : decode cX4_linkByClauses 13 = .ok (.if_icmp .ge 19, 3) := by decide +kernel
theorem dX4_linkByClauses_16 : decode cX4_linkByClauses 16 = .ok (.aload_n 0, 1) := by decide +kernel
theorem dX4_linkByClauses_17 : decode cX4_linkByClauses 17 = .ok (.getfield 11, 3) := by decide +kernel
theorem dX4_linkByClauses_20 : decode cX4_linkByClauses 20 = .ok (.iload_n 1, 1) := by decide +kernel
theorem dX4_linkByClauses_21 : decode cX4_linkByClauses 21 = .ok (.aaload, 1) := by decide +kernel
theorem dX4_linkByClauses_22 : decode cX4_linkByClauses 22 = .ok (.iconst 0, 1) := by decide +kernel
theorem dX4_linkByClauses_23 : decode cX4_linkByClauses 23 = .ok (.invokestatic 119, 3) := by decide +kernel
theorem dX4_linkByClauses_26 : decode cX4_linkByClauses 26 = .ok (.iinc 1 1, 3) := by decide +kernel
theorem dX4_linkByClauses_29 : decode cX4_linkByClauses 29 = .ok (.goto (-27), 3) := by decide +kernel
theorem dX4_linkByClauses_32 : decode cX4_linkByClauses 32 = .ok (.iconst 0, 1) := by decide +kernel
theorem dX4_linkByClauses_33 : decode cX4_linkByClauses 33 = .ok (.istore_n 1, 1) := by decide +kernel
theorem dX4_linkByClauses_34 : decode cX4_linkByClauses 34 = .ok (.iload_n 1, 1) := by decide +kernel
theorem dX4_linkByClauses_35 : decode cX4_linkByClauses 35 = .ok (.aload_n 0, 1) := by decide +kernel
theorem dX4_linkByClauses_36 : decode cX4_linkByClauses 36 = .ok (.getfield 68, 3) := by decide +kernel
theorem dX4_linkByClauses_39 : decode cX4_linkByClauses 39 = .ok (.if_icmp .ge 59, 3) := by decide +kernel
theorem dX4_linkByClauses_42 : decode cX4_linkByClauses 42 = .ok (.iconst 0, 1) := by decide +kernel
theorem dX4_linkByClauses_43 : decode cX4_linkByClauses 43 = .ok (.istore_n 2, 1) := by decide +kernel
theorem dX4_linkByClauses_44 : decode cX4_linkByClauses 44 = .ok (.iload_n 2, 1) := by decide +kernel
theorem dX4_linkByClauses_45 : decode cX4_linkByClauses 45 = .ok (.iload_n 1, 1) := by decide +kernel
theorem dX4_linkByClauses_46 : decode cX4_linkByClauses 46 = .ok (.if_icmp .ge 46, 3) := by decide +kernel
theorem dX4_linkByClauses_49 : decode cX4_linkByClauses 49 = .ok (.aload_n 0, 1) := by decide +kernel
theorem dX4_linkByClauses_50 : decode cX4_linkByClauses 50 = .ok (.getfield 31, 3) := by decide +kernel
theorem dX4_linkByClauses_53 : decode cX4_linkByClauses 53 = .ok (.iload_n 1, 1) := by decide +kernel
theorem dX4_linkByClauses_54 : decode cX4_linkByClauses 54 = .ok (.iaload, 1) := by decide +kernel
theorem dX4_linkByClauses_55 : decode cX4_linkByClauses 55 = .ok (.aload_n 0, 1) := by decide +kernel
theorem dX4_linkByClauses_56 : decode cX4_linkByClauses 56 = .ok (.getfield 31, 3) := by decide +kernel
theorem dX4_linkByClauses_59 : decode cX4_linkByClauses 59 = .ok (.iload_n 2, 1) := by decide +kernel
theorem dX4_linkByClauses_60 : decode cX4_linkByClauses 60 = .ok (.iaload, 1) := by decide +kernel
theorem dX4_linkByClauses_61 : decode cX4_linkByClauses 61 = .ok (.if_icmp .ne 25, 3) := by decide +kernel
theorem dX4_linkByClauses_64 : decode cX4_linkByClauses 64 = .ok (.aload_n 0, 1) := by decide +kernel
theorem dX4_linkByClauses_65 : decode cX4_linkByClauses 65 = .ok (.aload_n 0, 1) := by decide +kernel
theorem dX4_linkByClauses_66 : decode cX4_linkByClauses 66 = .ok (.getfield 27, 3) := by decide +kernel
theorem dX4_linkByClauses_69 : decode cX4_linkByClauses 69 = .ok (.iload_n 1, 1) := by decide +kernel
theorem dX4_linkByClauses_70 : decode cX4_linkByClauses 70 = .ok (.laload, 1) := by decide +kernel
theorem dX4_linkByClauses_71 : decode cX4_linkByClauses 71 = .ok (.aload_n 0, 1) := by decide +kernel
theorem dX4_linkByClauses_72 : decode cX4_linkByClauses 72 = .ok (.getfield 27, 3) := by decide +kernel
theorem dX4_linkByClauses_75 : decode cX4_linkByClauses 75 = .ok (.iload_n 2, 1) := by decide +kernel
theorem dX4_linkByClauses_76 : decode cX4_linkByClauses 76 = .ok (.laload, 1) := by decide +kernel
theorem dX4_linkByClauses_77 : decode cX4_linkByClauses 77 = .ok (.aload_n 0, 1) := by decide +kernel
theorem dX4_linkByClauses_78 : decode cX4_linkByClauses 78 = .ok (.getfield 31, 3) := by decide +kernel
theorem dX4_linkByClauses_81 : decode cX4_linkByClauses 81 = .ok (.iload_n 1, 1) := by decide +kernel
theorem dX4_linkByClauses_82 : decode cX4_linkByClauses 82 = .ok (.iaload, 1) := by decide +kernel
theorem dX4_linkByClauses_83 : decode cX4_linkByClauses 83 = .ok (.invokevirtual 122, 3) := by decide +kernel
theorem dX4_linkByClauses_86 : decode cX4_linkByClauses 86 = .ok (.iinc 2 1, 3) := by decide +kernel
theorem dX4_linkByClauses_89 : decode cX4_linkByClauses 89 = .ok (.goto (-45), 3) := by decide +kernel
theorem dX4_linkByClauses_92 : decode cX4_linkByClauses 92 = .ok (.iinc 1 1, 3) := by decide +kernel
theorem dX4_linkByClauses_95 : decode cX4_linkByClauses 95 = .ok (.goto (-61), 3) := by decide +kernel
theorem dX4_linkByClauses_98 : decode cX4_linkByClauses 98 = .ok (.return_, 1) := by decide +kernel
noncomputable def f_X4_linkByClauses_86 (rec34 : Int32 → jM → Option (Unit × jM)) (rec44 : Int32 → Int32 → jM → Option (Unit × jM)) (l1 : Int32) (l2 : Int32) (σ : jM) : Option (Unit × jM) :=
  rec44 l1 (l2 + 1) σ
noncomputable def s_X4_linkByClauses_44 (rec34 : Int32 → jM → Option (Unit × jM)) (rec44 : Int32 → Int32 → jM → Option (Unit × jM)) (l1 : Int32) (l2 : Int32) (σ : jM) : Option (Unit × jM) :=
  (if l1 ≤ l2 then rec34 (l1 + 1) σ else gd (inb l1 192) (gd (inb l2 192) ((if (rI σ 288 (Int32.toNatClampNeg l1)) = (rI σ 288 (Int32.toNatClampNeg l2)) then gd (inb l1 192) (gd (inb l2 192) (gd (inb l1 192) (bd (f_X4_compare (rL σ 287 (Int32.toNatClampNeg l1)) (rL σ 287 (Int32.toNatClampNeg l2)) (rI σ 288 (Int32.toNatClampNeg l1)) σ) (fun _ σ15 => f_X4_linkByClauses_86 rec34 rec44 l1 l2 σ15)))) else f_X4_linkByClauses_86 rec34 rec44 l1 l2 σ))))
noncomputable def f_X4_linkByClauses_44 (rec34 : Int32 → jM → Option (Unit × jM)) (n : Nat) : Int32 → Int32 → jM → Option (Unit × jM) := Nat.rec (motive := fun _ => Int32 → Int32 → jM → Option (Unit × jM)) (fun _ _ _ => none) (fun _ q => s_X4_linkByClauses_44 rec34 q) n
noncomputable def s_X4_linkByClauses_34  (rec34 : Int32 → jM → Option (Unit × jM)) (l1 : Int32) (σ : jM) : Option (Unit × jM) :=
  (if (rI σ 264 8) ≤ l1 then some ((), σ) else f_X4_linkByClauses_44 rec34 Fu l1 0 σ)
noncomputable def f_X4_linkByClauses_34  (n : Nat) : Int32 → jM → Option (Unit × jM) := Nat.rec (motive := fun _ => Int32 → jM → Option (Unit × jM)) (fun _ _ => none) (fun _ q => s_X4_linkByClauses_34  q) n
noncomputable def s_X4_linkByClauses_2  (rec2 : Int32 → jM → Option (Unit × jM)) (l1 : Int32) (σ : jM) : Option (Unit × jM) :=
  (if (rI σ (rulX (σ.2.2)) 1) ≤ l1 then f_X4_linkByClauses_34  Fu 0 σ else gd (inb l1 12) (bd (f_J7_fill_53178 (266 + (Int32.toNatClampNeg l1)) 0 σ) (fun _ σ32 => rec2 (l1 + 1) σ32)))
noncomputable def f_X4_linkByClauses_2  (n : Nat) : Int32 → jM → Option (Unit × jM) := Nat.rec (motive := fun _ => Int32 → jM → Option (Unit × jM)) (fun _ _ => none) (fun _ q => s_X4_linkByClauses_2  q) n
noncomputable def f_X4_linkByClauses  (σ : jM) : Option (Unit × jM) :=
  f_X4_linkByClauses_2  Fu 0 σ
set_option maxRecDepth 20000 in
set_option maxHeartbeats 4000000 in
theorem t_X4_linkByClauses_86 {rec34 : Int32 → jM → Option (Unit × jM)} (hrec34 : ∀ (l1 : Int32) (σ : jM) (r : Unit × jM), rec34 l1 σ = some r → J mi_X4_linkByClauses 4 0 0 (jqV r) 34 [(0, .ref 264), (1, .int l1)] [] (ms σ)) {rec44 : Int32 → Int32 → jM → Option (Unit × jM)} (hrec44 : ∀ (l1 : Int32) (l2 : Int32) (σ : jM) (r : Unit × jM), rec44 l1 l2 σ = some r → J mi_X4_linkByClauses 4 0 0 (jqV r) 44 [(0, .ref 264), (1, .int l1), (2, .int l2)] [] (ms σ)) (l1 : Int32) (l2 : Int32) (σ : jM) (r : Unit × jM)  (h : f_X4_linkByClauses_86 rec34 rec44 l1 l2 σ = some r) : J mi_X4_linkByClauses 4 0 0 (jqV r) 86 [(0, .ref 264), (1, .int l1), (2, .int l2)] [] (ms σ) := by
  unfold f_X4_linkByClauses_86 at h
  refine J_iinc (v := (l2 + 1)) (ls' := [(2, .int (l2 + 1)), (0, .ref 264), (1, .int l1)]) 2 dX4_linkByClauses_86 rfl rfl (by decide) rfl ?_
  refine J_goto (tgt := 44) dX4_linkByClauses_89 (by decide) ?_
  refine J_pick [1, 2, 0] rfl ?_
  exact hrec44 _ _ _ _  h
set_option maxRecDepth 20000 in
set_option maxHeartbeats 4000000 in
theorem t_X4_linkByClauses_44 {rec34 : Int32 → jM → Option (Unit × jM)} (hrec34 : ∀ (l1 : Int32) (σ : jM) (r : Unit × jM), rec34 l1 σ = some r → J mi_X4_linkByClauses 4 0 0 (jqV r) 34 [(0, .ref 264), (1, .int l1)] [] (ms σ)) : ∀ (n : Nat) (l1 : Int32) (l2 : Int32) (σ : jM) (r : Unit × jM), f_X4_linkByClauses_44 rec34 n l1 l2 σ = some r → J mi_X4_linkByClauses 4 0 0 (jqV r) 44 [(0, .ref 264), (1, .int l1), (2, .int l2)] [] (ms σ) := by
  intro n
  induction n with
  | zero =>
    intro l1 l2 σ r  h
    have h : (none : Option (Unit × jM)) = some r := h
    cases h
  | succ n ih =>
    intro l1 l2 σ r  h
    have h : s_X4_linkByClauses_44 rec34 (f_X4_linkByClauses_44 rec34 n) l1 l2 σ = some r := h
    unfold s_X4_linkByClauses_44 at h
    refine J_iload_n 2 dX4_linkByClauses_44 rfl ?_
    refine J_iload_n 1 dX4_linkByClauses_45 rfl ?_
    refine J_icmp_ge (tgt := 92) dX4_linkByClauses_46 (by decide) (fun c17 => ?_) (fun c17 => ?_)
    · have h := (if_pos c17).symm.trans h
      refine J_iinc (v := (l1 + 1)) (ls' := [(1, .int (l1 + 1)), (0, .ref 264), (2, .int l2)]) 1 dX4_linkByClauses_92 rfl rfl (by decide) rfl ?_
      refine J_goto (tgt := 34) dX4_linkByClauses_95 (by decide) ?_
      refine J_pick [1, 0] rfl ?_
      exact hrec34 _ _ _  h
    · have h := (if_neg c17).symm.trans h
      refine J_aload_n 0 dX4_linkByClauses_49 rfl ?_
      refine M_getR gf_X4_31_3 dX4_linkByClauses_50 (g_264_7 _) k_264 n_264 ?_
      refine J_iload_n 1 dX4_linkByClauses_53 rfl ?_
      obtain ⟨g18, h⟩ := gd_inv h
      refine M_iald dX4_linkByClauses_54 a_288 n_288 g18 ?_
      refine J_aload_n 0 dX4_linkByClauses_55 rfl ?_
      refine M_getR gf_X4_31_3 dX4_linkByClauses_56 (g_264_7 _) k_264 n_264 ?_
      refine J_iload_n 2 dX4_linkByClauses_59 rfl ?_
      obtain ⟨g19, h⟩ := gd_inv h
      refine M_iald dX4_linkByClauses_60 a_288 n_288 g19 ?_
      refine J_icmp_ne (tgt := 86) dX4_linkByClauses_61 (by decide) (fun c20 => ?_) (fun c20 => ?_)
      · have h := (if_neg c20).symm.trans h
        exact t_X4_linkByClauses_86 hrec34 ih _ _ _ _  h
      · have h := (if_pos c20).symm.trans h
        refine J_aload_n 0 dX4_linkByClauses_64 rfl ?_
        refine J_aload_n 0 dX4_linkByClauses_65 rfl ?_
        refine M_getR gf_X4_27_3 dX4_linkByClauses_66 (g_264_6 _) k_264 n_264 ?_
        refine J_iload_n 1 dX4_linkByClauses_69 rfl ?_
        obtain ⟨g21, h⟩ := gd_inv h
        refine M_lald dX4_linkByClauses_70 a_287 n_287 g21 ?_
        refine J_aload_n 0 dX4_linkByClauses_71 rfl ?_
        refine M_getR gf_X4_27_3 dX4_linkByClauses_72 (g_264_6 _) k_264 n_264 ?_
        refine J_iload_n 2 dX4_linkByClauses_75 rfl ?_
        obtain ⟨g22, h⟩ := gd_inv h
        refine M_lald dX4_linkByClauses_76 a_287 n_287 g22 ?_
        refine J_aload_n 0 dX4_linkByClauses_77 rfl ?_
        refine M_getR gf_X4_31_3 dX4_linkByClauses_78 (g_264_7 _) k_264 n_264 ?_
        refine J_iload_n 1 dX4_linkByClauses_81 rfl ?_
        obtain ⟨g23, h⟩ := gd_inv h
        refine M_iald dX4_linkByClauses_82 a_288 n_288 g23 ?_
        obtain ⟨_, σ25, h26, h⟩ := bd_inv h
        refine M_callVV (d' := 3) (k := 264) (As := [.long (rL σ 287 (Int32.toNatClampNeg l1)), .long (rL σ 287 (Int32.toNatClampNeg l2)), .int (rI σ 288 (Int32.toNatClampNeg l1))]) (st := []) cv_X4_122 dX4_linkByClauses_83 rfl (by decide) rfl (Nat.le_of_ble_eq_true rfl) (Nat.le_of_ble_eq_true rfl) (by decide) n_264 k_264 rfl rfl (t_X4_compare  h26) ?_
        exact t_X4_linkByClauses_86 hrec34 ih _ _ _ _  h
set_option maxRecDepth 20000 in
set_option maxHeartbeats 4000000 in
theorem t_X4_linkByClauses_34  : ∀ (n : Nat) (l1 : Int32) (σ : jM) (r : Unit × jM), f_X4_linkByClauses_34  n l1 σ = some r → J mi_X4_linkByClauses 4 0 0 (jqV r) 34 [(0, .ref 264), (1, .int l1)] [] (ms σ) := by
  intro n
  induction n with
  | zero =>
    intro l1 σ r  h
    have h : (none : Option (Unit × jM)) = some r := h
    cases h
  | succ n ih =>
    intro l1 σ r  h
    have h : s_X4_linkByClauses_34  (f_X4_linkByClauses_34  n) l1 σ = some r := h
    unfold s_X4_linkByClauses_34 at h
    refine J_iload_n 1 dX4_linkByClauses_34 rfl ?_
    refine J_aload_n 0 dX4_linkByClauses_35 rfl ?_
    refine M_getI gf_X4_68_3 dX4_linkByClauses_36 k_264 n_264 ?_
    refine J_icmp_ge (tgt := 98) dX4_linkByClauses_39 (by decide) (fun c28 => ?_) (fun c28 => ?_)
    · have h := (if_pos c28).symm.trans h
      exact J_ret (v := none) rfl ⟨dX4_linkByClauses_98, rfl⟩ (jqV_mk h)
    · have h := (if_neg c28).symm.trans h
      refine J_iconst (v := 0) dX4_linkByClauses_42 (by decide) ?_
      refine J_istore_n (i := 2) (ls' := [(2, .int 0), (0, .ref 264), (1, .int l1)]) dX4_linkByClauses_43 rfl (by decide) rfl ?_
      refine J_pick [1, 2, 0] rfl ?_
      exact t_X4_linkByClauses_44 ih _ _ _ _ _  h
set_option maxRecDepth 20000 in
set_option maxHeartbeats 4000000 in
theorem t_X4_linkByClauses_2  : ∀ (n : Nat) (l1 : Int32) (σ : jM) (r : Unit × jM), f_X4_linkByClauses_2  n l1 σ = some r → J mi_X4_linkByClauses 4 0 0 (jqV r) 2 [(0, .ref 264), (1, .int l1)] [] (ms σ) := by
  intro n
  induction n with
  | zero =>
    intro l1 σ r  h
    have h : (none : Option (Unit × jM)) = some r := h
    cases h
  | succ n ih =>
    intro l1 σ r  h
    have h : s_X4_linkByClauses_2  (f_X4_linkByClauses_2  n) l1 σ = some r := h
    unfold s_X4_linkByClauses_2 at h
    refine J_iload_n 1 dX4_linkByClauses_2 rfl ?_
    refine J_aload_n 0 dX4_linkByClauses_3 rfl ?_
    refine M_getR gf_X4_35_3 dX4_linkByClauses_4 (g_264_5 _) k_264 n_264 ?_
    refine M_getR (q := rulX σ.2.2) gf_X4_110_0 dX4_linkByClauses_7 rfl k_3 n_3 ?_
    refine M_getI gf_X4_114_6 dX4_linkByClauses_10 (kk_rul (σ.2.2)) (nn_rul (σ.2.2)) ?_
    refine J_icmp_ge (tgt := 32) dX4_linkByClauses_13 (by decide) (fun c34 => ?_) (fun c34 => ?_)
    · have h := (if_pos c34).symm.trans h
      refine J_iconst (v := 0) dX4_linkByClauses_32 (by decide) ?_
      refine J_istore_n (i := 1) (ls' := [(1, .int 0), (0, .ref 264)]) dX4_linkByClauses_33 rfl (by decide) rfl ?_
      refine J_pick [1, 0] rfl ?_
      exact t_X4_linkByClauses_34  _ _ _ _  h
    · have h := (if_neg c34).symm.trans h
      refine J_aload_n 0 dX4_linkByClauses_16 rfl ?_
      refine M_getR gf_X4_11_3 dX4_linkByClauses_17 (g_264_1 _) k_264 n_264 ?_
      refine J_iload_n 1 dX4_linkByClauses_20 rfl ?_
      obtain ⟨g35, h⟩ := gd_inv h
      refine M_aald dX4_linkByClauses_21 a_265 (by decide) n_265 g35 (r_row265 _ g35.2) ?_
      refine J_iconst (v := 0) dX4_linkByClauses_22 (by decide) ?_
      obtain ⟨_, σ37, h38, h⟩ := bd_inv h
      refine M_callSV (d' := 1) (As := [.ref (266 + (Int32.toNatClampNeg l1)), .int 0]) (st := []) cs_X4_119 dX4_linkByClauses_23 rfl (Nat.le_of_ble_eq_true rfl) (Nat.le_of_ble_eq_true rfl) (by decide) rfl rfl (t_J7_fill_53178 ⟨congrArg Prod.fst (a_row265 g35.2), (na_row265 g35.2)⟩ h38) ?_
      refine J_iinc (v := (l1 + 1)) (ls' := [(1, .int (l1 + 1)), (0, .ref 264)]) 1 dX4_linkByClauses_26 rfl rfl (by decide) rfl ?_
      refine J_goto (tgt := 2) dX4_linkByClauses_29 (by decide) ?_
      refine J_pick [1, 0] rfl ?_
      exact ih _ _ _  h
set_option maxRecDepth 20000 in
set_option maxHeartbeats 4000000 in
theorem t_X4_linkByClauses  {σ : jM} {r : Unit × jM}  (h : f_X4_linkByClauses  σ = some r) : J mi_X4_linkByClauses 4 0 0 (jqV r) 0 [(0, .ref 264)] [] (ms σ) := by
  unfold f_X4_linkByClauses at h
  refine J_iconst (v := 0) dX4_linkByClauses_0 (by decide) ?_
  refine J_istore_n (i := 1) (ls' := [(1, .int 0), (0, .ref 264)]) dX4_linkByClauses_1 rfl (by decide) rfl ?_
  refine J_pick [1, 0] rfl ?_
  exact t_X4_linkByClauses_2  _ _ _ _  h
theorem dX8_descend_0 : decode cX8_descend 0 = .ok (.iload_n 1, 1) := by decide +kernel
theorem dX8_descend_1 : decode cX8_descend 1 = .ok (.aload_n 0, 1) := by decide +kernel
theorem dX8_descend_2 : decode cX8_descend 2 = .ok (.getfield 56, 3) := by decide +kernel
theorem dX8_descend_5 : decode cX8_descend 5 = .ok (.if_icmp .lt 30, 3) := by decide +kernel
theorem dX8_descend_8 : decode cX8_descend 8 = .ok (.aload_n 0, 1) := by decide +kernel
theorem dX8_descend_9 : decode cX8_descend 9 = .ok (.dup, 1) := by decide +kernel
theorem dX8_descend_10 : decode cX8_descend 10 = .ok (.getfield 119, 3) := by decide +kernel
theorem dX8_descend_13 : decode cX8_descend 13 = .ok (.iconst 1, 1) := by decide +kernel
theorem dX8_descend_14 : decode cX8_descend 14 = .ok (.iadd, 1) := by decide +kernel
theorem dX8_descend_15 : decode cX8_descend 15 = .ok (.putfield 119, 3) := by decide +kernel
theorem dX8_descend_18 : decode cX8_descend 18 = .ok (.aload_n 0, 1) := by decide +kernel
theorem dX8_descend_19 : decode cX8_descend 19 = .ok (.getfield 119, 3) := by decide +kernel
theorem dX8_descend_22 : decode cX8_descend 22 = .ok (.aload_n 0, 1) := by decide +kernel
theorem dX8_descend_23 : decode cX8_descend 23 = .ok (.getfield 158, 3) := by decide +kernel
theorem dX8_descend_26 : decode cX8_descend 26 = .ok (.if_icmp .lt 7, 3) := by decide +kernel
theorem dX8_descend_29 : decode cX8_descend 29 = .ok (.iconst 1, 1) := by decide +kernel
theorem dX8_descend_30 : decode cX8_descend 30 = .ok (.goto 4, 3) := by decide +kernel
theorem dX8_descend_33 : decode cX8_descend 33 = .ok (.iconst 0, 1) := by decide +kernel
theorem dX8_descend_34 : decode cX8_descend 34 = .ok (.ireturn, 1) := by decide +kernel
theorem dX8_descend_35 : decode cX8_descend 35 = .ok (.aload_n 0, 1) := by decide +kernel
theorem dX8_descend_36 : decode cX8_descend 36 = .ok (.getfield 48, 3) := by decide +kernel
theorem dX8_descend_39 : decode cX8_descend 39 = .ok (.getfield 136, 3) := by decide +kernel
theorem dX8_descend_42 : decode cX8_descend 42 = .ok (.aload_n 0, 1) := by decide +kernel
theorem dX8_descend_43 : decode cX8_descend 43 = .ok (.getfield 21, 3) := by decide +kernel
theorem dX8_descend_46 : decode cX8_descend 46 = .ok (.iload_n 1, 1) := by decide +kernel
theorem dX8_descend_47 : decode cX8_descend 47 = .ok (.iaload, 1) := by decide +kernel
theorem dX8_descend_48 : decode cX8_descend 48 = .ok (.aaload, 1) := by decide +kernel
theorem dX8_descend_49 : decode cX8_descend 49 = .ok (.getfield 140, 3) := by decide +kernel
theorem dX8_descend_52 : decode cX8_descend 52 = .ok (.istore_n 2, 1) := by decide +kernel
theorem dX8_descend_53 : decode cX8_descend 53 = .ok (.iconst 0, 1) := by decide +kernel
theorem dX8_descend_54 : decode cX8_descend 54 = .ok (.istore_n 3, 1) := by decide +kernel
theorem dX8_descend_55 : decode cX8_descend 55 = .ok (.iload_n 3, 1) := by decide +kernel
theorem dX8_descend_56 : decode cX8_descend 56 = .ok (.iload_n 2, 1) := by decide +kernel
theorem dX8_descend_57 : decode cX8_descend 57 = .ok (.if_icmp .ge 81, 3) := by decide +kernel
theorem dX8_descend_60 : decode cX8_descend 60 = .ok (.aload_n 0, 1) := by decide +kernel
theorem dX8_descend_61 : decode cX8_descend 61 = .ok (.iload_n 1, 1) := by decide +kernel
theorem dX8_descend_62 : decode cX8_descend 62 = .ok (.iload_n 3, 1) := by decide +kernel
theorem dX8_descend_63 : decode cX8_descend 63 = .ok (.invokevirtual 145, 3) := by decide +kernel
theorem dX8_descend_66 : decode cX8_descend 66 = .ok (.ifCond .ne 6, 3) := by decide +kernel
theorem dX8_descend_69 : decode cX8_descend 69 = .ok (.goto 63, 3) := by decide +kernel
theorem dX8_descend_72 : decode cX8_descend 72 = .ok (.aload_n 0, 1) := by decide +kernel
theorem dX8_descend_73 : decode cX8_descend 73 = .ok (.getfield 119, 3) := by decide +kernel
theorem dX8_descend_76 : decode cX8_descend 76 = .ok (.istore 4, 2) := by decide +kernel
theorem dX8_descend_78 : decode cX8_descend 78 = .ok (.aload_n 0, 1) := by decide +kernel
theorem dX8_descend_79 : decode cX8_descend 79 = .ok (.iload_n 1, 1) := by decide +kernel
theorem dX8_descend_80 : decode cX8_descend 80 = .ok (.iload_n 3, 1) := by decide +kernel
theorem dX8_descend_81 : decode cX8_descend 81 = .ok (.invokevirtual 149, 3) := by decide +kernel
theorem dX8_descend_84 : decode cX8_descend 84 = .ok (.ifCond .eq 15, 3) := by decide +kernel
theorem dX8_descend_87 : decode cX8_descend 87 = .ok (.aload_n 0, 1) := by decide +kernel
theorem dX8_descend_88 : decode cX8_descend 88 = .ok (.iload_n 1, 1) := by decide +kernel
theorem dX8_descend_89 : decode cX8_descend 89 = .ok (.iconst 1, 1) := by decide +kernel
theorem dX8_descend_90 : decode cX8_descend 90 = .ok (.iadd, 1) := by decide +kernel
theorem dX8_descend_91 : decode cX8_descend 91 = .ok (.invokevirtual 165, 3) := by decide +kernel
theorem dX8_descend_94 : decode cX8_descend 94 = .ok (.ifCond .eq 5, 3) := by decide +kernel
theorem dX8_descend_97 : decode cX8_descend 97 = .ok (.iconst 1, 1) := by decide +kernel
theorem dX8_descend_98 : decode cX8_descend 98 = .ok (.ireturn, 1) := by decide +kernel
theorem dX8_descend_99 : decode cX8_descend 99 = .ok (.aload_n 0, 1) := by decide +kernel
theorem dX8_descend_100 : decode cX8_descend 100 = .ok (.getfield 111, 3) := by decide +kernel
theorem dX8_descend_103 : decode cX8_descend 103 = .ok (.ifCond .eq 24, 3) := by decide +kernel
theorem dX8_descend_106 : decode cX8_descend 106 = .ok (.aload_n 0, 1) := by decide +kernel
theorem dX8_descend_107 : decode cX8_descend 107 = .ok (.getfield 119, 3) := by decide +kernel
theorem dX8_descend_110 : decode cX8_descend 110 = .ok (.iload 4, 2) := by decide +kernel
theorem dX8_descend_112 : decode cX8_descend 112 = .ok (.if_icmp .le 15, 3) := by decide +kernel
theorem dX8_descend_115 : decode cX8_descend 115 = .ok (.aload_n 0, 1) := by decide +kernel
theorem dX8_descend_116 : decode cX8_descend 116 = .ok (.iload_n 1, 1) := by decide +kernel
theorem dX8_descend_117 : decode cX8_descend 117 = .ok (.aload_n 0, 1) := by decide +kernel
theorem dX8_descend_118 : decode cX8_descend 118 = .ok (.getfield 119, 3) := by decide +kernel
theorem dX8_descend_121 : decode cX8_descend 121 = .ok (.iload 4, 2) := by decide +kernel
theorem dX8_descend_123 : decode cX8_descend 123 = .ok (.isub, 1) := by decide +kernel
theorem dX8_descend_124 : decode cX8_descend 124 = .ok (.invokevirtual 171, 3) := by decide +kernel
theorem dX8_descend_127 : decode cX8_descend 127 = .ok (.aload_n 0, 1) := by decide +kernel
theorem dX8_descend_128 : decode cX8_descend 128 = .ok (.iload_n 1, 1) := by decide +kernel
theorem dX8_descend_129 : decode cX8_descend 129 = .ok (.invokevirtual 175, 3) := by decide +kernel
theorem dX8_descend_132 : decode cX8_descend 132 = .ok (.iinc 3 1, 3) := by decide +kernel
theorem dX8_descend_135 : decode cX8_descend 135 = .ok (.goto (-80), 3) := by decide +kernel
theorem dX8_descend_138 : decode cX8_descend 138 = .ok (.iconst 0, 1) := by decide +kernel
theorem dX8_descend_139 : decode cX8_descend 139 = .ok (.ireturn, 1) := by decide +kernel
noncomputable def f_X8_descend_132 (self : Int32 → jM → Option (Int32 × jM)) (rec55 : Int32 → Int32 → Int32 → jM → Option (Int32 × jM)) (l1 : Int32) (l2 : Int32) (l3 : Int32) (σ : jM) : Option (Int32 × jM) :=
  rec55 l1 l2 (l3 + 1) σ
noncomputable def f_X8_descend_127 (self : Int32 → jM → Option (Int32 × jM)) (rec55 : Int32 → Int32 → Int32 → jM → Option (Int32 × jM)) (l1 : Int32) (l2 : Int32) (l3 : Int32) (σ : jM) : Option (Int32 × jM) :=
  bd (f_X8_lift l1 σ) (fun _ σ4 => f_X8_descend_132 self rec55 l1 l2 l3 σ4)
noncomputable def f_X8_descend_99 (self : Int32 → jM → Option (Int32 × jM)) (rec55 : Int32 → Int32 → Int32 → jM → Option (Int32 × jM)) (l1 : Int32) (l2 : Int32) (l3 : Int32) (l4 : Int32) (σ : jM) : Option (Int32 × jM) :=
  (if (rI σ 296 18) = 0 then f_X8_descend_127 self rec55 l1 l2 l3 σ else (if (rI σ 296 16) ≤ l4 then f_X8_descend_127 self rec55 l1 l2 l3 σ else bd (f_X8_note l1 ((rI σ 296 16) - l4) σ) (fun _ σ12 => f_X8_descend_127 self rec55 l1 l2 l3 σ12)))
noncomputable def s_X8_descend_55 (self : Int32 → jM → Option (Int32 × jM))  (rec55 : Int32 → Int32 → Int32 → jM → Option (Int32 × jM)) (l1 : Int32) (l2 : Int32) (l3 : Int32) (σ : jM) : Option (Int32 × jM) :=
  (if l2 ≤ l3 then some (0, σ) else bd (f_X8_isOpen l1 l3 σ) (fun r20 σ21 => (if r20 = 0 then f_X8_descend_132 self rec55 l1 l2 l3 σ21 else bd (f_X8_lay l1 l3 σ21) (fun r24 σ25 => (if r24 = 0 then f_X8_descend_99 self rec55 l1 l2 l3 (rI σ21 296 16) σ25 else bd (self (l1 + 1) σ25) (fun r28 σ29 => (if r28 = 0 then f_X8_descend_99 self rec55 l1 l2 l3 (rI σ21 296 16) σ29 else some (1, σ29))))))))
noncomputable def f_X8_descend_55 (self : Int32 → jM → Option (Int32 × jM))  (n : Nat) : Int32 → Int32 → Int32 → jM → Option (Int32 × jM) := Nat.rec (motive := fun _ => Int32 → Int32 → Int32 → jM → Option (Int32 × jM)) (fun _ _ _ _ => none) (fun _ q => s_X8_descend_55 self  q) n
noncomputable def f_X8_descend_34 (self : Int32 → jM → Option (Int32 × jM))  (s0 : Int32) (σ : jM) : Option (Int32 × jM) :=
  gd (s0 = 0 ∨ s0 = 1) (some (s0, σ))
noncomputable def s_X8_descend (self : Int32 → jM → Option (Int32 × jM)) (a1 : Int32) (σ : jM) : Option (Int32 × jM) :=
  (if a1 < (rI σ 296 5) then gd (inb a1 7) (gd (inb (rI σ 300 (Int32.toNatClampNeg a1)) 24) (f_X8_descend_55 self  Fu a1 (rI σ (tabX (Int32.toNatClampNeg (rI σ 300 (Int32.toNatClampNeg a1)))) 2) 0 σ)) else (if (rI (wI σ 296 16 ((rI σ 296 16) + 1)) 296 16) < (rI (wI σ 296 16 ((rI σ 296 16) + 1)) 296 17) then f_X8_descend_34 self  0 (wI σ 296 16 ((rI σ 296 16) + 1)) else f_X8_descend_34 self  1 (wI σ 296 16 ((rI σ 296 16) + 1))))
noncomputable def n_X8_descend (n : Nat) : Int32 → jM → Option (Int32 × jM) := Nat.rec (motive := fun _ => Int32 → jM → Option (Int32 × jM)) (fun _ _ => none) (fun _ q => s_X8_descend q) n
noncomputable def f_X8_descend (a1 : Int32) (σ : jM) : Option (Int32 × jM) := n_X8_descend 9 a1 σ
set_option maxRecDepth 20000 in
set_option maxHeartbeats 4000000 in
theorem t_X8_descend_132 {self : Int32 → jM → Option (Int32 × jM)} {n0 : Nat} (hself : ∀ (a1 : Int32) (σ : jM) (r : Int32 × jM), self a1 σ = some r → J mi_X8_descend (4 + n0) 0 0 (jqI r) 0 [(0, .ref 296), (1, .int a1)] [] (ms σ)) {rec55 : Int32 → Int32 → Int32 → jM → Option (Int32 × jM)} (hrec55 : ∀ (l1 : Int32) (l2 : Int32) (l3 : Int32) (σ : jM) (r : Int32 × jM), rec55 l1 l2 l3 σ = some r → J mi_X8_descend (4 + n0 + 1) 0 0 (jqI r) 55 [(0, .ref 296), (1, .int l1), (2, .int l2), (3, .int l3)] [] (ms σ)) (l1 : Int32) (l2 : Int32) (l3 : Int32) (σ : jM) (r : Int32 × jM)  (h : f_X8_descend_132 self rec55 l1 l2 l3 σ = some r) : J mi_X8_descend (4 + n0 + 1) 0 0 (jqI r) 132 [(0, .ref 296), (1, .int l1), (2, .int l2), (3, .int l3)] [] (ms σ) := by
  unfold f_X8_descend_132 at h
  refine J_iinc (v := (l3 + 1)) (ls' := [(3, .int (l3 + 1)), (0, .ref 296), (1, .int l1), (2, .int l2)]) 3 dX8_descend_132 rfl rfl (by decide) rfl ?_
  refine J_goto (tgt := 55) dX8_descend_135 (by decide) ?_
  refine J_pick [1, 2, 3, 0] rfl ?_
  exact hrec55 _ _ _ _ _  h
set_option maxRecDepth 20000 in
set_option maxHeartbeats 4000000 in
theorem t_X8_descend_127 {self : Int32 → jM → Option (Int32 × jM)} {n0 : Nat} (hself : ∀ (a1 : Int32) (σ : jM) (r : Int32 × jM), self a1 σ = some r → J mi_X8_descend (4 + n0) 0 0 (jqI r) 0 [(0, .ref 296), (1, .int a1)] [] (ms σ)) {rec55 : Int32 → Int32 → Int32 → jM → Option (Int32 × jM)} (hrec55 : ∀ (l1 : Int32) (l2 : Int32) (l3 : Int32) (σ : jM) (r : Int32 × jM), rec55 l1 l2 l3 σ = some r → J mi_X8_descend (4 + n0 + 1) 0 0 (jqI r) 55 [(0, .ref 296), (1, .int l1), (2, .int l2), (3, .int l3)] [] (ms σ)) (l1 : Int32) (l2 : Int32) (l3 : Int32) (σ : jM) (r : Int32 × jM)  (h : f_X8_descend_127 self rec55 l1 l2 l3 σ = some r) : J mi_X8_descend (4 + n0 + 1) 0 0 (jqI r) 127 [(0, .ref 296), (1, .int l1), (2, .int l2), (3, .int l3)] [] (ms σ) := by
  unfold f_X8_descend_127 at h
  refine J_aload_n 0 dX8_descend_127 rfl ?_
  refine J_iload_n 1 dX8_descend_128 rfl ?_
  obtain ⟨_, σ7, h8, h⟩ := bd_inv h
  refine M_callVV (d' := 2) (k := 296) (As := [.int l1]) (st := []) cv_X8_175 dX8_descend_129 rfl (by omega) rfl (Nat.le_of_ble_eq_true rfl) (Nat.le_of_ble_eq_true rfl) (by omega) n_296 k_296 rfl rfl (t_X8_lift  h8) ?_
  exact t_X8_descend_132 hself hrec55 _ _ _ _ _  h
set_option maxRecDepth 20000 in
set_option maxHeartbeats 4000000 in
theorem t_X8_descend_99 {self : Int32 → jM → Option (Int32 × jM)} {n0 : Nat} (hself : ∀ (a1 : Int32) (σ : jM) (r : Int32 × jM), self a1 σ = some r → J mi_X8_descend (4 + n0) 0 0 (jqI r) 0 [(0, .ref 296), (1, .int a1)] [] (ms σ)) {rec55 : Int32 → Int32 → Int32 → jM → Option (Int32 × jM)} (hrec55 : ∀ (l1 : Int32) (l2 : Int32) (l3 : Int32) (σ : jM) (r : Int32 × jM), rec55 l1 l2 l3 σ = some r → J mi_X8_descend (4 + n0 + 1) 0 0 (jqI r) 55 [(0, .ref 296), (1, .int l1), (2, .int l2), (3, .int l3)] [] (ms σ)) (l1 : Int32) (l2 : Int32) (l3 : Int32) (l4 : Int32) (σ : jM) (r : Int32 × jM)  (h : f_X8_descend_99 self rec55 l1 l2 l3 l4 σ = some r) : J mi_X8_descend (4 + n0 + 1) 0 0 (jqI r) 99 [(0, .ref 296), (1, .int l1), (2, .int l2), (3, .int l3), (4, .int l4)] [] (ms σ) := by
  unfold f_X8_descend_99 at h
  refine J_aload_n 0 dX8_descend_99 rfl ?_
  refine M_getI gf_X8_111_7 dX8_descend_100 k_296 n_296 ?_
  refine J_if_eq (tgt := 127) dX8_descend_103 (by decide) (fun c14 => ?_) (fun c14 => ?_)
  · have h := (if_pos c14).symm.trans h
    refine J_pick [0, 1, 2, 3] rfl ?_
    exact t_X8_descend_127 hself hrec55 _ _ _ _ _  h
  · have h := (if_neg c14).symm.trans h
    refine J_aload_n 0 dX8_descend_106 rfl ?_
    refine M_getI gf_X8_119_7 dX8_descend_107 k_296 n_296 ?_
    refine J_iload 4 dX8_descend_110 rfl ?_
    refine J_icmp_le (tgt := 127) dX8_descend_112 (by decide) (fun c15 => ?_) (fun c15 => ?_)
    · have h := (if_pos c15).symm.trans h
      refine J_pick [0, 1, 2, 3] rfl ?_
      exact t_X8_descend_127 hself hrec55 _ _ _ _ _  h
    · have h := (if_neg c15).symm.trans h
      refine J_aload_n 0 dX8_descend_115 rfl ?_
      refine J_iload_n 1 dX8_descend_116 rfl ?_
      refine J_aload_n 0 dX8_descend_117 rfl ?_
      refine M_getI gf_X8_119_7 dX8_descend_118 k_296 n_296 ?_
      refine J_iload 4 dX8_descend_121 rfl ?_
      refine J_isub dX8_descend_123 ?_
      obtain ⟨_, σ17, h18, h⟩ := bd_inv h
      refine M_callVV (d' := 1) (k := 296) (As := [.int l1, .int ((rI σ 296 16) - l4)]) (st := []) cv_X8_171 dX8_descend_124 rfl (by omega) rfl (Nat.le_of_ble_eq_true rfl) (Nat.le_of_ble_eq_true rfl) (by omega) n_296 k_296 rfl rfl (t_X8_note  h18) ?_
      refine J_pick [0, 1, 2, 3] rfl ?_
      exact t_X8_descend_127 hself hrec55 _ _ _ _ _  h
set_option maxRecDepth 20000 in
set_option maxHeartbeats 4000000 in
theorem t_X8_descend_55 {self : Int32 → jM → Option (Int32 × jM)} {n0 : Nat} (hself : ∀ (a1 : Int32) (σ : jM) (r : Int32 × jM), self a1 σ = some r → J mi_X8_descend (4 + n0) 0 0 (jqI r) 0 [(0, .ref 296), (1, .int a1)] [] (ms σ))  : ∀ (n : Nat) (l1 : Int32) (l2 : Int32) (l3 : Int32) (σ : jM) (r : Int32 × jM), f_X8_descend_55 self  n l1 l2 l3 σ = some r → J mi_X8_descend (4 + n0 + 1) 0 0 (jqI r) 55 [(0, .ref 296), (1, .int l1), (2, .int l2), (3, .int l3)] [] (ms σ) := by
  intro n
  induction n with
  | zero =>
    intro l1 l2 l3 σ r  h
    have h : (none : Option (Int32 × jM)) = some r := h
    cases h
  | succ n ih =>
    intro l1 l2 l3 σ r  h
    have h : s_X8_descend_55 self  (f_X8_descend_55 self  n) l1 l2 l3 σ = some r := h
    unfold s_X8_descend_55 at h
    refine J_iload_n 3 dX8_descend_55 rfl ?_
    refine J_iload_n 2 dX8_descend_56 rfl ?_
    refine J_icmp_ge (tgt := 138) dX8_descend_57 (by decide) (fun c32 => ?_) (fun c32 => ?_)
    · have h := (if_pos c32).symm.trans h
      refine J_iconst (v := 0) dX8_descend_138 (by decide) ?_
      exact J_ret (v := some (.int 0)) rfl ⟨dX8_descend_139, Or.inr (Or.inl ⟨rfl, Or.inl rfl⟩)⟩ (jqI_mk h)
    · have h := (if_neg c32).symm.trans h
      refine J_aload_n 0 dX8_descend_60 rfl ?_
      refine J_iload_n 1 dX8_descend_61 rfl ?_
      refine J_iload_n 3 dX8_descend_62 rfl ?_
      obtain ⟨r33, σ34, h35, h⟩ := bd_inv h
      refine M_callVI (d' := 1) (k := 296) (As := [.int l1, .int l3]) (st := []) cv_X8_145 dX8_descend_63 rfl (by omega) rfl (Nat.le_of_ble_eq_true rfl) (Nat.le_of_ble_eq_true rfl) (by omega) n_296 k_296 rfl rfl (t_X8_isOpen  h35) ?_
      refine J_if_ne (tgt := 72) dX8_descend_66 (by decide) (fun c36 => ?_) (fun c36 => ?_)
      · have h := (if_neg c36).symm.trans h
        refine J_aload_n 0 dX8_descend_72 rfl ?_
        refine M_getI gf_X8_119_7 dX8_descend_73 k_296 n_296 ?_
        refine J_istore (i := 4) (ls' := [(4, .int (rI σ34 296 16)), (0, .ref 296), (1, .int l1), (2, .int l2), (3, .int l3)]) dX8_descend_76 (by decide) rfl ?_
        refine J_aload_n 1 dX8_descend_78 rfl ?_
        refine J_iload_n 2 dX8_descend_79 rfl ?_
        refine J_iload_n 4 dX8_descend_80 rfl ?_
        obtain ⟨r37, σ38, h39, h⟩ := bd_inv h
        refine M_callVI (d' := 3) (k := 296) (As := [.int l1, .int l3]) (st := []) cv_X8_149 dX8_descend_81 rfl (by omega) rfl (Nat.le_of_ble_eq_true rfl) (Nat.le_of_ble_eq_true rfl) (by omega) n_296 k_296 rfl rfl (t_X8_lay  h39) ?_
        refine J_if_eq (tgt := 99) dX8_descend_84 (by decide) (fun c40 => ?_) (fun c40 => ?_)
        · have h := (if_pos c40).symm.trans h
          refine J_pick [1, 2, 3, 4, 0] rfl ?_
          exact t_X8_descend_99 hself ih _ _ _ _ _ _  h
        · have h := (if_neg c40).symm.trans h
          refine J_aload_n 1 dX8_descend_87 rfl ?_
          refine J_iload_n 2 dX8_descend_88 rfl ?_
          refine J_iconst (v := 1) dX8_descend_89 (by decide) ?_
          refine J_iadd dX8_descend_90 ?_
          obtain ⟨r41, σ42, h43, h⟩ := bd_inv h
          refine M_callVI (d' := 4 + n0) (k := 296) (As := [.int (l1 + 1)]) (st := []) cv_X8_165 dX8_descend_91 rfl (by omega) rfl (Nat.le_of_ble_eq_true rfl) (Nat.le_of_ble_eq_true rfl) (by omega) n_296 k_296 rfl rfl (hself _ _ _  h43) ?_
          refine J_if_eq (tgt := 99) dX8_descend_94 (by decide) (fun c44 => ?_) (fun c44 => ?_)
          · have h := (if_pos c44).symm.trans h
            refine J_pick [1, 2, 3, 4, 0] rfl ?_
            exact t_X8_descend_99 hself ih _ _ _ _ _ _  h
          · have h := (if_neg c44).symm.trans h
            refine J_iconst (v := 1) dX8_descend_97 (by decide) ?_
            exact J_ret (v := some (.int 1)) rfl ⟨dX8_descend_98, Or.inr (Or.inl ⟨rfl, Or.inr rfl⟩)⟩ (jqI_mk h)
      · have h := (if_pos c36).symm.trans h
        refine J_goto (tgt := 132) dX8_descend_69 (by decide) ?_
        exact t_X8_descend_132 hself ih _ _ _ _ _  h
set_option maxRecDepth 20000 in
set_option maxHeartbeats 4000000 in
theorem t_X8_descend_34 {self : Int32 → jM → Option (Int32 × jM)} {n0 : Nat} (hself : ∀ (a1 : Int32) (σ : jM) (r : Int32 × jM), self a1 σ = some r → J mi_X8_descend (4 + n0) 0 0 (jqI r) 0 [(0, .ref 296), (1, .int a1)] [] (ms σ))  (s0 : Int32) (σ : jM) (r : Int32 × jM)  (h : f_X8_descend_34 self  s0 σ = some r) : J mi_X8_descend (4 + n0 + 1) 0 0 (jqI r) 34 [] [.int s0] (ms σ) := by
  unfold f_X8_descend_34 at h
  obtain ⟨g46, h⟩ := gd_inv h
  exact J_ret (v := some (.int s0)) rfl ⟨dX8_descend_34, Or.inr (Or.inl ⟨rfl, g46⟩)⟩ (jqI_mk h)
set_option maxRecDepth 20000 in
set_option maxHeartbeats 4000000 in
theorem ts_X8_descend {self : Int32 → jM → Option (Int32 × jM)} {n0 : Nat} (hself : ∀ (a1 : Int32) (σ : jM) (r : Int32 × jM), self a1 σ = some r → J mi_X8_descend (4 + n0) 0 0 (jqI r) 0 [(0, .ref 296), (1, .int a1)] [] (ms σ)) (a1 : Int32) (σ : jM) (r : Int32 × jM) (h : s_X8_descend self a1 σ = some r) : J mi_X8_descend (4 + n0 + 1) 0 0 (jqI r) 0 [(0, .ref 296), (1, .int a1)] [] (ms σ) := by
  unfold s_X8_descend at h
  refine J_iload_n 1 dX8_descend_0 rfl ?_
  refine J_aload_n 0 dX8_descend_1 rfl ?_
  refine M_getI gf_X8_56_7 dX8_descend_2 k_296 n_296 ?_
  refine J_icmp_lt (tgt := 35) dX8_descend_5 (by decide) (fun c47 => ?_) (fun c47 => ?_)
  · have h := (if_pos c47).symm.trans h
    refine J_aload_n 0 dX8_descend_35 rfl ?_
    refine M_getR gf_X8_48_7 dX8_descend_36 (g_296_3 _) k_296 n_296 ?_
    refine M_getR gf_X8_136_0 dX8_descend_39 (g_3_1 _) k_3 n_3 ?_
    refine J_aload_n 0 dX8_descend_42 rfl ?_
    refine M_getR gf_X8_21_7 dX8_descend_43 (g_296_7 _) k_296 n_296 ?_
    refine J_iload_n 1 dX8_descend_46 rfl ?_
    obtain ⟨g48, h⟩ := gd_inv h
    refine M_iald dX8_descend_47 a_300 n_300 g48 ?_
    obtain ⟨g49, h⟩ := gd_inv h
    refine M_aald dX8_descend_48 a_4 (by decide) n_4 g49 (r_tab _ g49.2) ?_
    refine M_getI gf_X8_140_9 dX8_descend_49 (k_tab g49.2) (n_tab g49.2) ?_
    refine J_istore_n (i := 2) (ls' := [(2, .int (rI σ (tabX (Int32.toNatClampNeg (rI σ 300 (Int32.toNatClampNeg a1)))) 2)), (0, .ref 296), (1, .int a1)]) dX8_descend_52 rfl (by decide) rfl ?_
    refine J_iconst (v := 0) dX8_descend_53 (by decide) ?_
    refine J_istore_n (i := 3) (ls' := [(3, .int 0), (2, .int (rI σ (tabX (Int32.toNatClampNeg (rI σ 300 (Int32.toNatClampNeg a1)))) 2)), (0, .ref 296), (1, .int a1)]) dX8_descend_54 rfl (by decide) rfl ?_
    refine J_pick [2, 3, 1, 0] rfl ?_
    exact t_X8_descend_55 hself  _ _ _ _ _ _  h
  · have h := (if_neg c47).symm.trans h
    refine J_aload_n 0 dX8_descend_8 rfl ?_
    refine J_dup dX8_descend_9 rfl ?_
    refine M_getI gf_X8_119_7 dX8_descend_10 k_296 n_296 ?_
    refine J_iconst (v := 1) dX8_descend_13 (by decide) ?_
    refine J_iadd dX8_descend_14 ?_
    refine M_putI pf_X8_119_7 dX8_descend_15 k_296 n_296 ⟨rfl, rfl⟩ ?_
    refine J_aload_n 0 dX8_descend_18 rfl ?_
    refine M_getI gf_X8_119_7 dX8_descend_19 k_296 n_296 ?_
    refine J_aload_n 0 dX8_descend_22 rfl ?_
    refine M_getI gf_X8_158_7 dX8_descend_23 k_296 n_296 ?_
    refine J_icmp_lt (tgt := 33) dX8_descend_26 (by decide) (fun c50 => ?_) (fun c50 => ?_)
    · have h := (if_pos c50).symm.trans h
      refine J_iconst (v := 0) dX8_descend_33 (by decide) ?_
      refine J_pick [] rfl ?_
      exact t_X8_descend_34 hself  _ _ _  h
    · have h := (if_neg c50).symm.trans h
      refine J_iconst (v := 1) dX8_descend_29 (by decide) ?_
      refine J_goto (tgt := 34) dX8_descend_30 (by decide) ?_
      refine J_pick [] rfl ?_
      exact t_X8_descend_34 hself  _ _ _  h
set_option maxRecDepth 20000 in
set_option maxHeartbeats 4000000 in
theorem tn_X8_descend : ∀ (n : Nat) (a1 : Int32) (σ : jM) (r : Int32 × jM), n_X8_descend n a1 σ = some r → J mi_X8_descend (4 + n) 0 0 (jqI r) 0 [(0, .ref 296), (1, .int a1)] [] (ms σ) := by
  intro n
  induction n with
  | zero =>
    intro a1 σ r h
    have h : (none : Option (Int32 × jM)) = some r := h
    cases h
  | succ n ih =>
    intro a1 σ r h
    exact ts_X8_descend ih a1 σ r h
set_option maxRecDepth 20000 in
set_option maxHeartbeats 4000000 in
theorem t_X8_descend {a1 : Int32} {σ : jM} {r : Int32 × jM} (h : f_X8_descend a1 σ = some r) : J mi_X8_descend 13 0 0 (jqI r) 0 [(0, .ref 296), (1, .int a1)] [] (ms σ) := tn_X8_descend 9 a1 σ r h
theorem dX11_readRow_0 : decode cX11_readRow 0 = .ok (.iconst 0, 1) := by decide +kernel
theorem dX11_readRow_1 : decode cX11_readRow 1 = .ok (.istore_n 3, 1) := by decide +kernel
theorem dX11_readRow_2 : decode cX11_readRow 2 = .ok (.iload_n 3, 1) := by decide +kernel
theorem dX11_readRow_3 : decode cX11_readRow 3 = .ok (.bipush 6, 2) := by decide +kernel
theorem dX11_readRow_5 : decode cX11_readRow 5 = .ok (.if_icmp .gt 115, 3) := by decide +kernel
theorem dX11_readRow_8 : decode cX11_readRow 8 = .ok (.iload_n 3, 1) := by decide +kernel
theorem dX11_readRow_9 : decode cX11_readRow 9 = .ok (.ifCond .le 25, 3) := by decide +kernel
theorem dX11_readRow_12 : decode cX11_readRow 12 = .ok (.aload_n 0, 1) := by decide +kernel
theorem dX11_readRow_13 : decode cX11_readRow 13 = .ok (.bipush 46, 2) := by decide +kernel
theorem dX11_readRow_15 : decode cX11_readRow 15 = .ok (.invokevirtual 48, 3) := by decide +kernel
theorem dX11_readRow_18 : decode cX11_readRow 18 = .ok (.ifCond .eq 16, 3) := by decide +kernel
theorem dX11_readRow_21 : decode cX11_readRow 21 = .ok (.aload_n 1, 1) := by decide +kernel
theorem dX11_readRow_22 : decode cX11_readRow 22 = .ok (.getfield 51, 3) := by decide +kernel
theorem dX11_readRow_25 : decode cX11_readRow 25 = .ok (.iload_n 2, 1) := by decide +kernel
theorem dX11_readRow_26 : decode cX11_readRow 26 = .ok (.iload_n 3, 1) := by decide +kernel
theorem dX11_readRow_27 : decode cX11_readRow 27 = .ok (.iastore, 1) := by decide +kernel
theorem dX11_readRow_28 : decode cX11_readRow 28 = .ok (.aload_n 0, 1) := by decide +kernel
theorem dX11_readRow_29 : decode cX11_readRow 29 = .ok (.invokevirtual 54, 3) := by decide +kernel
theorem dX11_readRow_32 : decode cX11_readRow 32 = .ok (.iconst 1, 1) := by decide +kernel
theorem dX11_readRow_33 : decode cX11_readRow 33 = .ok (.ireturn, 1) := by decide +kernel
theorem dX11_readRow_34 : decode cX11_readRow 34 = .ok (.aload_n 0, 1) := by decide +kernel
theorem dX11_readRow_35 : decode cX11_readRow 35 = .ok (.invokevirtual 37, 3) := by decide +kernel
theorem dX11_readRow_38 : decode cX11_readRow 38 = .ok (.ifCond .ne 9, 3) := by decide +kernel
theorem dX11_readRow_41 : decode cX11_readRow 41 = .ok (.aload_n 0, 1) := by decide +kernel
theorem dX11_readRow_42 : decode cX11_readRow 42 = .ok (.iconst 1, 1) := by decide +kernel
theorem dX11_readRow_43 : decode cX11_readRow 43 = .ok (.invokevirtual 41, 3) := by decide +kernel
theorem dX11_readRow_46 : decode cX11_readRow 46 = .ok (.ireturn, 1) := by decide +kernel
theorem dX11_readRow_47 : decode cX11_readRow 47 = .ok (.iload_n 3, 1) := by decide +kernel
theorem dX11_readRow_48 : decode cX11_readRow 48 = .ok (.bipush 6, 2) := by decide +kernel
theorem dX11_readRow_50 : decode cX11_readRow 50 = .ok (.if_icmp .ne 9, 3) := by decide +kernel
theorem dX11_readRow_53 : decode cX11_readRow 53 = .ok (.aload_n 0, 1) := by decide +kernel
theorem dX11_readRow_54 : decode cX11_readRow 54 = .ok (.iconst 3, 1) := by decide +kernel
theorem dX11_readRow_55 : decode cX11_readRow 55 = .ok (.invokevirtual 41, 3) := by decide +kernel
theorem dX11_readRow_58 : decode cX11_readRow 58 = .ok (.ireturn, 1) := by decide +kernel
theorem dX11_readRow_59 : decode cX11_readRow 59 = .ok (.aload_n 0, 1) := by decide +kernel
theorem dX11_readRow_60 : decode cX11_readRow 60 = .ok (.getfield 29, 3) := by decide +kernel
theorem dX11_readRow_63 : decode cX11_readRow 63 = .ok (.iconst 2, 1) := by decide +kernel
theorem dX11_readRow_64 : decode cX11_readRow 64 = .ok (.if_icmp .ne 19, 3) := by decide +kernel
theorem dX11_readRow_67 : decode cX11_readRow 67 = .ok (.aload_n 0, 1) := by decide +kernel
theorem dX11_readRow_68 : decode cX11_readRow 68 = .ok (.getfield 57, 3) := by decide +kernel
theorem dX11_readRow_71 : decode cX11_readRow 71 = .ok (.invokestatic 60, 3) := by decide +kernel
theorem dX11_readRow_74 : decode cX11_readRow 74 = .ok (.ifCond .ne 9, 3) := by decide +kernel
theorem dX11_readRow_77 : decode cX11_readRow 77 = .ok (.aload_n 0, 1) := by decide +kernel
theorem dX11_readRow_78 : decode cX11_readRow 78 = .ok (.iconst 2, 1) := by decide +kernel
theorem dX11_readRow_79 : decode cX11_readRow 79 = .ok (.invokevirtual 41, 3) := by decide +kernel
theorem dX11_readRow_82 : decode cX11_readRow 82 = .ok (.ireturn, 1) := by decide +kernel
theorem dX11_readRow_83 : decode cX11_readRow 83 = .ok (.aload_n 1, 1) := by decide +kernel
theorem dX11_readRow_84 : decode cX11_readRow 84 = .ok (.getfield 63, 3) := by decide +kernel
theorem dX11_readRow_87 : decode cX11_readRow 87 = .ok (.iload_n 2, 1) := by decide +kernel
theorem dX11_readRow_88 : decode cX11_readRow 88 = .ok (.bipush 6, 2) := by decide +kernel
theorem dX11_readRow_90 : decode cX11_readRow 90 = .ok (.imul, 1) := by decide +kernel
theorem dX11_readRow_91 : decode cX11_readRow 91 = .ok (.iload_n 3, 1) := by decide +kernel
theorem dX11_readRow_92 : decode cX11_readRow 92 = .ok (.iadd, 1) := by decide +kernel
theorem dX11_readRow_93 : decode cX11_readRow 93 = .ok (.aload_n 0, 1) := by decide +kernel
theorem dX11_readRow_94 : decode cX11_readRow 94 = .ok (.getfield 29, 3) := by decide +kernel
theorem dX11_readRow_97 : decode cX11_readRow 97 = .ok (.iconst 2, 1) := by decide +kernel
theorem dX11_readRow_98 : decode cX11_readRow 98 = .ok (.if_icmp .ne 10, 3) := by decide +kernel
theorem dX11_readRow_101 : decode cX11_readRow 101 = .ok (.aload_n 0, 1) := by decide +kernel
theorem dX11_readRow_102 : decode cX11_readRow 102 = .ok (.getfield 57, 3) := by decide +kernel
theorem dX11_readRow_105 : decode cX11_readRow 105 = .ok (.goto 4, 3) := by decide +kernel
theorem dX11_readRow_108 : decode cX11_readRow 108 = .ok (.iconst (-1), 1) := by decide +kernel
theorem dX11_readRow_109 : decode cX11_readRow 109 = .ok (.iastore, 1) := by decide +kernel
theorem dX11_readRow_110 : decode cX11_readRow 110 = .ok (.aload_n 0, 1) := by decide +kernel
theorem dX11_readRow_111 : decode cX11_readRow 111 = .ok (.invokevirtual 54, 3) := by decide +kernel
theorem dX11_readRow_114 : decode cX11_readRow 114 = .ok (.iinc 3 1, 3) := by decide +kernel
theorem dX11_readRow_117 : decode cX11_readRow 117 = .ok (.goto (-115), 3) := by decide +kernel
theorem dX11_readRow_120 : decode cX11_readRow 120 = .ok (.iconst 0, 1) := by decide +kernel
theorem dX11_readRow_121 : decode cX11_readRow 121 = .ok (.ireturn, 1) := by decide +kernel
noncomputable def f_X11_readRow_109 (rec2 : Nat → Int32 → Int32 → jM → Option (Int32 × jM)) (l1 : Nat) (l2 : Int32) (l3 : Int32) (s0 : Nat) (s1 : Int32) (s2 : Int32) (σ : jM) : Option (Int32 × jM) :=
  gd (inb s1 (shf s0).2) (bd (f_X11_advance  (wI σ s0 (Int32.toNatClampNeg s1) s2)) (fun _ σ6 => rec2 l1 l2 (l3 + 1) σ6))
noncomputable def f_X11_readRow_83 (rec2 : Nat → Int32 → Int32 → jM → Option (Int32 × jM)) (l1 : Nat) (l2 : Int32) (l3 : Int32) (σ : jM) : Option (Int32 × jM) :=
  (if (rI σ 262 4) = 2 then f_X11_readRow_109 rec2 l1 l2 l3 (tabX l1 + 2) ((l2 * 6) + l3) (rI σ 262 7) σ else f_X11_readRow_109 rec2 l1 l2 l3 (tabX l1 + 2) ((l2 * 6) + l3) (-1) σ)
noncomputable def f_X11_readRow_34 (rec2 : Nat → Int32 → Int32 → jM → Option (Int32 × jM)) (l1 : Nat) (l2 : Int32) (l3 : Int32) (σ : jM) : Option (Int32 × jM) :=
  bd (f_X11_beginsPlace  σ) (fun r14 σ15 => (if r14 = 0 then bd (f_X11_fault 1 σ15) (fun r32 σ33 => gd (r32 = 0 ∨ r32 = 1) (some (r32, σ33))) else (if l3 = 6 then bd (f_X11_fault 3 σ15) (fun r28 σ29 => gd (r28 = 0 ∨ r28 = 1) (some (r28, σ29))) else (if (rI σ15 262 4) = 2 then bd (f_X12_isSign (rI σ15 262 7) σ15) (fun r20 σ21 => (if r20 = 0 then bd (f_X11_fault 2 σ21) (fun r24 σ25 => gd (r24 = 0 ∨ r24 = 1) (some (r24, σ25))) else f_X11_readRow_83 rec2 l1 l2 l3 σ21)) else f_X11_readRow_83 rec2 l1 l2 l3 σ15))))
noncomputable def s_X11_readRow_2  (rec2 : Nat → Int32 → Int32 → jM → Option (Int32 × jM)) (l1 : Nat) (l2 : Int32) (l3 : Int32) (σ : jM) : Option (Int32 × jM) :=
  (if 6 < l3 then some (0, σ) else (if l3 ≤ 0 then f_X11_readRow_34 rec2 l1 l2 l3 σ else bd (f_X11_isByte 46 σ) (fun r60 σ61 => (if r60 = 0 then f_X11_readRow_34 rec2 l1 l2 l3 σ61 else gd (inb l2 8) (bd (f_X11_advance  (wI σ61 (tabX l1 + 1) (Int32.toNatClampNeg l2) l3)) (fun _ σ66 => some (1, σ66)))))))
noncomputable def f_X11_readRow_2  (n : Nat) : Nat → Int32 → Int32 → jM → Option (Int32 × jM) := Nat.rec (motive := fun _ => Nat → Int32 → Int32 → jM → Option (Int32 × jM)) (fun _ _ _ _ => none) (fun _ q => s_X11_readRow_2  q) n
noncomputable def f_X11_readRow (a1 : Nat) (a2 : Int32) (σ : jM) : Option (Int32 × jM) :=
  f_X11_readRow_2  Fu a1 a2 0 σ
set_option maxRecDepth 20000 in
set_option maxHeartbeats 4000000 in
theorem t_X11_readRow_109 {rec2 : Nat → Int32 → Int32 → jM → Option (Int32 × jM)} (hrec2 : ∀ (l1 : Nat) (l2 : Int32) (l3 : Int32) (σ : jM) (r : Int32 × jM), l1 < 24 → rec2 l1 l2 l3 σ = some r → J mi_X11_readRow 4 0 0 (jqI r) 2 [(0, .ref 262), (1, .ref (tabX l1)), (2, .int l2), (3, .int l3)] [] (ms σ)) (l1 : Nat) (l2 : Int32) (l3 : Int32) (s0 : Nat) (s1 : Int32) (s2 : Int32) (σ : jM) (r : Int32 × jM) (hl1 : l1 < 24) (hs0 : (shf s0).1 = 14 ∧ s0 < 376) (h : f_X11_readRow_109 rec2 l1 l2 l3 s0 s1 s2 σ = some r) : J mi_X11_readRow 4 0 0 (jqI r) 109 [(0, .ref 262), (1, .ref (tabX l1)), (2, .int l2), (3, .int l3)] [.int s2, .int s1, .ref s0] (ms σ) := by
  unfold f_X11_readRow_109 at h
  obtain ⟨g8, h⟩ := gd_inv h
  refine M_iast dX11_readRow_109 (shf_fst hs0.1) hs0.2 g8 ?_
  refine J_aload_n 0 dX11_readRow_110 rfl ?_
  obtain ⟨_, σ10, h11, h⟩ := bd_inv h
  refine M_callVV (d' := 3) (k := 262) (As := []) (st := []) cv_X11_54 dX11_readRow_111 rfl (by decide) rfl (Nat.le_of_ble_eq_true rfl) (Nat.le_of_ble_eq_true rfl) (by decide) n_262 k_262 rfl rfl (t_X11_advance  h11) ?_
  refine J_iinc (v := (l3 + 1)) (ls' := [(3, .int (l3 + 1)), (0, .ref 262), (1, .ref (tabX l1)), (2, .int l2)]) 3 dX11_readRow_114 rfl rfl (by decide) rfl ?_
  refine J_goto (tgt := 2) dX11_readRow_117 (by decide) ?_
  refine J_pick [1, 2, 3, 0] rfl ?_
  exact hrec2 _ _ _ _ _ hl1 h
set_option maxRecDepth 20000 in
set_option maxHeartbeats 4000000 in
theorem t_X11_readRow_83 {rec2 : Nat → Int32 → Int32 → jM → Option (Int32 × jM)} (hrec2 : ∀ (l1 : Nat) (l2 : Int32) (l3 : Int32) (σ : jM) (r : Int32 × jM), l1 < 24 → rec2 l1 l2 l3 σ = some r → J mi_X11_readRow 4 0 0 (jqI r) 2 [(0, .ref 262), (1, .ref (tabX l1)), (2, .int l2), (3, .int l3)] [] (ms σ)) (l1 : Nat) (l2 : Int32) (l3 : Int32) (σ : jM) (r : Int32 × jM) (hl1 : l1 < 24) (h : f_X11_readRow_83 rec2 l1 l2 l3 σ = some r) : J mi_X11_readRow 4 0 0 (jqI r) 83 [(0, .ref 262), (1, .ref (tabX l1)), (2, .int l2), (3, .int l3)] [] (ms σ) := by
  unfold f_X11_readRow_83 at h
  refine J_aload_n 1 dX11_readRow_83 rfl ?_
  refine M_getR gf_X11_63_9 dX11_readRow_84 (g_tab4 _ hl1) (k_tab hl1) (n_tab hl1) ?_
  refine J_iload_n 2 dX11_readRow_87 rfl ?_
  refine J_bipush (v := 6) dX11_readRow_88 (by decide) ?_
  refine J_imul dX11_readRow_90 ?_
  refine J_iload_n 3 dX11_readRow_91 rfl ?_
  refine J_iadd dX11_readRow_92 ?_
  refine J_aload_n 0 dX11_readRow_93 rfl ?_
  refine M_getI gf_X11_29_10 dX11_readRow_94 k_262 n_262 ?_
  refine J_iconst (v := 2) dX11_readRow_97 (by decide) ?_
  refine J_icmp_ne (tgt := 108) dX11_readRow_98 (by decide) (fun c13 => ?_) (fun c13 => ?_)
  · have h := (if_neg c13).symm.trans h
    refine J_iconst (v := (-1)) dX11_readRow_108 (by decide) ?_
    exact t_X11_readRow_109 hrec2 _ _ _ _ _ _ _ _ hl1 ⟨congrArg Prod.fst (a_tab4 hl1), (na_tab4 hl1)⟩ h
  · have h := (if_pos c13).symm.trans h
    refine J_aload_n 0 dX11_readRow_101 rfl ?_
    refine M_getI gf_X11_57_10 dX11_readRow_102 k_262 n_262 ?_
    refine J_goto (tgt := 109) dX11_readRow_105 (by decide) ?_
    exact t_X11_readRow_109 hrec2 _ _ _ _ _ _ _ _ hl1 ⟨congrArg Prod.fst (a_tab4 hl1), (na_tab4 hl1)⟩ h
set_option maxRecDepth 20000 in
set_option maxHeartbeats 4000000 in
theorem t_X11_readRow_34 {rec2 : Nat → Int32 → Int32 → jM → Option (Int32 × jM)} (hrec2 : ∀ (l1 : Nat) (l2 : Int32) (l3 : Int32) (σ : jM) (r : Int32 × jM), l1 < 24 → rec2 l1 l2 l3 σ = some r → J mi_X11_readRow 4 0 0 (jqI r) 2 [(0, .ref 262), (1, .ref (tabX l1)), (2, .int l2), (3, .int l3)] [] (ms σ)) (l1 : Nat) (l2 : Int32) (l3 : Int32) (σ : jM) (r : Int32 × jM) (hl1 : l1 < 24) (h : f_X11_readRow_34 rec2 l1 l2 l3 σ = some r) : J mi_X11_readRow 4 0 0 (jqI r) 34 [(0, .ref 262), (1, .ref (tabX l1)), (2, .int l2), (3, .int l3)] [] (ms σ) := by
  unfold f_X11_readRow_34 at h
  refine J_aload_n 0 dX11_readRow_34 rfl ?_
  obtain ⟨r36, σ37, h38, h⟩ := bd_inv h
  refine M_callVI (d' := 2) (k := 262) (As := []) (st := []) cv_X11_37 dX11_readRow_35 rfl (by decide) rfl (Nat.le_of_ble_eq_true rfl) (Nat.le_of_ble_eq_true rfl) (by decide) n_262 k_262 rfl rfl (t_X11_beginsPlace  h38) ?_
  refine J_if_ne (tgt := 47) dX11_readRow_38 (by decide) (fun c39 => ?_) (fun c39 => ?_)
  · have h := (if_neg c39).symm.trans h
    refine J_iload_n 3 dX11_readRow_47 rfl ?_
    refine J_bipush (v := 6) dX11_readRow_48 (by decide) ?_
    refine J_icmp_ne (tgt := 59) dX11_readRow_50 (by decide) (fun c40 => ?_) (fun c40 => ?_)
    · have h := (if_neg c40).symm.trans h
      refine J_aload_n 0 dX11_readRow_59 rfl ?_
      refine M_getI gf_X11_29_10 dX11_readRow_60 k_262 n_262 ?_
      refine J_iconst (v := 2) dX11_readRow_63 (by decide) ?_
      refine J_icmp_ne (tgt := 83) dX11_readRow_64 (by decide) (fun c41 => ?_) (fun c41 => ?_)
      · have h := (if_neg c41).symm.trans h
        exact t_X11_readRow_83 hrec2 _ _ _ _ _ hl1 h
      · have h := (if_pos c41).symm.trans h
        refine J_aload_n 0 dX11_readRow_67 rfl ?_
        refine M_getI gf_X11_57_10 dX11_readRow_68 k_262 n_262 ?_
        obtain ⟨r42, σ43, h44, h⟩ := bd_inv h
        refine M_callNI (d' := 1) (As := [.int (rI σ37 262 7)]) (st := []) cn_X11_60 dX11_readRow_71 rfl (Nat.le_of_ble_eq_true rfl) (Nat.le_of_ble_eq_true rfl) (by decide) rfl rfl (t_X12_isSign  h44) ?_
        refine J_if_ne (tgt := 83) dX11_readRow_74 (by decide) (fun c45 => ?_) (fun c45 => ?_)
        · have h := (if_neg c45).symm.trans h
          exact t_X11_readRow_83 hrec2 _ _ _ _ _ hl1 h
        · have h := (if_pos c45).symm.trans h
          refine J_aload_n 0 dX11_readRow_77 rfl ?_
          refine J_iconst (v := 2) dX11_readRow_78 (by decide) ?_
          obtain ⟨r46, σ47, h48, h⟩ := bd_inv h
          refine M_callVI (d' := 1) (k := 262) (As := [.int 2]) (st := []) cv_X11_41 dX11_readRow_79 rfl (by decide) rfl (Nat.le_of_ble_eq_true rfl) (Nat.le_of_ble_eq_true rfl) (by decide) n_262 k_262 rfl rfl (t_X11_fault  h48) ?_
          obtain ⟨g49, h⟩ := gd_inv h
          exact J_ret (v := some (.int r46)) rfl ⟨dX11_readRow_82, Or.inr (Or.inl ⟨rfl, g49⟩)⟩ (jqI_mk h)
    · have h := (if_pos c40).symm.trans h
      refine J_aload_n 0 dX11_readRow_53 rfl ?_
      refine J_iconst (v := 3) dX11_readRow_54 (by decide) ?_
      obtain ⟨r50, σ51, h52, h⟩ := bd_inv h
      refine M_callVI (d' := 1) (k := 262) (As := [.int 3]) (st := []) cv_X11_41 dX11_readRow_55 rfl (by decide) rfl (Nat.le_of_ble_eq_true rfl) (Nat.le_of_ble_eq_true rfl) (by decide) n_262 k_262 rfl rfl (t_X11_fault  h52) ?_
      obtain ⟨g53, h⟩ := gd_inv h
      exact J_ret (v := some (.int r50)) rfl ⟨dX11_readRow_58, Or.inr (Or.inl ⟨rfl, g53⟩)⟩ (jqI_mk h)
  · have h := (if_pos c39).symm.trans h
    refine J_aload_n 0 dX11_readRow_41 rfl ?_
    refine J_iconst (v := 1) dX11_readRow_42 (by decide) ?_
    obtain ⟨r54, σ55, h56, h⟩ := bd_inv h
    refine M_callVI (d' := 1) (k := 262) (As := [.int 1]) (st := []) cv_X11_41 dX11_readRow_43 rfl (by decide) rfl (Nat.le_of_ble_eq_true rfl) (Nat.le_of_ble_eq_true rfl) (by decide) n_262 k_262 rfl rfl (t_X11_fault  h56) ?_
    obtain ⟨g57, h⟩ := gd_inv h
    exact J_ret (v := some (.int r54)) rfl ⟨dX11_readRow_46, Or.inr (Or.inl ⟨rfl, g57⟩)⟩ (jqI_mk h)
set_option maxRecDepth 20000 in
set_option maxHeartbeats 4000000 in
theorem t_X11_readRow_2  : ∀ (n : Nat) (l1 : Nat) (l2 : Int32) (l3 : Int32) (σ : jM) (r : Int32 × jM), l1 < 24 → f_X11_readRow_2  n l1 l2 l3 σ = some r → J mi_X11_readRow 4 0 0 (jqI r) 2 [(0, .ref 262), (1, .ref (tabX l1)), (2, .int l2), (3, .int l3)] [] (ms σ) := by
  intro n
  induction n with
  | zero =>
    intro l1 l2 l3 σ r hl1 h
    have h : (none : Option (Int32 × jM)) = some r := h
    cases h
  | succ n ih =>
    intro l1 l2 l3 σ r hl1 h
    have h : s_X11_readRow_2  (f_X11_readRow_2  n) l1 l2 l3 σ = some r := h
    unfold s_X11_readRow_2 at h
    refine J_iload_n 3 dX11_readRow_2 rfl ?_
    refine J_bipush (v := 6) dX11_readRow_3 (by decide) ?_
    refine J_icmp_gt (tgt := 120) dX11_readRow_5 (by decide) (fun c68 => ?_) (fun c68 => ?_)
    · have h := (if_pos c68).symm.trans h
      refine J_iconst (v := 0) dX11_readRow_120 (by decide) ?_
      exact J_ret (v := some (.int 0)) rfl ⟨dX11_readRow_121, Or.inr (Or.inl ⟨rfl, Or.inl rfl⟩)⟩ (jqI_mk h)
    · have h := (if_neg c68).symm.trans h
      refine J_iload_n 3 dX11_readRow_8 rfl ?_
      refine J_if_le (tgt := 34) dX11_readRow_9 (by decide) (fun c69 => ?_) (fun c69 => ?_)
      · have h := (if_pos c69).symm.trans h
        exact t_X11_readRow_34 ih _ _ _ _ _ hl1 h
      · have h := (if_neg c69).symm.trans h
        refine J_aload_n 0 dX11_readRow_12 rfl ?_
        refine J_bipush (v := 46) dX11_readRow_13 (by decide) ?_
        obtain ⟨r70, σ71, h72, h⟩ := bd_inv h
        refine M_callVI (d' := 1) (k := 262) (As := [.int 46]) (st := []) cv_X11_48 dX11_readRow_15 rfl (by decide) rfl (Nat.le_of_ble_eq_true rfl) (Nat.le_of_ble_eq_true rfl) (by decide) n_262 k_262 rfl rfl (t_X11_isByte  h72) ?_
        refine J_if_eq (tgt := 34) dX11_readRow_18 (by decide) (fun c73 => ?_) (fun c73 => ?_)
        · have h := (if_pos c73).symm.trans h
          exact t_X11_readRow_34 ih _ _ _ _ _ hl1 h
        · have h := (if_neg c73).symm.trans h
          refine J_aload_n 1 dX11_readRow_21 rfl ?_
          refine M_getR gf_X11_51_9 dX11_readRow_22 (g_tab3 _ hl1) (k_tab hl1) (n_tab hl1) ?_
          refine J_iload_n 2 dX11_readRow_25 rfl ?_
          refine J_iload_n 3 dX11_readRow_26 rfl ?_
          obtain ⟨g74, h⟩ := gd_inv h
          refine M_iast dX11_readRow_27 (a_tab3 hl1) (na_tab3 hl1) g74 ?_
          refine J_aload_n 0 dX11_readRow_28 rfl ?_
          obtain ⟨_, σ76, h77, h⟩ := bd_inv h
          refine M_callVV (d' := 3) (k := 262) (As := []) (st := []) cv_X11_54 dX11_readRow_29 rfl (by decide) rfl (Nat.le_of_ble_eq_true rfl) (Nat.le_of_ble_eq_true rfl) (by decide) n_262 k_262 rfl rfl (t_X11_advance  h77) ?_
          refine J_iconst (v := 1) dX11_readRow_32 (by decide) ?_
          exact J_ret (v := some (.int 1)) rfl ⟨dX11_readRow_33, Or.inr (Or.inl ⟨rfl, Or.inr rfl⟩)⟩ (jqI_mk h)
set_option maxRecDepth 20000 in
set_option maxHeartbeats 4000000 in
theorem t_X11_readRow {a1 : Nat} {a2 : Int32} {σ : jM} {r : Int32 × jM} (ha1 : a1 < 24) (h : f_X11_readRow a1 a2 σ = some r) : J mi_X11_readRow 4 0 0 (jqI r) 0 [(0, .ref 262), (1, .ref (tabX a1)), (2, .int a2)] [] (ms σ) := by
  unfold f_X11_readRow at h
  refine J_iconst (v := 0) dX11_readRow_0 (by decide) ?_
  refine J_istore_n (i := 3) (ls' := [(3, .int 0), (0, .ref 262), (1, .ref (tabX a1)), (2, .int a2)]) dX11_readRow_1 rfl (by decide) rfl ?_
  refine J_pick [1, 2, 3, 0] rfl ?_
  exact t_X11_readRow_2  _ _ _ _ _ _ ha1 h
theorem dX11_readWhere_0 : decode cX11_readWhere 0 = .ok (.aload_n 0, 1) := by decide +kernel
theorem dX11_readWhere_1 : decode cX11_readWhere 1 = .ok (.ldc 120, 2) := by decide +kernel
theorem dX11_readWhere_3 : decode cX11_readWhere 3 = .ok (.invokevirtual 84, 3) := by decide +kernel
theorem dX11_readWhere_6 : decode cX11_readWhere 6 = .ok (.ifCond .eq 13, 3) := by decide +kernel
theorem dX11_readWhere_9 : decode cX11_readWhere 9 = .ok (.aload_n 1, 1) := by decide +kernel
theorem dX11_readWhere_10 : decode cX11_readWhere 10 = .ok (.getfield 122, 3) := by decide +kernel
theorem dX11_readWhere_13 : decode cX11_readWhere 13 = .ok (.iload_n 2, 1) := by decide +kernel
theorem dX11_readWhere_14 : decode cX11_readWhere 14 = .ok (.iconst 1, 1) := by decide +kernel
theorem dX11_readWhere_15 : decode cX11_readWhere 15 = .ok (.iastore, 1) := by decide +kernel
theorem dX11_readWhere_16 : decode cX11_readWhere 16 = .ok (.goto 47, 3) := by decide +kernel
theorem dX11_readWhere_19 : decode cX11_readWhere 19 = .ok (.aload_n 0, 1) := by decide +kernel
theorem dX11_readWhere_20 : decode cX11_readWhere 20 = .ok (.ldc 125, 2) := by decide +kernel
theorem dX11_readWhere_22 : decode cX11_readWhere 22 = .ok (.invokevirtual 84, 3) := by decide +kernel
theorem dX11_readWhere_25 : decode cX11_readWhere 25 = .ok (.ifCond .eq 13, 3) := by decide +kernel
theorem dX11_readWhere_28 : decode cX11_readWhere 28 = .ok (.aload_n 1, 1) := by decide +kernel
theorem dX11_readWhere_29 : decode cX11_readWhere 29 = .ok (.getfield 122, 3) := by decide +kernel
theorem dX11_readWhere_32 : decode cX11_readWhere 32 = .ok (.iload_n 2, 1) := by decide +kernel
theorem dX11_readWhere_33 : decode cX11_readWhere 33 = .ok (.iconst 0, 1) := by decide +kernel
theorem dX11_readWhere_34 : decode cX11_readWhere 34 = .ok (.iastore, 1) := by decide +kernel
theorem dX11_readWhere_35 : decode cX11_readWhere 35 = .ok (.goto 28, 3) := by decide +kernel
theorem dX11_readWhere_38 : decode cX11_readWhere 38 = .ok (.aload_n 0, 1) := by decide +kernel
theorem dX11_readWhere_39 : decode cX11_readWhere 39 = .ok (.iconst 1, 1) := by decide +kernel
theorem dX11_readWhere_40 : decode cX11_readWhere 40 = .ok (.bipush 6, 2) := by decide +kernel
theorem dX11_readWhere_42 : decode cX11_readWhere 42 = .ok (.invokevirtual 127, 3) := by decide +kernel
theorem dX11_readWhere_45 : decode cX11_readWhere 45 = .ok (.ifCond .eq 16, 3) := by decide +kernel
theorem dX11_readWhere_48 : decode cX11_readWhere 48 = .ok (.aload_n 1, 1) := by decide +kernel
theorem dX11_readWhere_49 : decode cX11_readWhere 49 = .ok (.getfield 122, 3) := by decide +kernel
theorem dX11_readWhere_52 : decode cX11_readWhere 52 = .ok (.iload_n 2, 1) := by decide +kernel
theorem dX11_readWhere_53 : decode cX11_readWhere 53 = .ok (.aload_n 0, 1) := by decide +kernel
theorem dX11_readWhere_54 : decode cX11_readWhere 54 = .ok (.getfield 57, 3) := by decide +kernel
theorem dX11_readWhere_57 : decode cX11_readWhere 57 = .ok (.iastore, 1) := by decide +kernel
theorem dX11_readWhere_58 : decode cX11_readWhere 58 = .ok (.goto 5, 3) := by decide +kernel
theorem dX11_readWhere_61 : decode cX11_readWhere 61 = .ok (.iconst 0, 1) := by decide +kernel
theorem dX11_readWhere_62 : decode cX11_readWhere 62 = .ok (.ireturn, 1) := by decide +kernel
theorem dX11_readWhere_63 : decode cX11_readWhere 63 = .ok (.aload_n 0, 1) := by decide +kernel
theorem dX11_readWhere_64 : decode cX11_readWhere 64 = .ok (.invokevirtual 54, 3) := by decide +kernel
theorem dX11_readWhere_67 : decode cX11_readWhere 67 = .ok (.iconst 1, 1) := by decide +kernel
theorem dX11_readWhere_68 : decode cX11_readWhere 68 = .ok (.ireturn, 1) := by decide +kernel
noncomputable def f_X11_readWhere_63   (σ : jM) : Option (Int32 × jM) :=
  bd (f_X11_advance  σ) (fun _ σ5 => some (1, σ5))
noncomputable def f_X11_readWhere (a1 : Nat) (a2 : Int32) (σ : jM) : Option (Int32 × jM) :=
  bd (f_X11_isWord 5 σ) (fun r10 σ11 => (if r10 = 0 then bd (f_X11_isWord 6 σ11) (fun r14 σ15 => (if r14 = 0 then bd (f_X11_isNumber 1 6 σ15) (fun r18 σ19 => (if r18 = 0 then some (0, σ19) else gd (inb a2 12) (f_X11_readWhere_63   (wI σ19 (rulX a1 + 2) (Int32.toNatClampNeg a2) (rI σ19 262 7))))) else gd (inb a2 12) (f_X11_readWhere_63   (wI σ15 (rulX a1 + 2) (Int32.toNatClampNeg a2) 0)))) else gd (inb a2 12) (f_X11_readWhere_63   (wI σ11 (rulX a1 + 2) (Int32.toNatClampNeg a2) 1))))
set_option maxRecDepth 20000 in
set_option maxHeartbeats 4000000 in
theorem t_X11_readWhere_63   (σ : jM) (r : Int32 × jM)  (h : f_X11_readWhere_63   σ = some r) : J mi_X11_readWhere 7 0 0 (jqI r) 63 [(0, .ref 262)] [] (ms σ) := by
  unfold f_X11_readWhere_63 at h
  refine J_aload_n 0 dX11_readWhere_63 rfl ?_
  obtain ⟨_, σ8, h9, h⟩ := bd_inv h
  refine M_callVV (d' := 3) (k := 262) (As := []) (st := []) cv_X11_54 dX11_readWhere_64 rfl (by decide) rfl (Nat.le_of_ble_eq_true rfl) (Nat.le_of_ble_eq_true rfl) (by decide) n_262 k_262 rfl rfl (t_X11_advance  h9) ?_
  refine J_iconst (v := 1) dX11_readWhere_67 (by decide) ?_
  exact J_ret (v := some (.int 1)) rfl ⟨dX11_readWhere_68, Or.inr (Or.inl ⟨rfl, Or.inr rfl⟩)⟩ (jqI_mk h)
set_option maxRecDepth 20000 in
set_option maxHeartbeats 4000000 in
theorem t_X11_readWhere {a1 : Nat} {a2 : Int32} {σ : jM} {r : Int32 × jM}  (h : f_X11_readWhere a1 a2 σ = some r) : J mi_X11_readWhere 7 0 0 (jqI r) 0 [(0, .ref 262), (1, .ref (rulX a1)), (2, .int a2)] [] (ms σ) := by
  unfold f_X11_readWhere at h
  refine J_aload_n 0 dX11_readWhere_0 rfl ?_
  refine M_ldcS (w := 5) (tx := "first") dX11_readWhere_1 (by decide +kernel) ?_
  obtain ⟨r10, σ11, h12, h⟩ := bd_inv h
  refine M_callVI (d' := 6) (k := 262) (As := [.ref (1000000 + 5)]) (st := []) cv_X11_84 dX11_readWhere_3 rfl (by decide) rfl (Nat.le_of_ble_eq_true rfl) (Nat.le_of_ble_eq_true rfl) (by decide) n_262 k_262 rfl rfl (t_X11_isWord (by decide) h12) ?_
  refine J_if_eq (tgt := 19) dX11_readWhere_6 (by decide) (fun c13 => ?_) (fun c13 => ?_)
  · have h := (if_pos c13).symm.trans h
    refine J_aload_n 0 dX11_readWhere_19 rfl ?_
    refine M_ldcS (w := 6) (tx := "last") dX11_readWhere_20 (by decide +kernel) ?_
    obtain ⟨r14, σ15, h16, h⟩ := bd_inv h
    refine M_callVI (d' := 6) (k := 262) (As := [.ref (1000000 + 6)]) (st := []) cv_X11_84 dX11_readWhere_22 rfl (by decide) rfl (Nat.le_of_ble_eq_true rfl) (Nat.le_of_ble_eq_true rfl) (by decide) n_262 k_262 rfl rfl (t_X11_isWord (by decide) h16) ?_
    refine J_if_eq (tgt := 38) dX11_readWhere_25 (by decide) (fun c17 => ?_) (fun c17 => ?_)
    · have h := (if_pos c17).symm.trans h
      refine J_aload_n 0 dX11_readWhere_38 rfl ?_
      refine J_iconst (v := 1) dX11_readWhere_39 (by decide) ?_
      refine J_bipush (v := 6) dX11_readWhere_40 (by decide) ?_
      obtain ⟨r18, σ19, h20, h⟩ := bd_inv h
      refine M_callVI (d' := 2) (k := 262) (As := [.int 1, .int 6]) (st := []) cv_X11_127 dX11_readWhere_42 rfl (by decide) rfl (Nat.le_of_ble_eq_true rfl) (Nat.le_of_ble_eq_true rfl) (by decide) n_262 k_262 rfl rfl (t_X11_isNumber  h20) ?_
      refine J_if_eq (tgt := 61) dX11_readWhere_45 (by decide) (fun c21 => ?_) (fun c21 => ?_)
      · have h := (if_pos c21).symm.trans h
        refine J_iconst (v := 0) dX11_readWhere_61 (by decide) ?_
        exact J_ret (v := some (.int 0)) rfl ⟨dX11_readWhere_62, Or.inr (Or.inl ⟨rfl, Or.inl rfl⟩)⟩ (jqI_mk h)
      · have h := (if_neg c21).symm.trans h
        refine J_aload_n 1 dX11_readWhere_48 rfl ?_
        refine M_getR gf_X11_122_6 dX11_readWhere_49 (gg_rul3 _ a1) (kk_rul a1) (nn_rul a1) ?_
        refine J_iload_n 2 dX11_readWhere_52 rfl ?_
        refine J_aload_n 0 dX11_readWhere_53 rfl ?_
        refine M_getI gf_X11_57_10 dX11_readWhere_54 k_262 n_262 ?_
        obtain ⟨g22, h⟩ := gd_inv h
        refine M_iast dX11_readWhere_57 (aa_rul3 a1) (nna_rul3 a1) g22 ?_
        refine J_goto (tgt := 63) dX11_readWhere_58 (by decide) ?_
        refine J_pick [0] rfl ?_
        exact t_X11_readWhere_63   _ _  h
    · have h := (if_neg c17).symm.trans h
      refine J_aload_n 1 dX11_readWhere_28 rfl ?_
      refine M_getR gf_X11_122_6 dX11_readWhere_29 (gg_rul3 _ a1) (kk_rul a1) (nn_rul a1) ?_
      refine J_iload_n 2 dX11_readWhere_32 rfl ?_
      refine J_iconst (v := 0) dX11_readWhere_33 (by decide) ?_
      obtain ⟨g23, h⟩ := gd_inv h
      refine M_iast dX11_readWhere_34 (aa_rul3 a1) (nna_rul3 a1) g23 ?_
      refine J_goto (tgt := 63) dX11_readWhere_35 (by decide) ?_
      refine J_pick [0] rfl ?_
      exact t_X11_readWhere_63   _ _  h
  · have h := (if_neg c13).symm.trans h
    refine J_aload_n 1 dX11_readWhere_9 rfl ?_
    refine M_getR gf_X11_122_6 dX11_readWhere_10 (gg_rul3 _ a1) (kk_rul a1) (nn_rul a1) ?_
    refine J_iload_n 2 dX11_readWhere_13 rfl ?_
    refine J_iconst (v := 1) dX11_readWhere_14 (by decide) ?_
    obtain ⟨g24, h⟩ := gd_inv h
    refine M_iast dX11_readWhere_15 (aa_rul3 a1) (nna_rul3 a1) g24 ?_
    refine J_goto (tgt := 63) dX11_readWhere_16 (by decide) ?_
    refine J_pick [0] rfl ?_
    exact t_X11_readWhere_63   _ _  h
theorem dX11_readOption_0 : decode cX11_readOption 0 = .ok (.aload_n 0, 1) := by decide +kernel
theorem dX11_readOption_1 : decode cX11_readOption 1 = .ok (.aload_n 1, 1) := by decide +kernel
theorem dX11_readOption_2 : decode cX11_readOption 2 = .ok (.invokevirtual 84, 3) := by decide +kernel
theorem dX11_readOption_5 : decode cX11_readOption 5 = .ok (.ifCond .ne 5, 3) := by decide +kernel
theorem dX11_readOption_8 : decode cX11_readOption 8 = .ok (.iconst 1, 1) := by decide +kernel
theorem dX11_readOption_9 : decode cX11_readOption 9 = .ok (.ireturn, 1) := by decide +kernel
theorem dX11_readOption_10 : decode cX11_readOption 10 = .ok (.aload_n 0, 1) := by decide +kernel
theorem dX11_readOption_11 : decode cX11_readOption 11 = .ok (.invokevirtual 54, 3) := by decide +kernel
theorem dX11_readOption_14 : decode cX11_readOption 14 = .ok (.aload_n 0, 1) := by decide +kernel
theorem dX11_readOption_15 : decode cX11_readOption 15 = .ok (.iload 4, 2) := by decide +kernel
theorem dX11_readOption_17 : decode cX11_readOption 17 = .ok (.iload 5, 2) := by decide +kernel
theorem dX11_readOption_19 : decode cX11_readOption 19 = .ok (.invokevirtual 127, 3) := by decide +kernel
theorem dX11_readOption_22 : decode cX11_readOption 22 = .ok (.ifCond .ne 5, 3) := by decide +kernel
theorem dX11_readOption_25 : decode cX11_readOption 25 = .ok (.iconst 0, 1) := by decide +kernel
theorem dX11_readOption_26 : decode cX11_readOption 26 = .ok (.ireturn, 1) := by decide +kernel
theorem dX11_readOption_27 : decode cX11_readOption 27 = .ok (.aload_n 2, 1) := by decide +kernel
theorem dX11_readOption_28 : decode cX11_readOption 28 = .ok (.iload_n 3, 1) := by decide +kernel
theorem dX11_readOption_29 : decode cX11_readOption 29 = .ok (.aload_n 0, 1) := by decide +kernel
theorem dX11_readOption_30 : decode cX11_readOption 30 = .ok (.getfield 57, 3) := by decide +kernel
theorem dX11_readOption_33 : decode cX11_readOption 33 = .ok (.iastore, 1) := by decide +kernel
theorem dX11_readOption_34 : decode cX11_readOption 34 = .ok (.aload_n 0, 1) := by decide +kernel
theorem dX11_readOption_35 : decode cX11_readOption 35 = .ok (.invokevirtual 54, 3) := by decide +kernel
theorem dX11_readOption_38 : decode cX11_readOption 38 = .ok (.iconst 1, 1) := by decide +kernel
theorem dX11_readOption_39 : decode cX11_readOption 39 = .ok (.ireturn, 1) := by decide +kernel
noncomputable def f_X11_readOption (a1 : Nat) (a2 : Nat) (a3 : Int32) (a4 : Int32) (a5 : Int32) (σ : jM) : Option (Int32 × jM) :=
  bd (f_X11_isWord a1 σ) (fun r2 σ3 => (if r2 = 0 then some (1, σ3) else bd (f_X11_advance  σ3) (fun _ σ7 => bd (f_X11_isNumber a4 a5 σ7) (fun r9 σ10 => (if r9 = 0 then some (0, σ10) else gd (inb a3 (shf a2).2) (bd (f_X11_advance  (wI σ10 a2 (Int32.toNatClampNeg a3) (rI σ10 262 7))) (fun _ σ15 => some (1, σ15))))))))
set_option maxRecDepth 20000 in
set_option maxHeartbeats 4000000 in
theorem t_X11_readOption {a1 : Nat} {a2 : Nat} {a3 : Int32} {a4 : Int32} {a5 : Int32} {σ : jM} {r : Int32 × jM} (ha1 : a1 < 12) (ha2 : (shf a2).1 = 14 ∧ a2 < 376) (h : f_X11_readOption a1 a2 a3 a4 a5 σ = some r) : J mi_X11_readOption 7 0 0 (jqI r) 0 [(0, .ref 262), (1, .ref (1000000 + a1)), (2, .ref a2), (3, .int a3), (4, .int a4), (5, .int a5)] [] (ms σ) := by
  unfold f_X11_readOption at h
  refine J_aload_n 0 dX11_readOption_0 rfl ?_
  refine J_aload_n 1 dX11_readOption_1 rfl ?_
  obtain ⟨r2, σ3, h4, h⟩ := bd_inv h
  refine M_callVI (d' := 6) (k := 262) (As := [.ref (1000000 + a1)]) (st := []) cv_X11_84 dX11_readOption_2 rfl (by decide) rfl (Nat.le_of_ble_eq_true rfl) (Nat.le_of_ble_eq_true rfl) (by decide) n_262 k_262 rfl rfl (t_X11_isWord ha1 h4) ?_
  refine J_if_ne (tgt := 10) dX11_readOption_5 (by decide) (fun c5 => ?_) (fun c5 => ?_)
  · have h := (if_neg c5).symm.trans h
    refine J_aload_n 0 dX11_readOption_10 rfl ?_
    obtain ⟨_, σ7, h8, h⟩ := bd_inv h
    refine M_callVV (d' := 3) (k := 262) (As := []) (st := []) cv_X11_54 dX11_readOption_11 rfl (by decide) rfl (Nat.le_of_ble_eq_true rfl) (Nat.le_of_ble_eq_true rfl) (by decide) n_262 k_262 rfl rfl (t_X11_advance  h8) ?_
    refine J_aload_n 0 dX11_readOption_14 rfl ?_
    refine J_iload 4 dX11_readOption_15 rfl ?_
    refine J_iload 5 dX11_readOption_17 rfl ?_
    obtain ⟨r9, σ10, h11, h⟩ := bd_inv h
    refine M_callVI (d' := 2) (k := 262) (As := [.int a4, .int a5]) (st := []) cv_X11_127 dX11_readOption_19 rfl (by decide) rfl (Nat.le_of_ble_eq_true rfl) (Nat.le_of_ble_eq_true rfl) (by decide) n_262 k_262 rfl rfl (t_X11_isNumber  h11) ?_
    refine J_if_ne (tgt := 27) dX11_readOption_22 (by decide) (fun c12 => ?_) (fun c12 => ?_)
    · have h := (if_neg c12).symm.trans h
      refine J_aload_n 2 dX11_readOption_27 rfl ?_
      refine J_iload_n 3 dX11_readOption_28 rfl ?_
      refine J_aload_n 0 dX11_readOption_29 rfl ?_
      refine M_getI gf_X11_57_10 dX11_readOption_30 k_262 n_262 ?_
      obtain ⟨g13, h⟩ := gd_inv h
      refine M_iast dX11_readOption_33 (shf_fst ha2.1) ha2.2 g13 ?_
      refine J_aload_n 0 dX11_readOption_34 rfl ?_
      obtain ⟨_, σ15, h16, h⟩ := bd_inv h
      refine M_callVV (d' := 3) (k := 262) (As := []) (st := []) cv_X11_54 dX11_readOption_35 rfl (by decide) rfl (Nat.le_of_ble_eq_true rfl) (Nat.le_of_ble_eq_true rfl) (by decide) n_262 k_262 rfl rfl (t_X11_advance  h16) ?_
      refine J_iconst (v := 1) dX11_readOption_38 (by decide) ?_
      exact J_ret (v := some (.int 1)) rfl ⟨dX11_readOption_39, Or.inr (Or.inl ⟨rfl, Or.inr rfl⟩)⟩ (jqI_mk h)
    · have h := (if_pos c12).symm.trans h
      refine J_iconst (v := 0) dX11_readOption_25 (by decide) ?_
      exact J_ret (v := some (.int 0)) rfl ⟨dX11_readOption_26, Or.inr (Or.inl ⟨rfl, Or.inl rfl⟩)⟩ (jqI_mk h)
  · have h := (if_pos c5).symm.trans h
    refine J_iconst (v := 1) dX11_readOption_8 (by decide) ?_
    exact J_ret (v := some (.int 1)) rfl ⟨dX11_readOption_9, Or.inr (Or.inl ⟨rfl, Or.inr rfl⟩)⟩ (jqI_mk h)
theorem dX11_readWrite_0 : decode cX11_readWrite 0 = .ok (.aload_n 0, 1) := by decide +kernel
theorem dX11_readWrite_1 : decode cX11_readWrite 1 = .ok (.invokevirtual 131, 3) := by decide +kernel
theorem dX11_readWrite_4 : decode cX11_readWrite 4 = .ok (.ifCond .ne 9, 3) := by decide +kernel
theorem dX11_readWrite_7 : decode cX11_readWrite 7 = .ok (.aload_n 0, 1) := by decide +kernel
theorem dX11_readWrite_8 : decode cX11_readWrite 8 = .ok (.iconst 1, 1) := by decide +kernel
theorem dX11_readWrite_9 : decode cX11_readWrite 9 = .ok (.invokevirtual 41, 3) := by decide +kernel
theorem dX11_readWrite_12 : decode cX11_readWrite 12 = .ok (.ireturn, 1) := by decide +kernel
theorem dX11_readWrite_13 : decode cX11_readWrite 13 = .ok (.aload_n 1, 1) := by decide +kernel
theorem dX11_readWrite_14 : decode cX11_readWrite 14 = .ok (.getfield 134, 3) := by decide +kernel
theorem dX11_readWrite_17 : decode cX11_readWrite 17 = .ok (.iload_n 2, 1) := by decide +kernel
theorem dX11_readWrite_18 : decode cX11_readWrite 18 = .ok (.aload_n 0, 1) := by decide +kernel
theorem dX11_readWrite_19 : decode cX11_readWrite 19 = .ok (.getfield 9, 3) := by decide +kernel
theorem dX11_readWrite_22 : decode cX11_readWrite 22 = .ok (.aload_n 0, 1) := by decide +kernel
theorem dX11_readWrite_23 : decode cX11_readWrite 23 = .ok (.getfield 137, 3) := by decide +kernel
theorem dX11_readWrite_26 : decode cX11_readWrite 26 = .ok (.iaload, 1) := by decide +kernel
theorem dX11_readWrite_27 : decode cX11_readWrite 27 = .ok (.iastore, 1) := by decide +kernel
theorem dX11_readWrite_28 : decode cX11_readWrite 28 = .ok (.aload_n 0, 1) := by decide +kernel
theorem dX11_readWrite_29 : decode cX11_readWrite 29 = .ok (.invokevirtual 54, 3) := by decide +kernel
theorem dX11_readWrite_32 : decode cX11_readWrite 32 = .ok (.aload_n 0, 1) := by decide +kernel
theorem dX11_readWrite_33 : decode cX11_readWrite 33 = .ok (.ldc 140, 2) := by decide +kernel
theorem dX11_readWrite_35 : decode cX11_readWrite 35 = .ok (.invokevirtual 84, 3) := by decide +kernel
theorem dX11_readWrite_38 : decode cX11_readWrite 38 = .ok (.ifCond .ne 9, 3) := by decide +kernel
theorem dX11_readWrite_41 : decode cX11_readWrite 41 = .ok (.aload_n 0, 1) := by decide +kernel
theorem dX11_readWrite_42 : decode cX11_readWrite 42 = .ok (.iconst 1, 1) := by decide +kernel
theorem dX11_readWrite_43 : decode cX11_readWrite 43 = .ok (.invokevirtual 41, 3) := by decide +kernel
theorem dX11_readWrite_46 : decode cX11_readWrite 46 = .ok (.ireturn, 1) := by decide +kernel
theorem dX11_readWrite_47 : decode cX11_readWrite 47 = .ok (.aload_n 0, 1) := by decide +kernel
theorem dX11_readWrite_48 : decode cX11_readWrite 48 = .ok (.invokevirtual 54, 3) := by decide +kernel
theorem dX11_readWrite_51 : decode cX11_readWrite 51 = .ok (.aload_n 0, 1) := by decide +kernel
theorem dX11_readWrite_52 : decode cX11_readWrite 52 = .ok (.invokevirtual 131, 3) := by decide +kernel
theorem dX11_readWrite_55 : decode cX11_readWrite 55 = .ok (.ifCond .ne 9, 3) := by decide +kernel
theorem dX11_readWrite_58 : decode cX11_readWrite 58 = .ok (.aload_n 0, 1) := by decide +kernel
theorem dX11_readWrite_59 : decode cX11_readWrite 59 = .ok (.iconst 1, 1) := by decide +kernel
theorem dX11_readWrite_60 : decode cX11_readWrite 60 = .ok (.invokevirtual 41, 3) := by decide +kernel
theorem dX11_readWrite_63 : decode cX11_readWrite 63 = .ok (.ireturn, 1) := by decide +kernel
theorem dX11_readWrite_64 : decode cX11_readWrite 64 = .ok (.aload_n 1, 1) := by decide +kernel
theorem dX11_readWrite_65 : decode cX11_readWrite 65 = .ok (.getfield 142, 3) := by decide +kernel
theorem dX11_readWrite_68 : decode cX11_readWrite 68 = .ok (.iload_n 2, 1) := by decide +kernel
theorem dX11_readWrite_69 : decode cX11_readWrite 69 = .ok (.aload_n 0, 1) := by decide +kernel
theorem dX11_readWrite_70 : decode cX11_readWrite 70 = .ok (.getfield 9, 3) := by decide +kernel
theorem dX11_readWrite_73 : decode cX11_readWrite 73 = .ok (.aload_n 0, 1) := by decide +kernel
theorem dX11_readWrite_74 : decode cX11_readWrite 74 = .ok (.getfield 137, 3) := by decide +kernel
theorem dX11_readWrite_77 : decode cX11_readWrite 77 = .ok (.iaload, 1) := by decide +kernel
theorem dX11_readWrite_78 : decode cX11_readWrite 78 = .ok (.iastore, 1) := by decide +kernel
theorem dX11_readWrite_79 : decode cX11_readWrite 79 = .ok (.aload_n 1, 1) := by decide +kernel
theorem dX11_readWrite_80 : decode cX11_readWrite 80 = .ok (.getfield 134, 3) := by decide +kernel
theorem dX11_readWrite_83 : decode cX11_readWrite 83 = .ok (.iload_n 2, 1) := by decide +kernel
theorem dX11_readWrite_84 : decode cX11_readWrite 84 = .ok (.iaload, 1) := by decide +kernel
theorem dX11_readWrite_85 : decode cX11_readWrite 85 = .ok (.invokestatic 145, 3) := by decide +kernel
theorem dX11_readWrite_88 : decode cX11_readWrite 88 = .ok (.aload_n 1, 1) := by decide +kernel
theorem dX11_readWrite_89 : decode cX11_readWrite 89 = .ok (.getfield 142, 3) := by decide +kernel
theorem dX11_readWrite_92 : decode cX11_readWrite 92 = .ok (.iload_n 2, 1) := by decide +kernel
theorem dX11_readWrite_93 : decode cX11_readWrite 93 = .ok (.iaload, 1) := by decide +kernel
theorem dX11_readWrite_94 : decode cX11_readWrite 94 = .ok (.invokestatic 145, 3) := by decide +kernel
theorem dX11_readWrite_97 : decode cX11_readWrite 97 = .ok (.if_icmp .eq 9, 3) := by decide +kernel
theorem dX11_readWrite_100 : decode cX11_readWrite 100 = .ok (.aload_n 0, 1) := by decide +kernel
theorem dX11_readWrite_101 : decode cX11_readWrite 101 = .ok (.iconst 2, 1) := by decide +kernel
theorem dX11_readWrite_102 : decode cX11_readWrite 102 = .ok (.invokevirtual 41, 3) := by decide +kernel
theorem dX11_readWrite_105 : decode cX11_readWrite 105 = .ok (.ireturn, 1) := by decide +kernel
theorem dX11_readWrite_106 : decode cX11_readWrite 106 = .ok (.aload_n 0, 1) := by decide +kernel
theorem dX11_readWrite_107 : decode cX11_readWrite 107 = .ok (.invokevirtual 54, 3) := by decide +kernel
theorem dX11_readWrite_110 : decode cX11_readWrite 110 = .ok (.iconst 1, 1) := by decide +kernel
theorem dX11_readWrite_111 : decode cX11_readWrite 111 = .ok (.ireturn, 1) := by decide +kernel
noncomputable def f_X11_readWrite (a1 : Nat) (a2 : Int32) (σ : jM) : Option (Int32 × jM) :=
  bd (f_X11_isLetter  σ) (fun r7 σ8 => (if r7 = 0 then bd (f_X11_fault 1 σ8) (fun r53 σ54 => gd (r53 = 0 ∨ r53 = 1) (some (r53, σ54))) else gd (inb (rI σ8 262 5) 300) (gd (inb a2 12) (bd (f_X11_advance  (wI σ8 (rulX a1 + 5) (Int32.toNatClampNeg a2) (rI σ8 263 (Int32.toNatClampNeg (rI σ8 262 5))))) (fun _ σ14 => bd (f_X11_isWord 4 σ14) (fun r16 σ17 => (if r16 = 0 then bd (f_X11_fault 1 σ17) (fun r49 σ50 => gd (r49 = 0 ∨ r49 = 1) (some (r49, σ50))) else bd (f_X11_advance  σ17) (fun _ σ21 => bd (f_X11_isLetter  σ21) (fun r23 σ24 => (if r23 = 0 then bd (f_X11_fault 1 σ24) (fun r45 σ46 => gd (r45 = 0 ∨ r45 = 1) (some (r45, σ46))) else gd (inb (rI σ24 262 5) 300) (gd (inb a2 12) (gd (inb a2 12) (bd (f_X12_isVowel (rI (wI σ24 (rulX a1 + 6) (Int32.toNatClampNeg a2) (rI σ24 263 (Int32.toNatClampNeg (rI σ24 262 5)))) (rulX a1 + 5) (Int32.toNatClampNeg a2)) (wI σ24 (rulX a1 + 6) (Int32.toNatClampNeg a2) (rI σ24 263 (Int32.toNatClampNeg (rI σ24 262 5))))) (fun r30 σ31 => gd (inb a2 12) (bd (f_X12_isVowel (rI σ31 (rulX a1 + 6) (Int32.toNatClampNeg a2)) σ31) (fun r34 σ35 => (if r30 = r34 then bd (f_X11_advance  σ35) (fun _ σ39 => some (1, σ39)) else bd (f_X11_fault 2 σ35) (fun r41 σ42 => gd (r41 = 0 ∨ r41 = 1) (some (r41, σ42))))))))))))))))))))
set_option maxRecDepth 20000 in
set_option maxHeartbeats 4000000 in
theorem t_X11_readWrite {a1 : Nat} {a2 : Int32} {σ : jM} {r : Int32 × jM}  (h : f_X11_readWrite a1 a2 σ = some r) : J mi_X11_readWrite 7 0 0 (jqI r) 0 [(0, .ref 262), (1, .ref (rulX a1)), (2, .int a2)] [] (ms σ) := by
  unfold f_X11_readWrite at h
  refine J_aload_n 0 dX11_readWrite_0 rfl ?_
  obtain ⟨r7, σ8, h9, h⟩ := bd_inv h
  refine M_callVI (d' := 1) (k := 262) (As := []) (st := []) cv_X11_131 dX11_readWrite_1 rfl (by decide) rfl (Nat.le_of_ble_eq_true rfl) (Nat.le_of_ble_eq_true rfl) (by decide) n_262 k_262 rfl rfl (t_X11_isLetter  h9) ?_
  refine J_if_ne (tgt := 13) dX11_readWrite_4 (by decide) (fun c10 => ?_) (fun c10 => ?_)
  · have h := (if_neg c10).symm.trans h
    refine J_aload_n 1 dX11_readWrite_13 rfl ?_
    refine M_getR gf_X11_134_6 dX11_readWrite_14 (gg_rul6 _ a1) (kk_rul a1) (nn_rul a1) ?_
    refine J_iload_n 2 dX11_readWrite_17 rfl ?_
    refine J_aload_n 0 dX11_readWrite_18 rfl ?_
    refine M_getR gf_X11_9_10 dX11_readWrite_19 (g_262_0 _) k_262 n_262 ?_
    refine J_aload_n 0 dX11_readWrite_22 rfl ?_
    refine M_getI gf_X11_137_10 dX11_readWrite_23 k_262 n_262 ?_
    obtain ⟨g11, h⟩ := gd_inv h
    refine M_iald dX11_readWrite_26 a_263 n_263 g11 ?_
    obtain ⟨g12, h⟩ := gd_inv h
    refine M_iast dX11_readWrite_27 (aa_rul6 a1) (nna_rul6 a1) g12 ?_
    refine J_aload_n 0 dX11_readWrite_28 rfl ?_
    obtain ⟨_, σ14, h15, h⟩ := bd_inv h
    refine M_callVV (d' := 3) (k := 262) (As := []) (st := []) cv_X11_54 dX11_readWrite_29 rfl (by decide) rfl (Nat.le_of_ble_eq_true rfl) (Nat.le_of_ble_eq_true rfl) (by decide) n_262 k_262 rfl rfl (t_X11_advance  h15) ?_
    refine J_aload_n 0 dX11_readWrite_32 rfl ?_
    refine M_ldcS (w := 4) (tx := "as") dX11_readWrite_33 (by decide +kernel) ?_
    obtain ⟨r16, σ17, h18, h⟩ := bd_inv h
    refine M_callVI (d' := 6) (k := 262) (As := [.ref (1000000 + 4)]) (st := []) cv_X11_84 dX11_readWrite_35 rfl (by decide) rfl (Nat.le_of_ble_eq_true rfl) (Nat.le_of_ble_eq_true rfl) (by decide) n_262 k_262 rfl rfl (t_X11_isWord (by decide) h18) ?_
    refine J_if_ne (tgt := 47) dX11_readWrite_38 (by decide) (fun c19 => ?_) (fun c19 => ?_)
    · have h := (if_neg c19).symm.trans h
      refine J_aload_n 0 dX11_readWrite_47 rfl ?_
      obtain ⟨_, σ21, h22, h⟩ := bd_inv h
      refine M_callVV (d' := 3) (k := 262) (As := []) (st := []) cv_X11_54 dX11_readWrite_48 rfl (by decide) rfl (Nat.le_of_ble_eq_true rfl) (Nat.le_of_ble_eq_true rfl) (by decide) n_262 k_262 rfl rfl (t_X11_advance  h22) ?_
      refine J_aload_n 0 dX11_readWrite_51 rfl ?_
      obtain ⟨r23, σ24, h25, h⟩ := bd_inv h
      refine M_callVI (d' := 1) (k := 262) (As := []) (st := []) cv_X11_131 dX11_readWrite_52 rfl (by decide) rfl (Nat.le_of_ble_eq_true rfl) (Nat.le_of_ble_eq_true rfl) (by decide) n_262 k_262 rfl rfl (t_X11_isLetter  h25) ?_
      refine J_if_ne (tgt := 64) dX11_readWrite_55 (by decide) (fun c26 => ?_) (fun c26 => ?_)
      · have h := (if_neg c26).symm.trans h
        refine J_aload_n 1 dX11_readWrite_64 rfl ?_
        refine M_getR gf_X11_142_6 dX11_readWrite_65 (gg_rul7 _ a1) (kk_rul a1) (nn_rul a1) ?_
        refine J_iload_n 2 dX11_readWrite_68 rfl ?_
        refine J_aload_n 0 dX11_readWrite_69 rfl ?_
        refine M_getR gf_X11_9_10 dX11_readWrite_70 (g_262_0 _) k_262 n_262 ?_
        refine J_aload_n 0 dX11_readWrite_73 rfl ?_
        refine M_getI gf_X11_137_10 dX11_readWrite_74 k_262 n_262 ?_
        obtain ⟨g27, h⟩ := gd_inv h
        refine M_iald dX11_readWrite_77 a_263 n_263 g27 ?_
        obtain ⟨g28, h⟩ := gd_inv h
        refine M_iast dX11_readWrite_78 (aa_rul7 a1) (nna_rul7 a1) g28 ?_
        refine J_aload_n 1 dX11_readWrite_79 rfl ?_
        refine M_getR gf_X11_134_6 dX11_readWrite_80 (gg_rul6 _ a1) (kk_rul a1) (nn_rul a1) ?_
        refine J_iload_n 2 dX11_readWrite_83 rfl ?_
        obtain ⟨g29, h⟩ := gd_inv h
        refine M_iald dX11_readWrite_84 (aa_rul6 a1) (nna_rul6 a1) g29 ?_
        obtain ⟨r30, σ31, h32, h⟩ := bd_inv h
        refine M_callNI (d' := 2) (As := [.int (rI (wI σ24 (rulX a1 + 6) (Int32.toNatClampNeg a2) (rI σ24 263 (Int32.toNatClampNeg (rI σ24 262 5)))) (rulX a1 + 5) (Int32.toNatClampNeg a2))]) (st := []) cn_X11_145 dX11_readWrite_85 rfl (Nat.le_of_ble_eq_true rfl) (Nat.le_of_ble_eq_true rfl) (by decide) rfl rfl (t_X12_isVowel  h32) ?_
        refine J_aload_n 1 dX11_readWrite_88 rfl ?_
        refine M_getR gf_X11_142_6 dX11_readWrite_89 (gg_rul7 _ a1) (kk_rul a1) (nn_rul a1) ?_
        refine J_iload_n 2 dX11_readWrite_92 rfl ?_
        obtain ⟨g33, h⟩ := gd_inv h
        refine M_iald dX11_readWrite_93 (aa_rul7 a1) (nna_rul7 a1) g33 ?_
        obtain ⟨r34, σ35, h36, h⟩ := bd_inv h
        refine M_callNI (d' := 2) (As := [.int (rI σ31 (rulX a1 + 6) (Int32.toNatClampNeg a2))]) (st := [.int r30]) cn_X11_145 dX11_readWrite_94 rfl (Nat.le_of_ble_eq_true rfl) (Nat.le_of_ble_eq_true rfl) (by decide) rfl rfl (t_X12_isVowel  h36) ?_
        refine J_icmp_eq (tgt := 106) dX11_readWrite_97 (by decide) (fun c37 => ?_) (fun c37 => ?_)
        · have h := (if_pos c37).symm.trans h
          refine J_aload_n 0 dX11_readWrite_106 rfl ?_
          obtain ⟨_, σ39, h40, h⟩ := bd_inv h
          refine M_callVV (d' := 3) (k := 262) (As := []) (st := []) cv_X11_54 dX11_readWrite_107 rfl (by decide) rfl (Nat.le_of_ble_eq_true rfl) (Nat.le_of_ble_eq_true rfl) (by decide) n_262 k_262 rfl rfl (t_X11_advance  h40) ?_
          refine J_iconst (v := 1) dX11_readWrite_110 (by decide) ?_
          exact J_ret (v := some (.int 1)) rfl ⟨dX11_readWrite_111, Or.inr (Or.inl ⟨rfl, Or.inr rfl⟩)⟩ (jqI_mk h)
        · have h := (if_neg c37).symm.trans h
          refine J_aload_n 0 dX11_readWrite_100 rfl ?_
          refine J_iconst (v := 2) dX11_readWrite_101 (by decide) ?_
          obtain ⟨r41, σ42, h43, h⟩ := bd_inv h
          refine M_callVI (d' := 1) (k := 262) (As := [.int 2]) (st := []) cv_X11_41 dX11_readWrite_102 rfl (by decide) rfl (Nat.le_of_ble_eq_true rfl) (Nat.le_of_ble_eq_true rfl) (by decide) n_262 k_262 rfl rfl (t_X11_fault  h43) ?_
          obtain ⟨g44, h⟩ := gd_inv h
          exact J_ret (v := some (.int r41)) rfl ⟨dX11_readWrite_105, Or.inr (Or.inl ⟨rfl, g44⟩)⟩ (jqI_mk h)
      · have h := (if_pos c26).symm.trans h
        refine J_aload_n 0 dX11_readWrite_58 rfl ?_
        refine J_iconst (v := 1) dX11_readWrite_59 (by decide) ?_
        obtain ⟨r45, σ46, h47, h⟩ := bd_inv h
        refine M_callVI (d' := 1) (k := 262) (As := [.int 1]) (st := []) cv_X11_41 dX11_readWrite_60 rfl (by decide) rfl (Nat.le_of_ble_eq_true rfl) (Nat.le_of_ble_eq_true rfl) (by decide) n_262 k_262 rfl rfl (t_X11_fault  h47) ?_
        obtain ⟨g48, h⟩ := gd_inv h
        exact J_ret (v := some (.int r45)) rfl ⟨dX11_readWrite_63, Or.inr (Or.inl ⟨rfl, g48⟩)⟩ (jqI_mk h)
    · have h := (if_pos c19).symm.trans h
      refine J_aload_n 0 dX11_readWrite_41 rfl ?_
      refine J_iconst (v := 1) dX11_readWrite_42 (by decide) ?_
      obtain ⟨r49, σ50, h51, h⟩ := bd_inv h
      refine M_callVI (d' := 1) (k := 262) (As := [.int 1]) (st := []) cv_X11_41 dX11_readWrite_43 rfl (by decide) rfl (Nat.le_of_ble_eq_true rfl) (Nat.le_of_ble_eq_true rfl) (by decide) n_262 k_262 rfl rfl (t_X11_fault  h51) ?_
      obtain ⟨g52, h⟩ := gd_inv h
      exact J_ret (v := some (.int r49)) rfl ⟨dX11_readWrite_46, Or.inr (Or.inl ⟨rfl, g52⟩)⟩ (jqI_mk h)
  · have h := (if_pos c10).symm.trans h
    refine J_aload_n 0 dX11_readWrite_7 rfl ?_
    refine J_iconst (v := 1) dX11_readWrite_8 (by decide) ?_
    obtain ⟨r53, σ54, h55, h⟩ := bd_inv h
    refine M_callVI (d' := 1) (k := 262) (As := [.int 1]) (st := []) cv_X11_41 dX11_readWrite_9 rfl (by decide) rfl (Nat.le_of_ble_eq_true rfl) (Nat.le_of_ble_eq_true rfl) (by decide) n_262 k_262 rfl rfl (t_X11_fault  h55) ?_
    obtain ⟨g56, h⟩ := gd_inv h
    exact J_ret (v := some (.int r53)) rfl ⟨dX11_readWrite_12, Or.inr (Or.inl ⟨rfl, g56⟩)⟩ (jqI_mk h)
theorem dX11_readDrop_0 : decode cX11_readDrop 0 = .ok (.aload_n 0, 1) := by decide +kernel
theorem dX11_readDrop_1 : decode cX11_readDrop 1 = .ok (.invokevirtual 131, 3) := by decide +kernel
theorem dX11_readDrop_4 : decode cX11_readDrop 4 = .ok (.ifCond .ne 9, 3) := by decide +kernel
theorem dX11_readDrop_7 : decode cX11_readDrop 7 = .ok (.aload_n 0, 1) := by decide +kernel
theorem dX11_readDrop_8 : decode cX11_readDrop 8 = .ok (.iconst 1, 1) := by decide +kernel
theorem dX11_readDrop_9 : decode cX11_readDrop 9 = .ok (.invokevirtual 41, 3) := by decide +kernel
theorem dX11_readDrop_12 : decode cX11_readDrop 12 = .ok (.ireturn, 1) := by decide +kernel
theorem dX11_readDrop_13 : decode cX11_readDrop 13 = .ok (.aload_n 1, 1) := by decide +kernel
theorem dX11_readDrop_14 : decode cX11_readDrop 14 = .ok (.getfield 134, 3) := by decide +kernel
theorem dX11_readDrop_17 : decode cX11_readDrop 17 = .ok (.iload_n 2, 1) := by decide +kernel
theorem dX11_readDrop_18 : decode cX11_readDrop 18 = .ok (.aload_n 0, 1) := by decide +kernel
theorem dX11_readDrop_19 : decode cX11_readDrop 19 = .ok (.getfield 9, 3) := by decide +kernel
theorem dX11_readDrop_22 : decode cX11_readDrop 22 = .ok (.aload_n 0, 1) := by decide +kernel
theorem dX11_readDrop_23 : decode cX11_readDrop 23 = .ok (.getfield 137, 3) := by decide +kernel
theorem dX11_readDrop_26 : decode cX11_readDrop 26 = .ok (.iaload, 1) := by decide +kernel
theorem dX11_readDrop_27 : decode cX11_readDrop 27 = .ok (.iastore, 1) := by decide +kernel
theorem dX11_readDrop_28 : decode cX11_readDrop 28 = .ok (.aload_n 1, 1) := by decide +kernel
theorem dX11_readDrop_29 : decode cX11_readDrop 29 = .ok (.getfield 134, 3) := by decide +kernel
theorem dX11_readDrop_32 : decode cX11_readDrop 32 = .ok (.iload_n 2, 1) := by decide +kernel
theorem dX11_readDrop_33 : decode cX11_readDrop 33 = .ok (.iaload, 1) := by decide +kernel
theorem dX11_readDrop_34 : decode cX11_readDrop 34 = .ok (.invokestatic 145, 3) := by decide +kernel
theorem dX11_readDrop_37 : decode cX11_readDrop 37 = .ok (.ifCond .eq 9, 3) := by decide +kernel
theorem dX11_readDrop_40 : decode cX11_readDrop 40 = .ok (.aload_n 0, 1) := by decide +kernel
theorem dX11_readDrop_41 : decode cX11_readDrop 41 = .ok (.iconst 2, 1) := by decide +kernel
theorem dX11_readDrop_42 : decode cX11_readDrop 42 = .ok (.invokevirtual 41, 3) := by decide +kernel
theorem dX11_readDrop_45 : decode cX11_readDrop 45 = .ok (.ireturn, 1) := by decide +kernel
theorem dX11_readDrop_46 : decode cX11_readDrop 46 = .ok (.aload_n 0, 1) := by decide +kernel
theorem dX11_readDrop_47 : decode cX11_readDrop 47 = .ok (.invokevirtual 54, 3) := by decide +kernel
theorem dX11_readDrop_50 : decode cX11_readDrop 50 = .ok (.iconst 1, 1) := by decide +kernel
theorem dX11_readDrop_51 : decode cX11_readDrop 51 = .ok (.ireturn, 1) := by decide +kernel
noncomputable def f_X11_readDrop (a1 : Nat) (a2 : Int32) (σ : jM) : Option (Int32 × jM) :=
  bd (f_X11_isLetter  σ) (fun r4 σ5 => (if r4 = 0 then bd (f_X11_fault 1 σ5) (fun r22 σ23 => gd (r22 = 0 ∨ r22 = 1) (some (r22, σ23))) else gd (inb (rI σ5 262 5) 300) (gd (inb a2 12) (gd (inb a2 12) (bd (f_X12_isVowel (rI (wI σ5 (rulX a1 + 5) (Int32.toNatClampNeg a2) (rI σ5 263 (Int32.toNatClampNeg (rI σ5 262 5)))) (rulX a1 + 5) (Int32.toNatClampNeg a2)) (wI σ5 (rulX a1 + 5) (Int32.toNatClampNeg a2) (rI σ5 263 (Int32.toNatClampNeg (rI σ5 262 5))))) (fun r11 σ12 => (if r11 = 0 then bd (f_X11_advance  σ12) (fun _ σ16 => some (1, σ16)) else bd (f_X11_fault 2 σ12) (fun r18 σ19 => gd (r18 = 0 ∨ r18 = 1) (some (r18, σ19))))))))))
set_option maxRecDepth 20000 in
set_option maxHeartbeats 4000000 in
theorem t_X11_readDrop {a1 : Nat} {a2 : Int32} {σ : jM} {r : Int32 × jM}  (h : f_X11_readDrop a1 a2 σ = some r) : J mi_X11_readDrop 4 0 0 (jqI r) 0 [(0, .ref 262), (1, .ref (rulX a1)), (2, .int a2)] [] (ms σ) := by
  unfold f_X11_readDrop at h
  refine J_aload_n 0 dX11_readDrop_0 rfl ?_
  obtain ⟨r4, σ5, h6, h⟩ := bd_inv h
  refine M_callVI (d' := 1) (k := 262) (As := []) (st := []) cv_X11_131 dX11_readDrop_1 rfl (by decide) rfl (Nat.le_of_ble_eq_true rfl) (Nat.le_of_ble_eq_true rfl) (by decide) n_262 k_262 rfl rfl (t_X11_isLetter  h6) ?_
  refine J_if_ne (tgt := 13) dX11_readDrop_4 (by decide) (fun c7 => ?_) (fun c7 => ?_)
  · have h := (if_neg c7).symm.trans h
    refine J_aload_n 1 dX11_readDrop_13 rfl ?_
    refine M_getR gf_X11_134_6 dX11_readDrop_14 (gg_rul6 _ a1) (kk_rul a1) (nn_rul a1) ?_
    refine J_iload_n 2 dX11_readDrop_17 rfl ?_
    refine J_aload_n 0 dX11_readDrop_18 rfl ?_
    refine M_getR gf_X11_9_10 dX11_readDrop_19 (g_262_0 _) k_262 n_262 ?_
    refine J_aload_n 0 dX11_readDrop_22 rfl ?_
    refine M_getI gf_X11_137_10 dX11_readDrop_23 k_262 n_262 ?_
    obtain ⟨g8, h⟩ := gd_inv h
    refine M_iald dX11_readDrop_26 a_263 n_263 g8 ?_
    obtain ⟨g9, h⟩ := gd_inv h
    refine M_iast dX11_readDrop_27 (aa_rul6 a1) (nna_rul6 a1) g9 ?_
    refine J_aload_n 1 dX11_readDrop_28 rfl ?_
    refine M_getR gf_X11_134_6 dX11_readDrop_29 (gg_rul6 _ a1) (kk_rul a1) (nn_rul a1) ?_
    refine J_iload_n 2 dX11_readDrop_32 rfl ?_
    obtain ⟨g10, h⟩ := gd_inv h
    refine M_iald dX11_readDrop_33 (aa_rul6 a1) (nna_rul6 a1) g10 ?_
    obtain ⟨r11, σ12, h13, h⟩ := bd_inv h
    refine M_callNI (d' := 2) (As := [.int (rI (wI σ5 (rulX a1 + 5) (Int32.toNatClampNeg a2) (rI σ5 263 (Int32.toNatClampNeg (rI σ5 262 5)))) (rulX a1 + 5) (Int32.toNatClampNeg a2))]) (st := []) cn_X11_145 dX11_readDrop_34 rfl (Nat.le_of_ble_eq_true rfl) (Nat.le_of_ble_eq_true rfl) (by decide) rfl rfl (t_X12_isVowel  h13) ?_
    refine J_if_eq (tgt := 46) dX11_readDrop_37 (by decide) (fun c14 => ?_) (fun c14 => ?_)
    · have h := (if_pos c14).symm.trans h
      refine J_aload_n 0 dX11_readDrop_46 rfl ?_
      obtain ⟨_, σ16, h17, h⟩ := bd_inv h
      refine M_callVV (d' := 3) (k := 262) (As := []) (st := []) cv_X11_54 dX11_readDrop_47 rfl (by decide) rfl (Nat.le_of_ble_eq_true rfl) (Nat.le_of_ble_eq_true rfl) (by decide) n_262 k_262 rfl rfl (t_X11_advance  h17) ?_
      refine J_iconst (v := 1) dX11_readDrop_50 (by decide) ?_
      exact J_ret (v := some (.int 1)) rfl ⟨dX11_readDrop_51, Or.inr (Or.inl ⟨rfl, Or.inr rfl⟩)⟩ (jqI_mk h)
    · have h := (if_neg c14).symm.trans h
      refine J_aload_n 0 dX11_readDrop_40 rfl ?_
      refine J_iconst (v := 2) dX11_readDrop_41 (by decide) ?_
      obtain ⟨r18, σ19, h20, h⟩ := bd_inv h
      refine M_callVI (d' := 1) (k := 262) (As := [.int 2]) (st := []) cv_X11_41 dX11_readDrop_42 rfl (by decide) rfl (Nat.le_of_ble_eq_true rfl) (Nat.le_of_ble_eq_true rfl) (by decide) n_262 k_262 rfl rfl (t_X11_fault  h20) ?_
      obtain ⟨g21, h⟩ := gd_inv h
      exact J_ret (v := some (.int r18)) rfl ⟨dX11_readDrop_45, Or.inr (Or.inl ⟨rfl, g21⟩)⟩ (jqI_mk h)
  · have h := (if_pos c7).symm.trans h
    refine J_aload_n 0 dX11_readDrop_7 rfl ?_
    refine J_iconst (v := 1) dX11_readDrop_8 (by decide) ?_
    obtain ⟨r22, σ23, h24, h⟩ := bd_inv h
    refine M_callVI (d' := 1) (k := 262) (As := [.int 1]) (st := []) cv_X11_41 dX11_readDrop_9 rfl (by decide) rfl (Nat.le_of_ble_eq_true rfl) (Nat.le_of_ble_eq_true rfl) (by decide) n_262 k_262 rfl rfl (t_X11_fault  h24) ?_
    obtain ⟨g25, h⟩ := gd_inv h
    exact J_ret (v := some (.int r22)) rfl ⟨dX11_readDrop_12, Or.inr (Or.inl ⟨rfl, g25⟩)⟩ (jqI_mk h)
