theorem dX13_way_0 : decode cX13_way 0 = .ok (.aload_n 0, 1) := by decide +kernel
theorem dX13_way_1 : decode cX13_way 1 = .ok (.iconst 0, 1) := by decide +kernel
theorem dX13_way_2 : decode cX13_way 2 = .ok (.putfield 1, 3) := by decide +kernel
theorem dX13_way_5 : decode cX13_way 5 = .ok (.aload_n 0, 1) := by decide +kernel
theorem dX13_way_6 : decode cX13_way 6 = .ok (.iload_n 1, 1) := by decide +kernel
theorem dX13_way_7 : decode cX13_way 7 = .ok (.invokevirtual 298, 3) := by decide +kernel
theorem dX13_way_10 : decode cX13_way 10 = .ok (.ifCond .eq 30, 3) := by decide +kernel
theorem dX13_way_13 : decode cX13_way 13 = .ok (.iload_n 2, 1) := by decide +kernel
theorem dX13_way_14 : decode cX13_way 14 = .ok (.ifCond .lt 26, 3) := by decide +kernel
theorem dX13_way_17 : decode cX13_way 17 = .ok (.iload_n 3, 1) := by decide +kernel
theorem dX13_way_18 : decode cX13_way 18 = .ok (.iconst 0, 1) := by decide +kernel
theorem dX13_way_19 : decode cX13_way 19 = .ok (.aload_n 0, 1) := by decide +kernel
theorem dX13_way_20 : decode cX13_way 20 = .ok (.getfield 383, 3) := by decide +kernel
theorem dX13_way_23 : decode cX13_way 23 = .ok (.iconst 1, 1) := by decide +kernel
theorem dX13_way_24 : decode cX13_way 24 = .ok (.isub, 1) := by decide +kernel
theorem dX13_way_25 : decode cX13_way 25 = .ok (.invokestatic 169, 3) := by decide +kernel
theorem dX13_way_28 : decode cX13_way 28 = .ok (.ifCond .eq 12, 3) := by decide +kernel
theorem dX13_way_31 : decode cX13_way 31 = .ok (.aload_n 0, 1) := by decide +kernel
theorem dX13_way_32 : decode cX13_way 32 = .ok (.iload_n 1, 1) := by decide +kernel
theorem dX13_way_33 : decode cX13_way 33 = .ok (.iload_n 2, 1) := by decide +kernel
theorem dX13_way_34 : decode cX13_way 34 = .ok (.invokevirtual 441, 3) := by decide +kernel
theorem dX13_way_37 : decode cX13_way 37 = .ok (.ifCond .ne 5, 3) := by decide +kernel
theorem dX13_way_40 : decode cX13_way 40 = .ok (.iconst (-1), 1) := by decide +kernel
theorem dX13_way_41 : decode cX13_way 41 = .ok (.ireturn, 1) := by decide +kernel
theorem dX13_way_42 : decode cX13_way 42 = .ok (.iconst 0, 1) := by decide +kernel
theorem dX13_way_43 : decode cX13_way 43 = .ok (.istore 4, 2) := by decide +kernel
theorem dX13_way_45 : decode cX13_way 45 = .ok (.iload 4, 2) := by decide +kernel
theorem dX13_way_47 : decode cX13_way 47 = .ok (.aload_n 0, 1) := by decide +kernel
theorem dX13_way_48 : decode cX13_way 48 = .ok (.getfield 414, 3) := by decide +kernel
theorem dX13_way_51 : decode cX13_way 51 = .ok (.if_icmp .ge 28, 3) := by decide +kernel
theorem dX13_way_54 : decode cX13_way 54 = .ok (.aload_n 0, 1) := by decide +kernel
theorem dX13_way_55 : decode cX13_way 55 = .ok (.getfield 145, 3) := by decide +kernel
theorem dX13_way_58 : decode cX13_way 58 = .ok (.iload 4, 2) := by decide +kernel
theorem dX13_way_60 : decode cX13_way 60 = .ok (.iaload, 1) := by decide +kernel
theorem dX13_way_61 : decode cX13_way 61 = .ok (.iload_n 3, 1) := by decide +kernel
theorem dX13_way_62 : decode cX13_way 62 = .ok (.if_icmp .ne 11, 3) := by decide +kernel
theorem dX13_way_65 : decode cX13_way 65 = .ok (.aload_n 0, 1) := by decide +kernel
theorem dX13_way_66 : decode cX13_way 66 = .ok (.getfield 154, 3) := by decide +kernel
theorem dX13_way_69 : decode cX13_way 69 = .ok (.iload 4, 2) := by decide +kernel
theorem dX13_way_71 : decode cX13_way 71 = .ok (.iaload, 1) := by decide +kernel
theorem dX13_way_72 : decode cX13_way 72 = .ok (.ireturn, 1) := by decide +kernel
theorem dX13_way_73 : decode cX13_way 73 = .ok (.iinc 4 1, 3) := by decide +kernel
theorem dX13_way_76 : decode cX13_way 76 = .ok (.goto (-31), 3) := by decide +kernel
theorem dX13_way_79 : decode cX13_way 79 = .ok (.iconst (-1), 1) := by decide +kernel
theorem dX13_way_80 : decode cX13_way 80 = .ok (.ireturn, 1) := by decide +kernel
noncomputable def f_X13_way_40   (σ : jM) : Option (Int32 × jM) :=
  some ((-1), σ)
noncomputable def s_X13_way_45  (rec45 : Int32 → Int32 → jM → Option (Int32 × jM)) (l3 : Int32) (l4 : Int32) (σ : jM) : Option (Int32 × jM) :=
  (if (rI σ 324 64) ≤ l4 then some ((-1), σ) else gd (inb l4 7) ((if (rI σ 367 (Int32.toNatClampNeg l4)) = l3 then gd (inb l4 7) (some ((rI σ 370 (Int32.toNatClampNeg l4)), σ)) else rec45 l3 (l4 + 1) σ)))
noncomputable def f_X13_way_45  (n : Nat) : Int32 → Int32 → jM → Option (Int32 × jM) := Nat.rec (motive := fun _ => Int32 → Int32 → jM → Option (Int32 × jM)) (fun _ _ _ => none) (fun _ q => s_X13_way_45  q) n
noncomputable def f_X13_way (a1 : Int32) (a2 : Int32) (a3 : Int32) (σ : jM) : Option (Int32 × jM) :=
  bd (f_X13_isKnown a1 (wI σ 324 0 0)) (fun r11 σ12 => (if r11 = 0 then f_X13_way_40   σ12 else (if a2 < 0 then f_X13_way_40   σ12 else bd (f_X13_within a3 0 ((rI σ12 324 55) - 1) σ12) (fun r16 σ17 => (if r16 = 0 then f_X13_way_40   σ17 else bd (f_X13_findWay a1 a2 σ17) (fun r20 σ21 => (if r20 = 0 then f_X13_way_40   σ21 else f_X13_way_45  Fu a3 0 σ21)))))))
set_option maxRecDepth 20000 in
set_option maxHeartbeats 4000000 in
theorem t_X13_way_40   (σ : jM) (r : Int32 × jM)  (h : f_X13_way_40   σ = some r) : J mi_X13_way 7 0 0 (jqI r) 40 [] [] (ms σ) := by
  unfold f_X13_way_40 at h
  refine J_iconst (v := (-1)) dX13_way_40 (by decide) ?_
  exact J_ret (v := some (.int (-1))) rfl ⟨dX13_way_41, Or.inl rfl⟩ (jqI_mk h)
set_option maxRecDepth 20000 in
set_option maxHeartbeats 4000000 in
theorem t_X13_way_45  : ∀ (n : Nat) (l3 : Int32) (l4 : Int32) (σ : jM) (r : Int32 × jM), f_X13_way_45  n l3 l4 σ = some r → J mi_X13_way 7 0 0 (jqI r) 45 [(0, .ref 324), (3, .int l3), (4, .int l4)] [] (ms σ) := by
  intro n
  induction n with
  | zero =>
    intro l3 l4 σ r  h
    have h : (none : Option (Int32 × jM)) = some r := h
    cases h
  | succ n ih =>
    intro l3 l4 σ r  h
    have h : s_X13_way_45  (f_X13_way_45  n) l3 l4 σ = some r := h
    unfold s_X13_way_45 at h
    refine J_iload 2 dX13_way_45 rfl ?_
    refine J_aload_n 0 dX13_way_47 rfl ?_
    refine M_getI gf_X13_414_12 dX13_way_48 k_324 n_324 ?_
    refine J_icmp_ge (tgt := 79) dX13_way_51 (by decide) (fun c7 => ?_) (fun c7 => ?_)
    · have h := (if_pos c7).symm.trans h
      refine J_iconst (v := (-1)) dX13_way_79 (by decide) ?_
      exact J_ret (v := some (.int (-1))) rfl ⟨dX13_way_80, Or.inl rfl⟩ (jqI_mk h)
    · have h := (if_neg c7).symm.trans h
      refine J_aload_n 0 dX13_way_54 rfl ?_
      refine M_getR gf_X13_145_12 dX13_way_55 (g_324_65 _) k_324 n_324 ?_
      refine J_iload 2 dX13_way_58 rfl ?_
      obtain ⟨g8, h⟩ := gd_inv h
      refine M_iald dX13_way_60 a_367 n_367 g8 ?_
      refine J_iload_n 1 dX13_way_61 rfl ?_
      refine J_icmp_ne (tgt := 73) dX13_way_62 (by decide) (fun c9 => ?_) (fun c9 => ?_)
      · have h := (if_neg c9).symm.trans h
        refine J_iinc (v := (l4 + 1)) (ls' := [(4, .int (l4 + 1)), (0, .ref 324), (3, .int l3)]) 2 dX13_way_73 rfl rfl (by decide) rfl ?_
        refine J_goto (tgt := 45) dX13_way_76 (by decide) ?_
        refine J_pick [1, 2, 0] rfl ?_
        exact ih _ _ _ _  h
      · have h := (if_pos c9).symm.trans h
        refine J_aload_n 0 dX13_way_65 rfl ?_
        refine M_getR gf_X13_154_12 dX13_way_66 (g_324_70 _) k_324 n_324 ?_
        refine J_iload 2 dX13_way_69 rfl ?_
        obtain ⟨g10, h⟩ := gd_inv h
        refine M_iald dX13_way_71 a_370 n_370 g10 ?_
        exact J_ret (v := some (.int (rI σ 370 (Int32.toNatClampNeg l4)))) rfl ⟨dX13_way_72, Or.inl rfl⟩ (jqI_mk h)
set_option maxRecDepth 20000 in
set_option maxHeartbeats 4000000 in
theorem t_X13_way {a1 : Int32} {a2 : Int32} {a3 : Int32} {σ : jM} {r : Int32 × jM}  (h : f_X13_way a1 a2 a3 σ = some r) : J mi_X13_way 7 0 0 (jqI r) 0 [(0, .ref 324), (1, .int a1), (2, .int a2), (3, .int a3)] [] (ms σ) := by
  unfold f_X13_way at h
  refine J_aload_n 0 dX13_way_0 rfl ?_
  refine J_iconst (v := 0) dX13_way_1 (by decide) ?_
  refine M_putI pf_X13_1_12 dX13_way_2 k_324 n_324 ⟨rfl, rfl⟩ ?_
  refine J_aload_n 0 dX13_way_5 rfl ?_
  refine J_iload_n 1 dX13_way_6 rfl ?_
  obtain ⟨r11, σ12, h13, h⟩ := bd_inv h
  refine M_callVI (d' := 1) (k := 324) (As := [.int a1]) (st := []) cv_X13_298 dX13_way_7 rfl (by decide) rfl (Nat.le_of_ble_eq_true rfl) (Nat.le_of_ble_eq_true rfl) (by decide) n_324 k_324 rfl rfl (t_X13_isKnown  h13) ?_
  refine J_if_eq (tgt := 40) dX13_way_10 (by decide) (fun c14 => ?_) (fun c14 => ?_)
  · have h := (if_pos c14).symm.trans h
    refine J_pick [] rfl ?_
    exact t_X13_way_40   _ _  h
  · have h := (if_neg c14).symm.trans h
    refine J_iload_n 2 dX13_way_13 rfl ?_
    refine J_if_lt (tgt := 40) dX13_way_14 (by decide) (fun c15 => ?_) (fun c15 => ?_)
    · have h := (if_pos c15).symm.trans h
      refine J_pick [] rfl ?_
      exact t_X13_way_40   _ _  h
    · have h := (if_neg c15).symm.trans h
      refine J_iload_n 3 dX13_way_17 rfl ?_
      refine J_iconst (v := 0) dX13_way_18 (by decide) ?_
      refine J_aload_n 0 dX13_way_19 rfl ?_
      refine M_getI gf_X13_383_12 dX13_way_20 k_324 n_324 ?_
      refine J_iconst (v := 1) dX13_way_23 (by decide) ?_
      refine J_isub dX13_way_24 ?_
      obtain ⟨r16, σ17, h18, h⟩ := bd_inv h
      refine M_callSI (d' := 1) (As := [.int a3, .int 0, .int ((rI σ12 324 55) - 1)]) (st := []) cs_X13_169 dX13_way_25 rfl (Nat.le_of_ble_eq_true rfl) (Nat.le_of_ble_eq_true rfl) (by decide) rfl rfl (t_X13_within  h18) ?_
      refine J_if_eq (tgt := 40) dX13_way_28 (by decide) (fun c19 => ?_) (fun c19 => ?_)
      · have h := (if_pos c19).symm.trans h
        refine J_pick [] rfl ?_
        exact t_X13_way_40   _ _  h
      · have h := (if_neg c19).symm.trans h
        refine J_aload_n 0 dX13_way_31 rfl ?_
        refine J_iload_n 1 dX13_way_32 rfl ?_
        refine J_iload_n 2 dX13_way_33 rfl ?_
        obtain ⟨r20, σ21, h22, h⟩ := bd_inv h
        refine M_callVI (d' := 6) (k := 324) (As := [.int a1, .int a2]) (st := []) cv_X13_441 dX13_way_34 rfl (by decide) rfl (Nat.le_of_ble_eq_true rfl) (Nat.le_of_ble_eq_true rfl) (by decide) n_324 k_324 rfl rfl (t_X13_findWay  h22) ?_
        refine J_if_ne (tgt := 42) dX13_way_37 (by decide) (fun c23 => ?_) (fun c23 => ?_)
        · have h := (if_neg c23).symm.trans h
          refine J_iconst (v := 0) dX13_way_42 (by decide) ?_
          refine J_istore (i := 4) (ls' := [(4, .int 0), (0, .ref 324), (1, .int a1), (2, .int a2), (3, .int a3)]) dX13_way_43 (by decide) rfl ?_
          refine J_pick [1, 4, 0] rfl ?_
          exact t_X13_way_45  _ _ _ _ _  h
        · have h := (if_pos c23).symm.trans h
          refine J_pick [] rfl ?_
          exact t_X13_way_40   _ _  h
theorem dX13_given_0 : decode cX13_given 0 = .ok (.aload_n 0, 1) := by decide +kernel
theorem dX13_given_1 : decode cX13_given 1 = .ok (.iconst 0, 1) := by decide +kernel
theorem dX13_given_2 : decode cX13_given 2 = .ok (.putfield 1, 3) := by decide +kernel
theorem dX13_given_5 : decode cX13_given 5 = .ok (.aload_n 0, 1) := by decide +kernel
theorem dX13_given_6 : decode cX13_given 6 = .ok (.iload_n 1, 1) := by decide +kernel
theorem dX13_given_7 : decode cX13_given 7 = .ok (.invokevirtual 298, 3) := by decide +kernel
theorem dX13_given_10 : decode cX13_given 10 = .ok (.ifCond .eq 37, 3) := by decide +kernel
theorem dX13_given_13 : decode cX13_given 13 = .ok (.iload_n 2, 1) := by decide +kernel
theorem dX13_given_14 : decode cX13_given 14 = .ok (.ifCond .lt 33, 3) := by decide +kernel
theorem dX13_given_17 : decode cX13_given 17 = .ok (.iload_n 3, 1) := by decide +kernel
theorem dX13_given_18 : decode cX13_given 18 = .ok (.invokestatic 288, 3) := by decide +kernel
theorem dX13_given_21 : decode cX13_given 21 = .ok (.ifCond .eq 26, 3) := by decide +kernel
theorem dX13_given_24 : decode cX13_given 24 = .ok (.aload_n 0, 1) := by decide +kernel
theorem dX13_given_25 : decode cX13_given 25 = .ok (.iload_n 1, 1) := by decide +kernel
theorem dX13_given_26 : decode cX13_given 26 = .ok (.iload_n 2, 1) := by decide +kernel
theorem dX13_given_27 : decode cX13_given 27 = .ok (.invokevirtual 441, 3) := by decide +kernel
theorem dX13_given_30 : decode cX13_given 30 = .ok (.ifCond .eq 17, 3) := by decide +kernel
theorem dX13_given_33 : decode cX13_given 33 = .ok (.aload_n 0, 1) := by decide +kernel
theorem dX13_given_34 : decode cX13_given 34 = .ok (.getfield 157, 3) := by decide +kernel
theorem dX13_given_37 : decode cX13_given 37 = .ok (.aload_n 0, 1) := by decide +kernel
theorem dX13_given_38 : decode cX13_given 38 = .ok (.getfield 72, 3) := by decide +kernel
theorem dX13_given_41 : decode cX13_given 41 = .ok (.iload_n 3, 1) := by decide +kernel
theorem dX13_given_42 : decode cX13_given 42 = .ok (.iaload, 1) := by decide +kernel
theorem dX13_given_43 : decode cX13_given 43 = .ok (.iaload, 1) := by decide +kernel
theorem dX13_given_44 : decode cX13_given 44 = .ok (.goto 4, 3) := by decide +kernel
theorem dX13_given_47 : decode cX13_given 47 = .ok (.iconst (-1), 1) := by decide +kernel
theorem dX13_given_48 : decode cX13_given 48 = .ok (.ireturn, 1) := by decide +kernel
noncomputable def f_X13_given_48  (s0 : Int32) (σ : jM) : Option (Int32 × jM) :=
  some (s0, σ)
noncomputable def f_X13_given_47   (σ : jM) : Option (Int32 × jM) :=
  f_X13_given_48  (-1) σ
noncomputable def f_X13_given (a1 : Int32) (a2 : Int32) (a3 : Int32) (σ : jM) : Option (Int32 × jM) :=
  bd (f_X13_isKnown a1 (wI σ 324 0 0)) (fun r3 σ4 => (if r3 = 0 then f_X13_given_47   σ4 else (if a2 < 0 then f_X13_given_47   σ4 else bd (f_X13_isSignNumber a3 σ4) (fun r8 σ9 => (if r8 = 0 then f_X13_given_47   σ9 else bd (f_X13_findWay a1 a2 σ9) (fun r12 σ13 => (if r12 = 0 then f_X13_given_47   σ13 else gd (inb a3 40) (gd (inb (rI σ13 343 (Int32.toNatClampNeg a3)) 40) (f_X13_given_48  (rI σ13 371 (Int32.toNatClampNeg (rI σ13 343 (Int32.toNatClampNeg a3)))) σ13)))))))))
set_option maxRecDepth 20000 in
set_option maxHeartbeats 4000000 in
theorem t_X13_given_48  (s0 : Int32) (σ : jM) (r : Int32 × jM)  (h : f_X13_given_48  s0 σ = some r) : J mi_X13_given 7 0 0 (jqI r) 48 [] [.int s0] (ms σ) := by
  unfold f_X13_given_48 at h
  exact J_ret (v := some (.int s0)) rfl ⟨dX13_given_48, Or.inl rfl⟩ (jqI_mk h)
set_option maxRecDepth 20000 in
set_option maxHeartbeats 4000000 in
theorem t_X13_given_47   (σ : jM) (r : Int32 × jM)  (h : f_X13_given_47   σ = some r) : J mi_X13_given 7 0 0 (jqI r) 47 [] [] (ms σ) := by
  unfold f_X13_given_47 at h
  refine J_iconst (v := (-1)) dX13_given_47 (by decide) ?_
  exact t_X13_given_48  _ _ _  h
set_option maxRecDepth 20000 in
set_option maxHeartbeats 4000000 in
theorem t_X13_given {a1 : Int32} {a2 : Int32} {a3 : Int32} {σ : jM} {r : Int32 × jM}  (h : f_X13_given a1 a2 a3 σ = some r) : J mi_X13_given 7 0 0 (jqI r) 0 [(0, .ref 324), (1, .int a1), (2, .int a2), (3, .int a3)] [] (ms σ) := by
  unfold f_X13_given at h
  refine J_aload_n 0 dX13_given_0 rfl ?_
  refine J_iconst (v := 0) dX13_given_1 (by decide) ?_
  refine M_putI pf_X13_1_12 dX13_given_2 k_324 n_324 ⟨rfl, rfl⟩ ?_
  refine J_aload_n 0 dX13_given_5 rfl ?_
  refine J_iload_n 1 dX13_given_6 rfl ?_
  obtain ⟨r3, σ4, h5, h⟩ := bd_inv h
  refine M_callVI (d' := 1) (k := 324) (As := [.int a1]) (st := []) cv_X13_298 dX13_given_7 rfl (by decide) rfl (Nat.le_of_ble_eq_true rfl) (Nat.le_of_ble_eq_true rfl) (by decide) n_324 k_324 rfl rfl (t_X13_isKnown  h5) ?_
  refine J_if_eq (tgt := 47) dX13_given_10 (by decide) (fun c6 => ?_) (fun c6 => ?_)
  · have h := (if_pos c6).symm.trans h
    refine J_pick [] rfl ?_
    exact t_X13_given_47   _ _  h
  · have h := (if_neg c6).symm.trans h
    refine J_iload_n 2 dX13_given_13 rfl ?_
    refine J_if_lt (tgt := 47) dX13_given_14 (by decide) (fun c7 => ?_) (fun c7 => ?_)
    · have h := (if_pos c7).symm.trans h
      refine J_pick [] rfl ?_
      exact t_X13_given_47   _ _  h
    · have h := (if_neg c7).symm.trans h
      refine J_iload_n 3 dX13_given_17 rfl ?_
      obtain ⟨r8, σ9, h10, h⟩ := bd_inv h
      refine M_callSI (d' := 1) (As := [.int a3]) (st := []) cs_X13_288 dX13_given_18 rfl (Nat.le_of_ble_eq_true rfl) (Nat.le_of_ble_eq_true rfl) (by decide) rfl rfl (t_X13_isSignNumber  h10) ?_
      refine J_if_eq (tgt := 47) dX13_given_21 (by decide) (fun c11 => ?_) (fun c11 => ?_)
      · have h := (if_pos c11).symm.trans h
        refine J_pick [] rfl ?_
        exact t_X13_given_47   _ _  h
      · have h := (if_neg c11).symm.trans h
        refine J_aload_n 0 dX13_given_24 rfl ?_
        refine J_iload_n 1 dX13_given_25 rfl ?_
        refine J_iload_n 2 dX13_given_26 rfl ?_
        obtain ⟨r12, σ13, h14, h⟩ := bd_inv h
        refine M_callVI (d' := 6) (k := 324) (As := [.int a1, .int a2]) (st := []) cv_X13_441 dX13_given_27 rfl (by decide) rfl (Nat.le_of_ble_eq_true rfl) (Nat.le_of_ble_eq_true rfl) (by decide) n_324 k_324 rfl rfl (t_X13_findWay  h14) ?_
        refine J_if_eq (tgt := 47) dX13_given_30 (by decide) (fun c15 => ?_) (fun c15 => ?_)
        · have h := (if_pos c15).symm.trans h
          refine J_pick [] rfl ?_
          exact t_X13_given_47   _ _  h
        · have h := (if_neg c15).symm.trans h
          refine J_aload_n 0 dX13_given_33 rfl ?_
          refine M_getR gf_X13_157_12 dX13_given_34 (g_324_71 _) k_324 n_324 ?_
          refine J_aload_n 0 dX13_given_37 rfl ?_
          refine M_getR gf_X13_72_12 dX13_given_38 (g_324_31 _) k_324 n_324 ?_
          refine J_iload_n 3 dX13_given_41 rfl ?_
          obtain ⟨g16, h⟩ := gd_inv h
          refine M_iald dX13_given_42 a_343 n_343 g16 ?_
          obtain ⟨g17, h⟩ := gd_inv h
          refine M_iald dX13_given_43 a_371 n_371 g17 ?_
          refine J_goto (tgt := 48) dX13_given_44 (by decide) ?_
          refine J_pick [] rfl ?_
          exact t_X13_given_48  _ _ _  h
theorem dX13_forced_0 : decode cX13_forced 0 = .ok (.aload_n 0, 1) := by decide +kernel
theorem dX13_forced_1 : decode cX13_forced 1 = .ok (.iconst 0, 1) := by decide +kernel
theorem dX13_forced_2 : decode cX13_forced 2 = .ok (.putfield 1, 3) := by decide +kernel
theorem dX13_forced_5 : decode cX13_forced 5 = .ok (.aload_n 0, 1) := by decide +kernel
theorem dX13_forced_6 : decode cX13_forced 6 = .ok (.iload_n 1, 1) := by decide +kernel
theorem dX13_forced_7 : decode cX13_forced 7 = .ok (.invokevirtual 298, 3) := by decide +kernel
theorem dX13_forced_10 : decode cX13_forced 10 = .ok (.ifCond .eq 10, 3) := by decide +kernel
theorem dX13_forced_13 : decode cX13_forced 13 = .ok (.iload_n 2, 1) := by decide +kernel
theorem dX13_forced_14 : decode cX13_forced 14 = .ok (.invokestatic 288, 3) := by decide +kernel
theorem dX13_forced_17 : decode cX13_forced 17 = .ok (.ifCond .ne 5, 3) := by decide +kernel
theorem dX13_forced_20 : decode cX13_forced 20 = .ok (.iconst (-1), 1) := by decide +kernel
theorem dX13_forced_21 : decode cX13_forced 21 = .ok (.ireturn, 1) := by decide +kernel
theorem dX13_forced_22 : decode cX13_forced 22 = .ok (.aload_n 0, 1) := by decide +kernel
theorem dX13_forced_23 : decode cX13_forced 23 = .ok (.iload_n 1, 1) := by decide +kernel
theorem dX13_forced_24 : decode cX13_forced 24 = .ok (.invokevirtual 438, 3) := by decide +kernel
theorem dX13_forced_27 : decode cX13_forced 27 = .ok (.aload_n 0, 1) := by decide +kernel
theorem dX13_forced_28 : decode cX13_forced 28 = .ok (.aload_n 0, 1) := by decide +kernel
theorem dX13_forced_29 : decode cX13_forced 29 = .ok (.getfield 72, 3) := by decide +kernel
theorem dX13_forced_32 : decode cX13_forced 32 = .ok (.iload_n 2, 1) := by decide +kernel
theorem dX13_forced_33 : decode cX13_forced 33 = .ok (.iaload, 1) := by decide +kernel
theorem dX13_forced_34 : decode cX13_forced 34 = .ok (.invokevirtual 444, 3) := by decide +kernel
theorem dX13_forced_37 : decode cX13_forced 37 = .ok (.ireturn, 1) := by decide +kernel
noncomputable def f_X13_forced_20   (σ : jM) : Option (Int32 × jM) :=
  some ((-1), σ)
noncomputable def f_X13_forced (a1 : Int32) (a2 : Int32) (σ : jM) : Option (Int32 × jM) :=
  bd (f_X13_isKnown a1 (wI σ 324 0 0)) (fun r2 σ3 => (if r2 = 0 then f_X13_forced_20   σ3 else bd (f_X13_isSignNumber a2 σ3) (fun r6 σ7 => (if r6 = 0 then f_X13_forced_20   σ7 else bd (f_X13_findAll a1 σ7) (fun _ σ11 => gd (inb a2 40) (bd (f_X13_forcedOf (rI σ11 343 (Int32.toNatClampNeg a2)) σ11) (fun r14 σ15 => some (r14, σ15))))))))
set_option maxRecDepth 20000 in
set_option maxHeartbeats 4000000 in
theorem t_X13_forced_20   (σ : jM) (r : Int32 × jM)  (h : f_X13_forced_20   σ = some r) : J mi_X13_forced 7 0 0 (jqI r) 20 [] [] (ms σ) := by
  unfold f_X13_forced_20 at h
  refine J_iconst (v := (-1)) dX13_forced_20 (by decide) ?_
  exact J_ret (v := some (.int (-1))) rfl ⟨dX13_forced_21, Or.inl rfl⟩ (jqI_mk h)
set_option maxRecDepth 20000 in
set_option maxHeartbeats 4000000 in
theorem t_X13_forced {a1 : Int32} {a2 : Int32} {σ : jM} {r : Int32 × jM}  (h : f_X13_forced a1 a2 σ = some r) : J mi_X13_forced 7 0 0 (jqI r) 0 [(0, .ref 324), (1, .int a1), (2, .int a2)] [] (ms σ) := by
  unfold f_X13_forced at h
  refine J_aload_n 0 dX13_forced_0 rfl ?_
  refine J_iconst (v := 0) dX13_forced_1 (by decide) ?_
  refine M_putI pf_X13_1_12 dX13_forced_2 k_324 n_324 ⟨rfl, rfl⟩ ?_
  refine J_aload_n 0 dX13_forced_5 rfl ?_
  refine J_iload_n 1 dX13_forced_6 rfl ?_
  obtain ⟨r2, σ3, h4, h⟩ := bd_inv h
  refine M_callVI (d' := 1) (k := 324) (As := [.int a1]) (st := []) cv_X13_298 dX13_forced_7 rfl (by decide) rfl (Nat.le_of_ble_eq_true rfl) (Nat.le_of_ble_eq_true rfl) (by decide) n_324 k_324 rfl rfl (t_X13_isKnown  h4) ?_
  refine J_if_eq (tgt := 20) dX13_forced_10 (by decide) (fun c5 => ?_) (fun c5 => ?_)
  · have h := (if_pos c5).symm.trans h
    refine J_pick [] rfl ?_
    exact t_X13_forced_20   _ _  h
  · have h := (if_neg c5).symm.trans h
    refine J_iload_n 2 dX13_forced_13 rfl ?_
    obtain ⟨r6, σ7, h8, h⟩ := bd_inv h
    refine M_callSI (d' := 1) (As := [.int a2]) (st := []) cs_X13_288 dX13_forced_14 rfl (Nat.le_of_ble_eq_true rfl) (Nat.le_of_ble_eq_true rfl) (by decide) rfl rfl (t_X13_isSignNumber  h8) ?_
    refine J_if_ne (tgt := 22) dX13_forced_17 (by decide) (fun c9 => ?_) (fun c9 => ?_)
    · have h := (if_neg c9).symm.trans h
      refine J_aload_n 0 dX13_forced_22 rfl ?_
      refine J_iload_n 1 dX13_forced_23 rfl ?_
      obtain ⟨_, σ11, h12, h⟩ := bd_inv h
      refine M_callVV (d' := 6) (k := 324) (As := [.int a1]) (st := []) cv_X13_438 dX13_forced_24 rfl (by decide) rfl (Nat.le_of_ble_eq_true rfl) (Nat.le_of_ble_eq_true rfl) (by decide) n_324 k_324 rfl rfl (t_X13_findAll  h12) ?_
      refine J_aload_n 0 dX13_forced_27 rfl ?_
      refine J_aload_n 0 dX13_forced_28 rfl ?_
      refine M_getR gf_X13_72_12 dX13_forced_29 (g_324_31 _) k_324 n_324 ?_
      refine J_iload_n 2 dX13_forced_32 rfl ?_
      obtain ⟨g13, h⟩ := gd_inv h
      refine M_iald dX13_forced_33 a_343 n_343 g13 ?_
      obtain ⟨r14, σ15, h16, h⟩ := bd_inv h
      refine M_callVI (d' := 1) (k := 324) (As := [.int (rI σ11 343 (Int32.toNatClampNeg a2))]) (st := []) cv_X13_444 dX13_forced_34 rfl (by decide) rfl (Nat.le_of_ble_eq_true rfl) (Nat.le_of_ble_eq_true rfl) (by decide) n_324 k_324 rfl rfl (t_X13_forcedOf  h16) ?_
      exact J_ret (v := some (.int r14)) rfl ⟨dX13_forced_37, Or.inl rfl⟩ (jqI_mk h)
    · have h := (if_pos c9).symm.trans h
      refine J_pick [] rfl ?_
      exact t_X13_forced_20   _ _  h
theorem dX13_reads_0 : decode cX13_reads 0 = .ok (.aload_n 0, 1) := by decide +kernel
theorem dX13_reads_1 : decode cX13_reads 1 = .ok (.iconst 0, 1) := by decide +kernel
theorem dX13_reads_2 : decode cX13_reads 2 = .ok (.putfield 1, 3) := by decide +kernel
theorem dX13_reads_5 : decode cX13_reads 5 = .ok (.aload_n 0, 1) := by decide +kernel
theorem dX13_reads_6 : decode cX13_reads 6 = .ok (.iload_n 1, 1) := by decide +kernel
theorem dX13_reads_7 : decode cX13_reads 7 = .ok (.invokevirtual 298, 3) := by decide +kernel
theorem dX13_reads_10 : decode cX13_reads 10 = .ok (.ifCond .eq 33, 3) := by decide +kernel
theorem dX13_reads_13 : decode cX13_reads 13 = .ok (.iload_n 2, 1) := by decide +kernel
theorem dX13_reads_14 : decode cX13_reads 14 = .ok (.iconst 0, 1) := by decide +kernel
theorem dX13_reads_15 : decode cX13_reads 15 = .ok (.aload_n 0, 1) := by decide +kernel
theorem dX13_reads_16 : decode cX13_reads 16 = .ok (.getfield 243, 3) := by decide +kernel
theorem dX13_reads_19 : decode cX13_reads 19 = .ok (.iconst 1, 1) := by decide +kernel
theorem dX13_reads_20 : decode cX13_reads 20 = .ok (.isub, 1) := by decide +kernel
theorem dX13_reads_21 : decode cX13_reads 21 = .ok (.invokestatic 169, 3) := by decide +kernel
theorem dX13_reads_24 : decode cX13_reads 24 = .ok (.ifCond .eq 19, 3) := by decide +kernel
theorem dX13_reads_27 : decode cX13_reads 27 = .ok (.iload_n 3, 1) := by decide +kernel
theorem dX13_reads_28 : decode cX13_reads 28 = .ok (.iconst 0, 1) := by decide +kernel
theorem dX13_reads_29 : decode cX13_reads 29 = .ok (.aload_n 0, 1) := by decide +kernel
theorem dX13_reads_30 : decode cX13_reads 30 = .ok (.getfield 20, 3) := by decide +kernel
theorem dX13_reads_33 : decode cX13_reads 33 = .ok (.iload_n 2, 1) := by decide +kernel
theorem dX13_reads_34 : decode cX13_reads 34 = .ok (.iaload, 1) := by decide +kernel
theorem dX13_reads_35 : decode cX13_reads 35 = .ok (.iconst 1, 1) := by decide +kernel
theorem dX13_reads_36 : decode cX13_reads 36 = .ok (.isub, 1) := by decide +kernel
theorem dX13_reads_37 : decode cX13_reads 37 = .ok (.invokestatic 169, 3) := by decide +kernel
theorem dX13_reads_40 : decode cX13_reads 40 = .ok (.ifCond .ne 5, 3) := by decide +kernel
theorem dX13_reads_43 : decode cX13_reads 43 = .ok (.iconst (-1), 1) := by decide +kernel
theorem dX13_reads_44 : decode cX13_reads 44 = .ok (.ireturn, 1) := by decide +kernel
theorem dX13_reads_45 : decode cX13_reads 45 = .ok (.aload_n 0, 1) := by decide +kernel
theorem dX13_reads_46 : decode cX13_reads 46 = .ok (.iload_n 1, 1) := by decide +kernel
theorem dX13_reads_47 : decode cX13_reads 47 = .ok (.invokevirtual 438, 3) := by decide +kernel
theorem dX13_reads_50 : decode cX13_reads 50 = .ok (.bipush 8, 2) := by decide +kernel
theorem dX13_reads_52 : decode cX13_reads 52 = .ok (.iload_n 2, 1) := by decide +kernel
theorem dX13_reads_53 : decode cX13_reads 53 = .ok (.imul, 1) := by decide +kernel
theorem dX13_reads_54 : decode cX13_reads 54 = .ok (.iload_n 3, 1) := by decide +kernel
theorem dX13_reads_55 : decode cX13_reads 55 = .ok (.iadd, 1) := by decide +kernel
theorem dX13_reads_56 : decode cX13_reads 56 = .ok (.istore 4, 2) := by decide +kernel
theorem dX13_reads_58 : decode cX13_reads 58 = .ok (.aload_n 0, 1) := by decide +kernel
theorem dX13_reads_59 : decode cX13_reads 59 = .ok (.iconst 0, 1) := by decide +kernel
theorem dX13_reads_60 : decode cX13_reads 60 = .ok (.putfield 447, 3) := by decide +kernel
theorem dX13_reads_63 : decode cX13_reads 63 = .ok (.iconst 0, 1) := by decide +kernel
theorem dX13_reads_64 : decode cX13_reads 64 = .ok (.istore 5, 2) := by decide +kernel
theorem dX13_reads_66 : decode cX13_reads 66 = .ok (.iload 5, 2) := by decide +kernel
theorem dX13_reads_68 : decode cX13_reads 68 = .ok (.aload_n 0, 1) := by decide +kernel
theorem dX13_reads_69 : decode cX13_reads 69 = .ok (.getfield 23, 3) := by decide +kernel
theorem dX13_reads_72 : decode cX13_reads 72 = .ok (.iload 4, 2) := by decide +kernel
theorem dX13_reads_74 : decode cX13_reads 74 = .ok (.iaload, 1) := by decide +kernel
theorem dX13_reads_75 : decode cX13_reads 75 = .ok (.if_icmp .ge 118, 3) := by decide +kernel
theorem dX13_reads_78 : decode cX13_reads 78 = .ok (.aload_n 0, 1) := by decide +kernel
theorem dX13_reads_79 : decode cX13_reads 79 = .ok (.getfield 26, 3) := by decide +kernel
theorem dX13_reads_82 : decode cX13_reads 82 = .ok (.bipush 6, 2) := by decide +kernel
theorem dX13_reads_84 : decode cX13_reads 84 = .ok (.iload 4, 2) := by decide +kernel
theorem dX13_reads_86 : decode cX13_reads 86 = .ok (.imul, 1) := by decide +kernel
theorem dX13_reads_87 : decode cX13_reads 87 = .ok (.iload 5, 2) := by decide +kernel
theorem dX13_reads_89 : decode cX13_reads 89 = .ok (.iadd, 1) := by decide +kernel
theorem dX13_reads_90 : decode cX13_reads 90 = .ok (.iaload, 1) := by decide +kernel
theorem dX13_reads_91 : decode cX13_reads 91 = .ok (.istore 6, 2) := by decide +kernel
theorem dX13_reads_93 : decode cX13_reads 93 = .ok (.iload 6, 2) := by decide +kernel
theorem dX13_reads_95 : decode cX13_reads 95 = .ok (.iconst (-1), 1) := by decide +kernel
theorem dX13_reads_96 : decode cX13_reads 96 = .ok (.if_icmp .ne 7, 3) := by decide +kernel
theorem dX13_reads_99 : decode cX13_reads 99 = .ok (.iconst (-1), 1) := by decide +kernel
theorem dX13_reads_100 : decode cX13_reads 100 = .ok (.goto 14, 3) := by decide +kernel
theorem dX13_reads_103 : decode cX13_reads 103 = .ok (.aload_n 0, 1) := by decide +kernel
theorem dX13_reads_104 : decode cX13_reads 104 = .ok (.aload_n 0, 1) := by decide +kernel
theorem dX13_reads_105 : decode cX13_reads 105 = .ok (.getfield 72, 3) := by decide +kernel
theorem dX13_reads_108 : decode cX13_reads 108 = .ok (.iload 6, 2) := by decide +kernel
theorem dX13_reads_110 : decode cX13_reads 110 = .ok (.iaload, 1) := by decide +kernel
theorem dX13_reads_111 : decode cX13_reads 111 = .ok (.invokevirtual 444, 3) := by decide +kernel
theorem dX13_reads_114 : decode cX13_reads 114 = .ok (.istore 7, 2) := by decide +kernel
theorem dX13_reads_116 : decode cX13_reads 116 = .ok (.iload 7, 2) := by decide +kernel
theorem dX13_reads_118 : decode cX13_reads 118 = .ok (.iconst 5, 1) := by decide +kernel
theorem dX13_reads_119 : decode cX13_reads 119 = .ok (.if_icmp .lt 31, 3) := by decide +kernel
theorem dX13_reads_122 : decode cX13_reads 122 = .ok (.aload_n 0, 1) := by decide +kernel
theorem dX13_reads_123 : decode cX13_reads 123 = .ok (.getfield 166, 3) := by decide +kernel
theorem dX13_reads_126 : decode cX13_reads 126 = .ok (.aload_n 0, 1) := by decide +kernel
theorem dX13_reads_127 : decode cX13_reads 127 = .ok (.getfield 447, 3) := by decide +kernel
theorem dX13_reads_130 : decode cX13_reads 130 = .ok (.bipush 97, 2) := by decide +kernel
theorem dX13_reads_132 : decode cX13_reads 132 = .ok (.iload 7, 2) := by decide +kernel
theorem dX13_reads_134 : decode cX13_reads 134 = .ok (.iconst 5, 1) := by decide +kernel
theorem dX13_reads_135 : decode cX13_reads 135 = .ok (.idiv, 1) := by decide +kernel
theorem dX13_reads_136 : decode cX13_reads 136 = .ok (.iadd, 1) := by decide +kernel
theorem dX13_reads_137 : decode cX13_reads 137 = .ok (.iconst 1, 1) := by decide +kernel
theorem dX13_reads_138 : decode cX13_reads 138 = .ok (.isub, 1) := by decide +kernel
theorem dX13_reads_139 : decode cX13_reads 139 = .ok (.iastore, 1) := by decide +kernel
theorem dX13_reads_140 : decode cX13_reads 140 = .ok (.aload_n 0, 1) := by decide +kernel
theorem dX13_reads_141 : decode cX13_reads 141 = .ok (.dup, 1) := by decide +kernel
theorem dX13_reads_142 : decode cX13_reads 142 = .ok (.getfield 447, 3) := by decide +kernel
theorem dX13_reads_145 : decode cX13_reads 145 = .ok (.iconst 1, 1) := by decide +kernel
theorem dX13_reads_146 : decode cX13_reads 146 = .ok (.iadd, 1) := by decide +kernel
theorem dX13_reads_147 : decode cX13_reads 147 = .ok (.putfield 447, 3) := by decide +kernel
theorem dX13_reads_150 : decode cX13_reads 150 = .ok (.aload_n 0, 1) := by decide +kernel
theorem dX13_reads_151 : decode cX13_reads 151 = .ok (.getfield 166, 3) := by decide +kernel
theorem dX13_reads_154 : decode cX13_reads 154 = .ok (.aload_n 0, 1) := by decide +kernel
theorem dX13_reads_155 : decode cX13_reads 155 = .ok (.getfield 447, 3) := by decide +kernel
theorem dX13_reads_158 : decode cX13_reads 158 = .ok (.iload 7, 2) := by decide +kernel
theorem dX13_reads_160 : decode cX13_reads 160 = .ok (.iconst (-1), 1) := by decide +kernel
theorem dX13_reads_161 : decode cX13_reads 161 = .ok (.if_icmp .ne 8, 3) := by decide +kernel
theorem dX13_reads_164 : decode cX13_reads 164 = .ok (.bipush 63, 2) := by decide +kernel
theorem dX13_reads_166 : decode cX13_reads 166 = .ok (.goto 10, 3) := by decide +kernel
theorem dX13_reads_169 : decode cX13_reads 169 = .ok (.iload 7, 2) := by decide +kernel
theorem dX13_reads_171 : decode cX13_reads 171 = .ok (.iconst 5, 1) := by decide +kernel
theorem dX13_reads_172 : decode cX13_reads 172 = .ok (.irem, 1) := by decide +kernel
theorem dX13_reads_173 : decode cX13_reads 173 = .ok (.invokestatic 450, 3) := by decide +kernel
theorem dX13_reads_176 : decode cX13_reads 176 = .ok (.iastore, 1) := by decide +kernel
theorem dX13_reads_177 : decode cX13_reads 177 = .ok (.aload_n 0, 1) := by decide +kernel
theorem dX13_reads_178 : decode cX13_reads 178 = .ok (.dup, 1) := by decide +kernel
theorem dX13_reads_179 : decode cX13_reads 179 = .ok (.getfield 447, 3) := by decide +kernel
theorem dX13_reads_182 : decode cX13_reads 182 = .ok (.iconst 1, 1) := by decide +kernel
theorem dX13_reads_183 : decode cX13_reads 183 = .ok (.iadd, 1) := by decide +kernel
theorem dX13_reads_184 : decode cX13_reads 184 = .ok (.putfield 447, 3) := by decide +kernel
theorem dX13_reads_187 : decode cX13_reads 187 = .ok (.iinc 5 1, 3) := by decide +kernel
theorem dX13_reads_190 : decode cX13_reads 190 = .ok (.goto (-124), 3) := by decide +kernel
theorem dX13_reads_193 : decode cX13_reads 193 = .ok (.aload_n 0, 1) := by decide +kernel
theorem dX13_reads_194 : decode cX13_reads 194 = .ok (.getfield 447, 3) := by decide +kernel
theorem dX13_reads_197 : decode cX13_reads 197 = .ok (.ireturn, 1) := by decide +kernel
noncomputable def f_X13_reads_43   (σ : jM) : Option (Int32 × jM) :=
  some ((-1), σ)
noncomputable def f_X13_reads_176 (rec66 : Int32 → Int32 → jM → Option (Int32 × jM)) (l4 : Int32) (l5 : Int32) (s1 : Int32) (s2 : Int32) (σ : jM) : Option (Int32 × jM) :=
  gd (inb s1 12) (rec66 l4 (l5 + 1) (wI (wI σ 374 (Int32.toNatClampNeg s1) s2) 324 75 ((rI (wI σ 374 (Int32.toNatClampNeg s1) s2) 324 75) + 1)))
noncomputable def f_X13_reads_150 (rec66 : Int32 → Int32 → jM → Option (Int32 × jM)) (l4 : Int32) (l5 : Int32) (l7 : Int32) (σ : jM) : Option (Int32 × jM) :=
  (if l7 = (-1) then f_X13_reads_176 rec66 l4 l5 (rI σ 324 75) 63 σ else bd (f_X13_vowelLetter (l7 - l7 / 5 * 5) σ) (fun r10 σ11 => f_X13_reads_176 rec66 l4 l5 (rI σ 324 75) r10 σ11))
noncomputable def f_X13_reads_114 (rec66 : Int32 → Int32 → jM → Option (Int32 × jM)) (l4 : Int32) (l5 : Int32) (s0 : Int32) (σ : jM) : Option (Int32 × jM) :=
  (if s0 < 5 then f_X13_reads_150 rec66 l4 l5 s0 σ else gd (inb (rI σ 324 75) 12) (f_X13_reads_150 rec66 l4 l5 s0 (wI (wI σ 374 (Int32.toNatClampNeg (rI σ 324 75)) ((97 + (s0 / 5)) - 1)) 324 75 ((rI (wI σ 374 (Int32.toNatClampNeg (rI σ 324 75)) ((97 + (s0 / 5)) - 1)) 324 75) + 1))))
noncomputable def s_X13_reads_66  (rec66 : Int32 → Int32 → jM → Option (Int32 × jM)) (l4 : Int32) (l5 : Int32) (σ : jM) : Option (Int32 × jM) :=
  gd (inb l4 200) ((if (rI σ 328 (Int32.toNatClampNeg l4)) ≤ l5 then some ((rI σ 324 75), σ) else gd (inb ((6 * l4) + l5) 1200) ((if (rI σ 329 (Int32.toNatClampNeg ((6 * l4) + l5))) = (-1) then f_X13_reads_114 rec66 l4 l5 (-1) σ else gd (inb (rI σ 329 (Int32.toNatClampNeg ((6 * l4) + l5))) 40) (bd (f_X13_forcedOf (rI σ 343 (Int32.toNatClampNeg (rI σ 329 (Int32.toNatClampNeg ((6 * l4) + l5))))) σ) (fun r26 σ27 => f_X13_reads_114 rec66 l4 l5 r26 σ27))))))
noncomputable def f_X13_reads_66  (n : Nat) : Int32 → Int32 → jM → Option (Int32 × jM) := Nat.rec (motive := fun _ => Int32 → Int32 → jM → Option (Int32 × jM)) (fun _ _ _ => none) (fun _ q => s_X13_reads_66  q) n
noncomputable def f_X13_reads (a1 : Int32) (a2 : Int32) (a3 : Int32) (σ : jM) : Option (Int32 × jM) :=
  bd (f_X13_isKnown a1 (wI σ 324 0 0)) (fun r37 σ38 => (if r37 = 0 then f_X13_reads_43   σ38 else bd (f_X13_within a2 0 ((rI σ38 324 2) - 1) σ38) (fun r41 σ42 => (if r41 = 0 then f_X13_reads_43   σ42 else gd (inb a2 25) (bd (f_X13_within a3 0 ((rI σ42 327 (Int32.toNatClampNeg a2)) - 1) σ42) (fun r46 σ47 => (if r46 = 0 then f_X13_reads_43   σ47 else bd (f_X13_findAll a1 σ47) (fun _ σ51 => f_X13_reads_66  Fu ((8 * a2) + a3) 0 (wI σ51 324 75 0)))))))))
set_option maxRecDepth 20000 in
set_option maxHeartbeats 4000000 in
theorem t_X13_reads_43   (σ : jM) (r : Int32 × jM)  (h : f_X13_reads_43   σ = some r) : J mi_X13_reads 7 0 0 (jqI r) 43 [] [] (ms σ) := by
  unfold f_X13_reads_43 at h
  refine J_iconst (v := (-1)) dX13_reads_43 (by decide) ?_
  exact J_ret (v := some (.int (-1))) rfl ⟨dX13_reads_44, Or.inl rfl⟩ (jqI_mk h)
set_option maxRecDepth 20000 in
set_option maxHeartbeats 4000000 in
theorem t_X13_reads_176 {rec66 : Int32 → Int32 → jM → Option (Int32 × jM)} (hrec66 : ∀ (l4 : Int32) (l5 : Int32) (σ : jM) (r : Int32 × jM), rec66 l4 l5 σ = some r → J mi_X13_reads 7 0 0 (jqI r) 66 [(0, .ref 324), (4, .int l4), (5, .int l5)] [] (ms σ)) (l4 : Int32) (l5 : Int32) (s1 : Int32) (s2 : Int32) (σ : jM) (r : Int32 × jM)  (h : f_X13_reads_176 rec66 l4 l5 s1 s2 σ = some r) : J mi_X13_reads 7 0 0 (jqI r) 176 [(0, .ref 324), (4, .int l4), (5, .int l5)] [.int s2, .int s1, .ref 374] (ms σ) := by
  unfold f_X13_reads_176 at h
  obtain ⟨g8, h⟩ := gd_inv h
  refine M_iast dX13_reads_176 a_374 n_374 g8 ?_
  refine J_aload_n 0 dX13_reads_177 rfl ?_
  refine J_dup dX13_reads_178 rfl ?_
  refine M_getI gf_X13_447_12 dX13_reads_179 k_324 n_324 ?_
  refine J_iconst (v := 1) dX13_reads_182 (by decide) ?_
  refine J_iadd dX13_reads_183 ?_
  refine M_putI pf_X13_447_12 dX13_reads_184 k_324 n_324 ⟨rfl, rfl⟩ ?_
  refine J_iinc (v := (l5 + 1)) (ls' := [(5, .int (l5 + 1)), (0, .ref 324), (4, .int l4)]) 2 dX13_reads_187 rfl rfl (by decide) rfl ?_
  refine J_goto (tgt := 66) dX13_reads_190 (by decide) ?_
  refine J_pick [1, 2, 0] rfl ?_
  exact hrec66 _ _ _ _  h
set_option maxRecDepth 20000 in
set_option maxHeartbeats 4000000 in
theorem t_X13_reads_150 {rec66 : Int32 → Int32 → jM → Option (Int32 × jM)} (hrec66 : ∀ (l4 : Int32) (l5 : Int32) (σ : jM) (r : Int32 × jM), rec66 l4 l5 σ = some r → J mi_X13_reads 7 0 0 (jqI r) 66 [(0, .ref 324), (4, .int l4), (5, .int l5)] [] (ms σ)) (l4 : Int32) (l5 : Int32) (l7 : Int32) (σ : jM) (r : Int32 × jM)  (h : f_X13_reads_150 rec66 l4 l5 l7 σ = some r) : J mi_X13_reads 7 0 0 (jqI r) 150 [(0, .ref 324), (4, .int l4), (5, .int l5), (7, .int l7)] [] (ms σ) := by
  unfold f_X13_reads_150 at h
  refine J_aload_n 0 dX13_reads_150 rfl ?_
  refine M_getR gf_X13_166_12 dX13_reads_151 (g_324_74 _) k_324 n_324 ?_
  refine J_aload_n 0 dX13_reads_154 rfl ?_
  refine M_getI gf_X13_447_12 dX13_reads_155 k_324 n_324 ?_
  refine J_iload 3 dX13_reads_158 rfl ?_
  refine J_iconst (v := (-1)) dX13_reads_160 (by decide) ?_
  refine J_icmp_ne (tgt := 169) dX13_reads_161 (by decide) (fun c13 => ?_) (fun c13 => ?_)
  · have h := (if_neg c13).symm.trans h
    refine J_iload 3 dX13_reads_169 rfl ?_
    refine J_iconst (v := 5) dX13_reads_171 (by decide) ?_
    refine J_irem dX13_reads_172 (by decide) ?_
    obtain ⟨r14, σ15, h16, h⟩ := bd_inv h
    refine M_callSI (d' := 1) (As := [.int (l7 - l7 / 5 * 5)]) (st := [.int (rI σ 324 75), .ref 374]) cs_X13_450 dX13_reads_173 rfl (Nat.le_of_ble_eq_true rfl) (Nat.le_of_ble_eq_true rfl) (by decide) rfl rfl (t_X13_vowelLetter  h16) ?_
    refine J_pick [0, 1, 2] rfl ?_
    exact t_X13_reads_176 hrec66 _ _ _ _ _ _  h
  · have h := (if_pos c13).symm.trans h
    refine J_bipush (v := 63) dX13_reads_164 (by decide) ?_
    refine J_goto (tgt := 176) dX13_reads_166 (by decide) ?_
    refine J_pick [0, 1, 2] rfl ?_
    exact t_X13_reads_176 hrec66 _ _ _ _ _ _  h
set_option maxRecDepth 20000 in
set_option maxHeartbeats 4000000 in
theorem t_X13_reads_114 {rec66 : Int32 → Int32 → jM → Option (Int32 × jM)} (hrec66 : ∀ (l4 : Int32) (l5 : Int32) (σ : jM) (r : Int32 × jM), rec66 l4 l5 σ = some r → J mi_X13_reads 7 0 0 (jqI r) 66 [(0, .ref 324), (4, .int l4), (5, .int l5)] [] (ms σ)) (l4 : Int32) (l5 : Int32) (s0 : Int32) (σ : jM) (r : Int32 × jM)  (h : f_X13_reads_114 rec66 l4 l5 s0 σ = some r) : J mi_X13_reads 7 0 0 (jqI r) 114 [(0, .ref 324), (4, .int l4), (5, .int l5)] [.int s0] (ms σ) := by
  unfold f_X13_reads_114 at h
  refine J_istore (i := 7) (ls' := [(7, .int s0), (0, .ref 324), (4, .int l4), (5, .int l5)]) dX13_reads_114 (by decide) rfl ?_
  refine J_iload 0 dX13_reads_116 rfl ?_
  refine J_iconst (v := 5) dX13_reads_118 (by decide) ?_
  refine J_icmp_lt (tgt := 150) dX13_reads_119 (by decide) (fun c19 => ?_) (fun c19 => ?_)
  · have h := (if_pos c19).symm.trans h
    refine J_pick [1, 2, 3, 0] rfl ?_
    exact t_X13_reads_150 hrec66 _ _ _ _ _  h
  · have h := (if_neg c19).symm.trans h
    refine J_aload_n 1 dX13_reads_122 rfl ?_
    refine M_getR gf_X13_166_12 dX13_reads_123 (g_324_74 _) k_324 n_324 ?_
    refine J_aload_n 1 dX13_reads_126 rfl ?_
    refine M_getI gf_X13_447_12 dX13_reads_127 k_324 n_324 ?_
    refine J_bipush (v := 97) dX13_reads_130 (by decide) ?_
    refine J_iload 0 dX13_reads_132 rfl ?_
    refine J_iconst (v := 5) dX13_reads_134 (by decide) ?_
    refine J_idiv dX13_reads_135 (by decide) ?_
    refine J_iadd dX13_reads_136 ?_
    refine J_iconst (v := 1) dX13_reads_137 (by decide) ?_
    refine J_isub dX13_reads_138 ?_
    obtain ⟨g20, h⟩ := gd_inv h
    refine M_iast dX13_reads_139 a_374 n_374 g20 ?_
    refine J_aload_n 1 dX13_reads_140 rfl ?_
    refine J_dup dX13_reads_141 rfl ?_
    refine M_getI gf_X13_447_12 dX13_reads_142 k_324 n_324 ?_
    refine J_iconst (v := 1) dX13_reads_145 (by decide) ?_
    refine J_iadd dX13_reads_146 ?_
    refine M_putI pf_X13_447_12 dX13_reads_147 k_324 n_324 ⟨rfl, rfl⟩ ?_
    refine J_pick [1, 2, 3, 0] rfl ?_
    exact t_X13_reads_150 hrec66 _ _ _ _ _  h
set_option maxRecDepth 20000 in
set_option maxHeartbeats 4000000 in
theorem t_X13_reads_66  : ∀ (n : Nat) (l4 : Int32) (l5 : Int32) (σ : jM) (r : Int32 × jM), f_X13_reads_66  n l4 l5 σ = some r → J mi_X13_reads 7 0 0 (jqI r) 66 [(0, .ref 324), (4, .int l4), (5, .int l5)] [] (ms σ) := by
  intro n
  induction n with
  | zero =>
    intro l4 l5 σ r  h
    have h : (none : Option (Int32 × jM)) = some r := h
    cases h
  | succ n ih =>
    intro l4 l5 σ r  h
    have h : s_X13_reads_66  (f_X13_reads_66  n) l4 l5 σ = some r := h
    unfold s_X13_reads_66 at h
    refine J_iload 2 dX13_reads_66 rfl ?_
    refine J_aload_n 0 dX13_reads_68 rfl ?_
    refine M_getR gf_X13_23_12 dX13_reads_69 (g_324_6 _) k_324 n_324 ?_
    refine J_iload 1 dX13_reads_72 rfl ?_
    obtain ⟨g29, h⟩ := gd_inv h
    refine M_iald dX13_reads_74 a_328 n_328 g29 ?_
    refine J_icmp_ge (tgt := 193) dX13_reads_75 (by decide) (fun c30 => ?_) (fun c30 => ?_)
    · have h := (if_pos c30).symm.trans h
      refine J_aload_n 0 dX13_reads_193 rfl ?_
      refine M_getI gf_X13_447_12 dX13_reads_194 k_324 n_324 ?_
      exact J_ret (v := some (.int (rI σ 324 75))) rfl ⟨dX13_reads_197, Or.inl rfl⟩ (jqI_mk h)
    · have h := (if_neg c30).symm.trans h
      refine J_aload_n 0 dX13_reads_78 rfl ?_
      refine M_getR gf_X13_26_12 dX13_reads_79 (g_324_7 _) k_324 n_324 ?_
      refine J_bipush (v := 6) dX13_reads_82 (by decide) ?_
      refine J_iload 1 dX13_reads_84 rfl ?_
      refine J_imul dX13_reads_86 ?_
      refine J_iload 2 dX13_reads_87 rfl ?_
      refine J_iadd dX13_reads_89 ?_
      obtain ⟨g31, h⟩ := gd_inv h
      refine M_iald dX13_reads_90 a_329 n_329 g31 ?_
      refine J_istore (i := 6) (ls' := [(6, .int (rI σ 329 (Int32.toNatClampNeg ((6 * l4) + l5)))), (0, .ref 324), (4, .int l4), (5, .int l5)]) dX13_reads_91 (by decide) rfl ?_
      refine J_iload 0 dX13_reads_93 rfl ?_
      refine J_iconst (v := (-1)) dX13_reads_95 (by decide) ?_
      refine J_icmp_ne (tgt := 103) dX13_reads_96 (by decide) (fun c32 => ?_) (fun c32 => ?_)
      · have h := (if_neg c32).symm.trans h
        refine J_aload_n 1 dX13_reads_103 rfl ?_
        refine J_aload_n 1 dX13_reads_104 rfl ?_
        refine M_getR gf_X13_72_12 dX13_reads_105 (g_324_31 _) k_324 n_324 ?_
        refine J_iload 0 dX13_reads_108 rfl ?_
        obtain ⟨g33, h⟩ := gd_inv h
        refine M_iald dX13_reads_110 a_343 n_343 g33 ?_
        obtain ⟨r34, σ35, h36, h⟩ := bd_inv h
        refine M_callVI (d' := 1) (k := 324) (As := [.int (rI σ 343 (Int32.toNatClampNeg (rI σ 329 (Int32.toNatClampNeg ((6 * l4) + l5)))))]) (st := []) cv_X13_444 dX13_reads_111 rfl (by decide) rfl (Nat.le_of_ble_eq_true rfl) (Nat.le_of_ble_eq_true rfl) (by decide) n_324 k_324 rfl rfl (t_X13_forcedOf  h36) ?_
        refine J_pick [1, 2, 3] rfl ?_
        exact t_X13_reads_114 ih _ _ _ _ _  h
      · have h := (if_pos c32).symm.trans h
        refine J_iconst (v := (-1)) dX13_reads_99 (by decide) ?_
        refine J_goto (tgt := 114) dX13_reads_100 (by decide) ?_
        refine J_pick [1, 2, 3] rfl ?_
        exact t_X13_reads_114 ih _ _ _ _ _  h
set_option maxRecDepth 20000 in
set_option maxHeartbeats 4000000 in
theorem t_X13_reads {a1 : Int32} {a2 : Int32} {a3 : Int32} {σ : jM} {r : Int32 × jM}  (h : f_X13_reads a1 a2 a3 σ = some r) : J mi_X13_reads 7 0 0 (jqI r) 0 [(0, .ref 324), (1, .int a1), (2, .int a2), (3, .int a3)] [] (ms σ) := by
  unfold f_X13_reads at h
  refine J_aload_n 0 dX13_reads_0 rfl ?_
  refine J_iconst (v := 0) dX13_reads_1 (by decide) ?_
  refine M_putI pf_X13_1_12 dX13_reads_2 k_324 n_324 ⟨rfl, rfl⟩ ?_
  refine J_aload_n 0 dX13_reads_5 rfl ?_
  refine J_iload_n 1 dX13_reads_6 rfl ?_
  obtain ⟨r37, σ38, h39, h⟩ := bd_inv h
  refine M_callVI (d' := 1) (k := 324) (As := [.int a1]) (st := []) cv_X13_298 dX13_reads_7 rfl (by decide) rfl (Nat.le_of_ble_eq_true rfl) (Nat.le_of_ble_eq_true rfl) (by decide) n_324 k_324 rfl rfl (t_X13_isKnown  h39) ?_
  refine J_if_eq (tgt := 43) dX13_reads_10 (by decide) (fun c40 => ?_) (fun c40 => ?_)
  · have h := (if_pos c40).symm.trans h
    refine J_pick [] rfl ?_
    exact t_X13_reads_43   _ _  h
  · have h := (if_neg c40).symm.trans h
    refine J_iload_n 2 dX13_reads_13 rfl ?_
    refine J_iconst (v := 0) dX13_reads_14 (by decide) ?_
    refine J_aload_n 0 dX13_reads_15 rfl ?_
    refine M_getI gf_X13_243_12 dX13_reads_16 k_324 n_324 ?_
    refine J_iconst (v := 1) dX13_reads_19 (by decide) ?_
    refine J_isub dX13_reads_20 ?_
    obtain ⟨r41, σ42, h43, h⟩ := bd_inv h
    refine M_callSI (d' := 1) (As := [.int a2, .int 0, .int ((rI σ38 324 2) - 1)]) (st := []) cs_X13_169 dX13_reads_21 rfl (Nat.le_of_ble_eq_true rfl) (Nat.le_of_ble_eq_true rfl) (by decide) rfl rfl (t_X13_within  h43) ?_
    refine J_if_eq (tgt := 43) dX13_reads_24 (by decide) (fun c44 => ?_) (fun c44 => ?_)
    · have h := (if_pos c44).symm.trans h
      refine J_pick [] rfl ?_
      exact t_X13_reads_43   _ _  h
    · have h := (if_neg c44).symm.trans h
      refine J_iload_n 3 dX13_reads_27 rfl ?_
      refine J_iconst (v := 0) dX13_reads_28 (by decide) ?_
      refine J_aload_n 0 dX13_reads_29 rfl ?_
      refine M_getR gf_X13_20_12 dX13_reads_30 (g_324_5 _) k_324 n_324 ?_
      refine J_iload_n 2 dX13_reads_33 rfl ?_
      obtain ⟨g45, h⟩ := gd_inv h
      refine M_iald dX13_reads_34 a_327 n_327 g45 ?_
      refine J_iconst (v := 1) dX13_reads_35 (by decide) ?_
      refine J_isub dX13_reads_36 ?_
      obtain ⟨r46, σ47, h48, h⟩ := bd_inv h
      refine M_callSI (d' := 1) (As := [.int a3, .int 0, .int ((rI σ42 327 (Int32.toNatClampNeg a2)) - 1)]) (st := []) cs_X13_169 dX13_reads_37 rfl (Nat.le_of_ble_eq_true rfl) (Nat.le_of_ble_eq_true rfl) (by decide) rfl rfl (t_X13_within  h48) ?_
      refine J_if_ne (tgt := 45) dX13_reads_40 (by decide) (fun c49 => ?_) (fun c49 => ?_)
      · have h := (if_neg c49).symm.trans h
        refine J_aload_n 0 dX13_reads_45 rfl ?_
        refine J_iload_n 1 dX13_reads_46 rfl ?_
        obtain ⟨_, σ51, h52, h⟩ := bd_inv h
        refine M_callVV (d' := 6) (k := 324) (As := [.int a1]) (st := []) cv_X13_438 dX13_reads_47 rfl (by decide) rfl (Nat.le_of_ble_eq_true rfl) (Nat.le_of_ble_eq_true rfl) (by decide) n_324 k_324 rfl rfl (t_X13_findAll  h52) ?_
        refine J_bipush (v := 8) dX13_reads_50 (by decide) ?_
        refine J_iload_n 2 dX13_reads_52 rfl ?_
        refine J_imul dX13_reads_53 ?_
        refine J_iload_n 3 dX13_reads_54 rfl ?_
        refine J_iadd dX13_reads_55 ?_
        refine J_istore (i := 4) (ls' := [(4, .int ((8 * a2) + a3)), (0, .ref 324), (1, .int a1), (2, .int a2), (3, .int a3)]) dX13_reads_56 (by decide) rfl ?_
        refine J_aload_n 1 dX13_reads_58 rfl ?_
        refine J_iconst (v := 0) dX13_reads_59 (by decide) ?_
        refine M_putI pf_X13_447_12 dX13_reads_60 k_324 n_324 ⟨rfl, rfl⟩ ?_
        refine J_iconst (v := 0) dX13_reads_63 (by decide) ?_
        refine J_istore (i := 5) (ls' := [(5, .int 0), (4, .int ((8 * a2) + a3)), (0, .ref 324), (1, .int a1), (2, .int a2), (3, .int a3)]) dX13_reads_64 (by decide) rfl ?_
        refine J_pick [2, 1, 0] rfl ?_
        exact t_X13_reads_66  _ _ _ _ _  h
      · have h := (if_pos c49).symm.trans h
        refine J_pick [] rfl ?_
        exact t_X13_reads_43   _ _  h
theorem dX13_settles_0 : decode cX13_settles 0 = .ok (.aload_n 0, 1) := by decide +kernel
theorem dX13_settles_1 : decode cX13_settles 1 = .ok (.iconst 0, 1) := by decide +kernel
theorem dX13_settles_2 : decode cX13_settles 2 = .ok (.putfield 1, 3) := by decide +kernel
theorem dX13_settles_5 : decode cX13_settles 5 = .ok (.aload_n 0, 1) := by decide +kernel
theorem dX13_settles_6 : decode cX13_settles 6 = .ok (.iload_n 1, 1) := by decide +kernel
theorem dX13_settles_7 : decode cX13_settles 7 = .ok (.invokevirtual 298, 3) := by decide +kernel
theorem dX13_settles_10 : decode cX13_settles 10 = .ok (.ifCond .eq 12, 3) := by decide +kernel
theorem dX13_settles_13 : decode cX13_settles 13 = .ok (.iload_n 2, 1) := by decide +kernel
theorem dX13_settles_14 : decode cX13_settles 14 = .ok (.iconst 0, 1) := by decide +kernel
theorem dX13_settles_15 : decode cX13_settles 15 = .ok (.iconst 1, 1) := by decide +kernel
theorem dX13_settles_16 : decode cX13_settles 16 = .ok (.invokestatic 169, 3) := by decide +kernel
theorem dX13_settles_19 : decode cX13_settles 19 = .ok (.ifCond .ne 5, 3) := by decide +kernel
theorem dX13_settles_22 : decode cX13_settles 22 = .ok (.iconst (-1), 1) := by decide +kernel
theorem dX13_settles_23 : decode cX13_settles 23 = .ok (.ireturn, 1) := by decide +kernel
theorem dX13_settles_24 : decode cX13_settles 24 = .ok (.aload_n 0, 1) := by decide +kernel
theorem dX13_settles_25 : decode cX13_settles 25 = .ok (.iload_n 1, 1) := by decide +kernel
theorem dX13_settles_26 : decode cX13_settles 26 = .ok (.invokevirtual 438, 3) := by decide +kernel
theorem dX13_settles_29 : decode cX13_settles 29 = .ok (.aload_n 0, 1) := by decide +kernel
theorem dX13_settles_30 : decode cX13_settles 30 = .ok (.getfield 411, 3) := by decide +kernel
theorem dX13_settles_33 : decode cX13_settles 33 = .ok (.ifCond .ne 5, 3) := by decide +kernel
theorem dX13_settles_36 : decode cX13_settles 36 = .ok (.iconst (-1), 1) := by decide +kernel
theorem dX13_settles_37 : decode cX13_settles 37 = .ok (.ireturn, 1) := by decide +kernel
theorem dX13_settles_38 : decode cX13_settles 38 = .ok (.iconst (-1), 1) := by decide +kernel
theorem dX13_settles_39 : decode cX13_settles 39 = .ok (.istore_n 3, 1) := by decide +kernel
theorem dX13_settles_40 : decode cX13_settles 40 = .ok (.iconst 0, 1) := by decide +kernel
theorem dX13_settles_41 : decode cX13_settles 41 = .ok (.istore 4, 2) := by decide +kernel
theorem dX13_settles_43 : decode cX13_settles 43 = .ok (.iconst 0, 1) := by decide +kernel
theorem dX13_settles_44 : decode cX13_settles 44 = .ok (.istore 5, 2) := by decide +kernel
theorem dX13_settles_46 : decode cX13_settles 46 = .ok (.iload 5, 2) := by decide +kernel
theorem dX13_settles_48 : decode cX13_settles 48 = .ok (.bipush 40, 2) := by decide +kernel
theorem dX13_settles_50 : decode cX13_settles 50 = .ok (.if_icmp .ge 101, 3) := by decide +kernel
theorem dX13_settles_53 : decode cX13_settles 53 = .ok (.aload_n 0, 1) := by decide +kernel
theorem dX13_settles_54 : decode cX13_settles 54 = .ok (.getfield 72, 3) := by decide +kernel
theorem dX13_settles_57 : decode cX13_settles 57 = .ok (.iload 5, 2) := by decide +kernel
theorem dX13_settles_59 : decode cX13_settles 59 = .ok (.iaload, 1) := by decide +kernel
theorem dX13_settles_60 : decode cX13_settles 60 = .ok (.iload 5, 2) := by decide +kernel
theorem dX13_settles_62 : decode cX13_settles 62 = .ok (.if_icmp .eq 6, 3) := by decide +kernel
theorem dX13_settles_65 : decode cX13_settles 65 = .ok (.goto 80, 3) := by decide +kernel
theorem dX13_settles_68 : decode cX13_settles 68 = .ok (.iconst 0, 1) := by decide +kernel
theorem dX13_settles_69 : decode cX13_settles 69 = .ok (.istore 6, 2) := by decide +kernel
theorem dX13_settles_71 : decode cX13_settles 71 = .ok (.iconst 0, 1) := by decide +kernel
theorem dX13_settles_72 : decode cX13_settles 72 = .ok (.istore 7, 2) := by decide +kernel
theorem dX13_settles_74 : decode cX13_settles 74 = .ok (.iload 7, 2) := by decide +kernel
theorem dX13_settles_76 : decode cX13_settles 76 = .ok (.sipush 136, 3) := by decide +kernel
theorem dX13_settles_79 : decode cX13_settles 79 = .ok (.if_icmp .ge 44, 3) := by decide +kernel
theorem dX13_settles_82 : decode cX13_settles 82 = .ok (.aload_n 0, 1) := by decide +kernel
theorem dX13_settles_83 : decode cX13_settles 83 = .ok (.getfield 160, 3) := by decide +kernel
theorem dX13_settles_86 : decode cX13_settles 86 = .ok (.sipush 136, 3) := by decide +kernel
theorem dX13_settles_89 : decode cX13_settles 89 = .ok (.iload 5, 2) := by decide +kernel
theorem dX13_settles_91 : decode cX13_settles 91 = .ok (.imul, 1) := by decide +kernel
theorem dX13_settles_92 : decode cX13_settles 92 = .ok (.iload 7, 2) := by decide +kernel
theorem dX13_settles_94 : decode cX13_settles 94 = .ok (.iadd, 1) := by decide +kernel
theorem dX13_settles_95 : decode cX13_settles 95 = .ok (.iaload, 1) := by decide +kernel
theorem dX13_settles_96 : decode cX13_settles 96 = .ok (.iload 6, 2) := by decide +kernel
theorem dX13_settles_98 : decode cX13_settles 98 = .ok (.if_icmp .le 19, 3) := by decide +kernel
theorem dX13_settles_101 : decode cX13_settles 101 = .ok (.aload_n 0, 1) := by decide +kernel
theorem dX13_settles_102 : decode cX13_settles 102 = .ok (.getfield 160, 3) := by decide +kernel
theorem dX13_settles_105 : decode cX13_settles 105 = .ok (.sipush 136, 3) := by decide +kernel
theorem dX13_settles_108 : decode cX13_settles 108 = .ok (.iload 5, 2) := by decide +kernel
theorem dX13_settles_110 : decode cX13_settles 110 = .ok (.imul, 1) := by decide +kernel
theorem dX13_settles_111 : decode cX13_settles 111 = .ok (.iload 7, 2) := by decide +kernel
theorem dX13_settles_113 : decode cX13_settles 113 = .ok (.iadd, 1) := by decide +kernel
theorem dX13_settles_114 : decode cX13_settles 114 = .ok (.iaload, 1) := by decide +kernel
theorem dX13_settles_115 : decode cX13_settles 115 = .ok (.istore 6, 2) := by decide +kernel
theorem dX13_settles_117 : decode cX13_settles 117 = .ok (.iinc 7 1, 3) := by decide +kernel
theorem dX13_settles_120 : decode cX13_settles 120 = .ok (.goto (-46), 3) := by decide +kernel
theorem dX13_settles_123 : decode cX13_settles 123 = .ok (.iload_n 3, 1) := by decide +kernel
theorem dX13_settles_124 : decode cX13_settles 124 = .ok (.iconst (-1), 1) := by decide +kernel
theorem dX13_settles_125 : decode cX13_settles 125 = .ok (.if_icmp .eq 13, 3) := by decide +kernel
theorem dX13_settles_128 : decode cX13_settles 128 = .ok (.iload 6, 2) := by decide +kernel
theorem dX13_settles_130 : decode cX13_settles 130 = .ok (.iload 4, 2) := by decide +kernel
theorem dX13_settles_132 : decode cX13_settles 132 = .ok (.if_icmp .lt 6, 3) := by decide +kernel
theorem dX13_settles_135 : decode cX13_settles 135 = .ok (.goto 10, 3) := by decide +kernel
theorem dX13_settles_138 : decode cX13_settles 138 = .ok (.iload 5, 2) := by decide +kernel
theorem dX13_settles_140 : decode cX13_settles 140 = .ok (.istore_n 3, 1) := by decide +kernel
theorem dX13_settles_141 : decode cX13_settles 141 = .ok (.iload 6, 2) := by decide +kernel
theorem dX13_settles_143 : decode cX13_settles 143 = .ok (.istore 4, 2) := by decide +kernel
theorem dX13_settles_145 : decode cX13_settles 145 = .ok (.iinc 5 1, 3) := by decide +kernel
theorem dX13_settles_148 : decode cX13_settles 148 = .ok (.goto (-102), 3) := by decide +kernel
theorem dX13_settles_151 : decode cX13_settles 151 = .ok (.iload_n 2, 1) := by decide +kernel
theorem dX13_settles_152 : decode cX13_settles 152 = .ok (.ifCond .ne 7, 3) := by decide +kernel
theorem dX13_settles_155 : decode cX13_settles 155 = .ok (.iload_n 3, 1) := by decide +kernel
theorem dX13_settles_156 : decode cX13_settles 156 = .ok (.goto 5, 3) := by decide +kernel
theorem dX13_settles_159 : decode cX13_settles 159 = .ok (.iload 4, 2) := by decide +kernel
theorem dX13_settles_161 : decode cX13_settles 161 = .ok (.ireturn, 1) := by decide +kernel
noncomputable def f_X13_settles_22   (σ : jM) : Option (Int32 × jM) :=
  some ((-1), σ)
noncomputable def f_X13_settles_161  (s0 : Int32) (σ : jM) : Option (Int32 × jM) :=
  some (s0, σ)
noncomputable def f_X13_settles_145 (rec46 : Int32 → Int32 → Int32 → Int32 → jM → Option (Int32 × jM)) (l2 : Int32) (l3 : Int32) (l4 : Int32) (l5 : Int32) (σ : jM) : Option (Int32 × jM) :=
  rec46 l2 l3 l4 (l5 + 1) σ
noncomputable def f_X13_settles_138 (rec46 : Int32 → Int32 → Int32 → Int32 → jM → Option (Int32 × jM)) (l2 : Int32) (l5 : Int32) (l6 : Int32) (σ : jM) : Option (Int32 × jM) :=
  f_X13_settles_145 rec46 l2 l5 l6 l5 σ
noncomputable def f_X13_settles_117 (rec46 : Int32 → Int32 → Int32 → Int32 → jM → Option (Int32 × jM)) (rec74 : Int32 → Int32 → Int32 → Int32 → Int32 → Int32 → jM → Option (Int32 × jM)) (l2 : Int32) (l3 : Int32) (l4 : Int32) (l5 : Int32) (l6 : Int32) (l7 : Int32) (σ : jM) : Option (Int32 × jM) :=
  rec74 l2 l3 l4 l5 l6 (l7 + 1) σ
noncomputable def s_X13_settles_74 (rec46 : Int32 → Int32 → Int32 → Int32 → jM → Option (Int32 × jM)) (rec74 : Int32 → Int32 → Int32 → Int32 → Int32 → Int32 → jM → Option (Int32 × jM)) (l2 : Int32) (l3 : Int32) (l4 : Int32) (l5 : Int32) (l6 : Int32) (l7 : Int32) (σ : jM) : Option (Int32 × jM) :=
  (if 136 ≤ l7 then (if l3 = (-1) then f_X13_settles_138 rec46 l2 l5 l6 σ else (if l6 < l4 then f_X13_settles_138 rec46 l2 l5 l6 σ else f_X13_settles_145 rec46 l2 l3 l4 l5 σ)) else gd (inb ((136 * l5) + l7) 5440) ((if (rI σ 372 (Int32.toNatClampNeg ((136 * l5) + l7))) ≤ l6 then f_X13_settles_117 rec46 rec74 l2 l3 l4 l5 l6 l7 σ else gd (inb ((136 * l5) + l7) 5440) (f_X13_settles_117 rec46 rec74 l2 l3 l4 l5 (rI σ 372 (Int32.toNatClampNeg ((136 * l5) + l7))) l7 σ))))
noncomputable def f_X13_settles_74 (rec46 : Int32 → Int32 → Int32 → Int32 → jM → Option (Int32 × jM)) (n : Nat) : Int32 → Int32 → Int32 → Int32 → Int32 → Int32 → jM → Option (Int32 × jM) := Nat.rec (motive := fun _ => Int32 → Int32 → Int32 → Int32 → Int32 → Int32 → jM → Option (Int32 × jM)) (fun _ _ _ _ _ _ _ => none) (fun _ q => s_X13_settles_74 rec46 q) n
noncomputable def s_X13_settles_46  (rec46 : Int32 → Int32 → Int32 → Int32 → jM → Option (Int32 × jM)) (l2 : Int32) (l3 : Int32) (l4 : Int32) (l5 : Int32) (σ : jM) : Option (Int32 × jM) :=
  (if 40 ≤ l5 then (if l2 = 0 then f_X13_settles_161  l3 σ else f_X13_settles_161  l4 σ) else gd (inb l5 40) ((if (rI σ 343 (Int32.toNatClampNeg l5)) = l5 then f_X13_settles_74 rec46 Fu l2 l3 l4 l5 0 0 σ else f_X13_settles_145 rec46 l2 l3 l4 l5 σ)))
noncomputable def f_X13_settles_46  (n : Nat) : Int32 → Int32 → Int32 → Int32 → jM → Option (Int32 × jM) := Nat.rec (motive := fun _ => Int32 → Int32 → Int32 → Int32 → jM → Option (Int32 × jM)) (fun _ _ _ _ _ => none) (fun _ q => s_X13_settles_46  q) n
noncomputable def f_X13_settles (a1 : Int32) (a2 : Int32) (σ : jM) : Option (Int32 × jM) :=
  bd (f_X13_isKnown a1 (wI σ 324 0 0)) (fun r24 σ25 => (if r24 = 0 then f_X13_settles_22   σ25 else bd (f_X13_within a2 0 1 σ25) (fun r28 σ29 => (if r28 = 0 then f_X13_settles_22   σ29 else bd (f_X13_findAll a1 σ29) (fun _ σ33 => (if (rI σ33 324 68) = 0 then some ((-1), σ33) else f_X13_settles_46  Fu a2 (-1) 0 0 σ33))))))
set_option maxRecDepth 20000 in
set_option maxHeartbeats 4000000 in
theorem t_X13_settles_22   (σ : jM) (r : Int32 × jM)  (h : f_X13_settles_22   σ = some r) : J mi_X13_settles 7 0 0 (jqI r) 22 [] [] (ms σ) := by
  unfold f_X13_settles_22 at h
  refine J_iconst (v := (-1)) dX13_settles_22 (by decide) ?_
  exact J_ret (v := some (.int (-1))) rfl ⟨dX13_settles_23, Or.inl rfl⟩ (jqI_mk h)
set_option maxRecDepth 20000 in
set_option maxHeartbeats 4000000 in
theorem t_X13_settles_161  (s0 : Int32) (σ : jM) (r : Int32 × jM)  (h : f_X13_settles_161  s0 σ = some r) : J mi_X13_settles 7 0 0 (jqI r) 161 [] [.int s0] (ms σ) := by
  unfold f_X13_settles_161 at h
  exact J_ret (v := some (.int s0)) rfl ⟨dX13_settles_161, Or.inl rfl⟩ (jqI_mk h)
set_option maxRecDepth 20000 in
set_option maxHeartbeats 4000000 in
theorem t_X13_settles_145 {rec46 : Int32 → Int32 → Int32 → Int32 → jM → Option (Int32 × jM)} (hrec46 : ∀ (l2 : Int32) (l3 : Int32) (l4 : Int32) (l5 : Int32) (σ : jM) (r : Int32 × jM), rec46 l2 l3 l4 l5 σ = some r → J mi_X13_settles 7 0 0 (jqI r) 46 [(0, .ref 324), (2, .int l2), (3, .int l3), (4, .int l4), (5, .int l5)] [] (ms σ)) (l2 : Int32) (l3 : Int32) (l4 : Int32) (l5 : Int32) (σ : jM) (r : Int32 × jM)  (h : f_X13_settles_145 rec46 l2 l3 l4 l5 σ = some r) : J mi_X13_settles 7 0 0 (jqI r) 145 [(0, .ref 324), (2, .int l2), (3, .int l3), (4, .int l4), (5, .int l5)] [] (ms σ) := by
  unfold f_X13_settles_145 at h
  refine J_iinc (v := (l5 + 1)) (ls' := [(5, .int (l5 + 1)), (0, .ref 324), (2, .int l2), (3, .int l3), (4, .int l4)]) 4 dX13_settles_145 rfl rfl (by decide) rfl ?_
  refine J_goto (tgt := 46) dX13_settles_148 (by decide) ?_
  refine J_pick [1, 2, 3, 4, 0] rfl ?_
  exact hrec46 _ _ _ _ _ _  h
set_option maxRecDepth 20000 in
set_option maxHeartbeats 4000000 in
theorem t_X13_settles_138 {rec46 : Int32 → Int32 → Int32 → Int32 → jM → Option (Int32 × jM)} (hrec46 : ∀ (l2 : Int32) (l3 : Int32) (l4 : Int32) (l5 : Int32) (σ : jM) (r : Int32 × jM), rec46 l2 l3 l4 l5 σ = some r → J mi_X13_settles 7 0 0 (jqI r) 46 [(0, .ref 324), (2, .int l2), (3, .int l3), (4, .int l4), (5, .int l5)] [] (ms σ)) (l2 : Int32) (l5 : Int32) (l6 : Int32) (σ : jM) (r : Int32 × jM)  (h : f_X13_settles_138 rec46 l2 l5 l6 σ = some r) : J mi_X13_settles 7 0 0 (jqI r) 138 [(0, .ref 324), (2, .int l2), (5, .int l5), (6, .int l6)] [] (ms σ) := by
  unfold f_X13_settles_138 at h
  refine J_iload 2 dX13_settles_138 rfl ?_
  refine J_istore_n (i := 3) (ls' := [(3, .int l5), (0, .ref 324), (2, .int l2), (5, .int l5), (6, .int l6)]) dX13_settles_140 rfl (by decide) rfl ?_
  refine J_iload 4 dX13_settles_141 rfl ?_
  refine J_istore (i := 4) (ls' := [(4, .int l6), (3, .int l5), (0, .ref 324), (2, .int l2), (5, .int l5), (6, .int l6)]) dX13_settles_143 (by decide) rfl ?_
  refine J_pick [2, 3, 1, 0, 4] rfl ?_
  exact t_X13_settles_145 hrec46 _ _ _ _ _ _  h
set_option maxRecDepth 20000 in
set_option maxHeartbeats 4000000 in
theorem t_X13_settles_117 {rec46 : Int32 → Int32 → Int32 → Int32 → jM → Option (Int32 × jM)} (hrec46 : ∀ (l2 : Int32) (l3 : Int32) (l4 : Int32) (l5 : Int32) (σ : jM) (r : Int32 × jM), rec46 l2 l3 l4 l5 σ = some r → J mi_X13_settles 7 0 0 (jqI r) 46 [(0, .ref 324), (2, .int l2), (3, .int l3), (4, .int l4), (5, .int l5)] [] (ms σ)) {rec74 : Int32 → Int32 → Int32 → Int32 → Int32 → Int32 → jM → Option (Int32 × jM)} (hrec74 : ∀ (l2 : Int32) (l3 : Int32) (l4 : Int32) (l5 : Int32) (l6 : Int32) (l7 : Int32) (σ : jM) (r : Int32 × jM), rec74 l2 l3 l4 l5 l6 l7 σ = some r → J mi_X13_settles 7 0 0 (jqI r) 74 [(0, .ref 324), (2, .int l2), (3, .int l3), (4, .int l4), (5, .int l5), (6, .int l6), (7, .int l7)] [] (ms σ)) (l2 : Int32) (l3 : Int32) (l4 : Int32) (l5 : Int32) (l6 : Int32) (l7 : Int32) (σ : jM) (r : Int32 × jM)  (h : f_X13_settles_117 rec46 rec74 l2 l3 l4 l5 l6 l7 σ = some r) : J mi_X13_settles 7 0 0 (jqI r) 117 [(0, .ref 324), (2, .int l2), (3, .int l3), (4, .int l4), (5, .int l5), (6, .int l6), (7, .int l7)] [] (ms σ) := by
  unfold f_X13_settles_117 at h
  refine J_iinc (v := (l7 + 1)) (ls' := [(7, .int (l7 + 1)), (0, .ref 324), (2, .int l2), (3, .int l3), (4, .int l4), (5, .int l5), (6, .int l6)]) 6 dX13_settles_117 rfl rfl (by decide) rfl ?_
  refine J_goto (tgt := 74) dX13_settles_120 (by decide) ?_
  refine J_pick [1, 2, 3, 4, 5, 6, 0] rfl ?_
  exact hrec74 _ _ _ _ _ _ _ _  h
set_option maxRecDepth 20000 in
set_option maxHeartbeats 4000000 in
theorem t_X13_settles_74 {rec46 : Int32 → Int32 → Int32 → Int32 → jM → Option (Int32 × jM)} (hrec46 : ∀ (l2 : Int32) (l3 : Int32) (l4 : Int32) (l5 : Int32) (σ : jM) (r : Int32 × jM), rec46 l2 l3 l4 l5 σ = some r → J mi_X13_settles 7 0 0 (jqI r) 46 [(0, .ref 324), (2, .int l2), (3, .int l3), (4, .int l4), (5, .int l5)] [] (ms σ)) : ∀ (n : Nat) (l2 : Int32) (l3 : Int32) (l4 : Int32) (l5 : Int32) (l6 : Int32) (l7 : Int32) (σ : jM) (r : Int32 × jM), f_X13_settles_74 rec46 n l2 l3 l4 l5 l6 l7 σ = some r → J mi_X13_settles 7 0 0 (jqI r) 74 [(0, .ref 324), (2, .int l2), (3, .int l3), (4, .int l4), (5, .int l5), (6, .int l6), (7, .int l7)] [] (ms σ) := by
  intro n
  induction n with
  | zero =>
    intro l2 l3 l4 l5 l6 l7 σ r  h
    have h : (none : Option (Int32 × jM)) = some r := h
    cases h
  | succ n ih =>
    intro l2 l3 l4 l5 l6 l7 σ r  h
    have h : s_X13_settles_74 rec46 (f_X13_settles_74 rec46 n) l2 l3 l4 l5 l6 l7 σ = some r := h
    unfold s_X13_settles_74 at h
    refine J_iload 6 dX13_settles_74 rfl ?_
    refine J_sipush (v := 136) dX13_settles_76 (by decide) ?_
    refine J_icmp_ge (tgt := 123) dX13_settles_79 (by decide) (fun c10 => ?_) (fun c10 => ?_)
    · have h := (if_pos c10).symm.trans h
      refine J_iload_n 2 dX13_settles_123 rfl ?_
      refine J_iconst (v := (-1)) dX13_settles_124 (by decide) ?_
      refine J_icmp_eq (tgt := 138) dX13_settles_125 (by decide) (fun c11 => ?_) (fun c11 => ?_)
      · have h := (if_pos c11).symm.trans h
        refine J_pick [0, 1, 4, 5] rfl ?_
        exact t_X13_settles_138 hrec46 _ _ _ _ _  h
      · have h := (if_neg c11).symm.trans h
        refine J_iload 5 dX13_settles_128 rfl ?_
        refine J_iload 3 dX13_settles_130 rfl ?_
        refine J_icmp_lt (tgt := 138) dX13_settles_132 (by decide) (fun c12 => ?_) (fun c12 => ?_)
        · have h := (if_pos c12).symm.trans h
          refine J_pick [0, 1, 4, 5] rfl ?_
          exact t_X13_settles_138 hrec46 _ _ _ _ _  h
        · have h := (if_neg c12).symm.trans h
          refine J_goto (tgt := 145) dX13_settles_135 (by decide) ?_
          refine J_pick [0, 1, 2, 3, 4] rfl ?_
          exact t_X13_settles_145 hrec46 _ _ _ _ _ _  h
    · have h := (if_neg c10).symm.trans h
      refine J_aload_n 0 dX13_settles_82 rfl ?_
      refine M_getR gf_X13_160_12 dX13_settles_83 (g_324_72 _) k_324 n_324 ?_
      refine J_sipush (v := 136) dX13_settles_86 (by decide) ?_
      refine J_iload 4 dX13_settles_89 rfl ?_
      refine J_imul dX13_settles_91 ?_
      refine J_iload 6 dX13_settles_92 rfl ?_
      refine J_iadd dX13_settles_94 ?_
      obtain ⟨g13, h⟩ := gd_inv h
      refine M_iald dX13_settles_95 a_372 n_372 g13 ?_
      refine J_iload 5 dX13_settles_96 rfl ?_
      refine J_icmp_le (tgt := 117) dX13_settles_98 (by decide) (fun c14 => ?_) (fun c14 => ?_)
      · have h := (if_pos c14).symm.trans h
        exact t_X13_settles_117 hrec46 ih _ _ _ _ _ _ _ _  h
      · have h := (if_neg c14).symm.trans h
        refine J_aload_n 0 dX13_settles_101 rfl ?_
        refine M_getR gf_X13_160_12 dX13_settles_102 (g_324_72 _) k_324 n_324 ?_
        refine J_sipush (v := 136) dX13_settles_105 (by decide) ?_
        refine J_iload 4 dX13_settles_108 rfl ?_
        refine J_imul dX13_settles_110 ?_
        refine J_iload 6 dX13_settles_111 rfl ?_
        refine J_iadd dX13_settles_113 ?_
        obtain ⟨g15, h⟩ := gd_inv h
        refine M_iald dX13_settles_114 a_372 n_372 g15 ?_
        refine J_istore (i := 6) (ls' := [(6, .int (rI σ 372 (Int32.toNatClampNeg ((136 * l5) + l7)))), (0, .ref 324), (2, .int l2), (3, .int l3), (4, .int l4), (5, .int l5), (7, .int l7)]) dX13_settles_115 (by decide) rfl ?_
        refine J_pick [1, 2, 3, 4, 5, 0, 6] rfl ?_
        exact t_X13_settles_117 hrec46 ih _ _ _ _ _ _ _ _  h
set_option maxRecDepth 20000 in
set_option maxHeartbeats 4000000 in
theorem t_X13_settles_46  : ∀ (n : Nat) (l2 : Int32) (l3 : Int32) (l4 : Int32) (l5 : Int32) (σ : jM) (r : Int32 × jM), f_X13_settles_46  n l2 l3 l4 l5 σ = some r → J mi_X13_settles 7 0 0 (jqI r) 46 [(0, .ref 324), (2, .int l2), (3, .int l3), (4, .int l4), (5, .int l5)] [] (ms σ) := by
  intro n
  induction n with
  | zero =>
    intro l2 l3 l4 l5 σ r  h
    have h : (none : Option (Int32 × jM)) = some r := h
    cases h
  | succ n ih =>
    intro l2 l3 l4 l5 σ r  h
    have h : s_X13_settles_46  (f_X13_settles_46  n) l2 l3 l4 l5 σ = some r := h
    unfold s_X13_settles_46 at h
    refine J_iload 4 dX13_settles_46 rfl ?_
    refine J_bipush (v := 40) dX13_settles_48 (by decide) ?_
    refine J_icmp_ge (tgt := 151) dX13_settles_50 (by decide) (fun c20 => ?_) (fun c20 => ?_)
    · have h := (if_pos c20).symm.trans h
      refine J_iload_n 1 dX13_settles_151 rfl ?_
      refine J_if_ne (tgt := 159) dX13_settles_152 (by decide) (fun c21 => ?_) (fun c21 => ?_)
      · have h := (if_neg c21).symm.trans h
        refine J_iload 3 dX13_settles_159 rfl ?_
        refine J_pick [] rfl ?_
        exact t_X13_settles_161  _ _ _  h
      · have h := (if_pos c21).symm.trans h
        refine J_iload_n 2 dX13_settles_155 rfl ?_
        refine J_goto (tgt := 161) dX13_settles_156 (by decide) ?_
        refine J_pick [] rfl ?_
        exact t_X13_settles_161  _ _ _  h
    · have h := (if_neg c20).symm.trans h
      refine J_aload_n 0 dX13_settles_53 rfl ?_
      refine M_getR gf_X13_72_12 dX13_settles_54 (g_324_31 _) k_324 n_324 ?_
      refine J_iload 4 dX13_settles_57 rfl ?_
      obtain ⟨g22, h⟩ := gd_inv h
      refine M_iald dX13_settles_59 a_343 n_343 g22 ?_
      refine J_iload 4 dX13_settles_60 rfl ?_
      refine J_icmp_eq (tgt := 68) dX13_settles_62 (by decide) (fun c23 => ?_) (fun c23 => ?_)
      · have h := (if_pos c23).symm.trans h
        refine J_iconst (v := 0) dX13_settles_68 (by decide) ?_
        refine J_istore (i := 6) (ls' := [(6, .int 0), (0, .ref 324), (2, .int l2), (3, .int l3), (4, .int l4), (5, .int l5)]) dX13_settles_69 (by decide) rfl ?_
        refine J_iconst (v := 0) dX13_settles_71 (by decide) ?_
        refine J_istore (i := 7) (ls' := [(7, .int 0), (6, .int 0), (0, .ref 324), (2, .int l2), (3, .int l3), (4, .int l4), (5, .int l5)]) dX13_settles_72 (by decide) rfl ?_
        refine J_pick [2, 3, 4, 5, 6, 1, 0] rfl ?_
        exact t_X13_settles_74 ih _ _ _ _ _ _ _ _ _  h
      · have h := (if_neg c23).symm.trans h
        refine J_goto (tgt := 145) dX13_settles_65 (by decide) ?_
        exact t_X13_settles_145 ih _ _ _ _ _ _  h
set_option maxRecDepth 20000 in
set_option maxHeartbeats 4000000 in
theorem t_X13_settles {a1 : Int32} {a2 : Int32} {σ : jM} {r : Int32 × jM}  (h : f_X13_settles a1 a2 σ = some r) : J mi_X13_settles 7 0 0 (jqI r) 0 [(0, .ref 324), (1, .int a1), (2, .int a2)] [] (ms σ) := by
  unfold f_X13_settles at h
  refine J_aload_n 0 dX13_settles_0 rfl ?_
  refine J_iconst (v := 0) dX13_settles_1 (by decide) ?_
  refine M_putI pf_X13_1_12 dX13_settles_2 k_324 n_324 ⟨rfl, rfl⟩ ?_
  refine J_aload_n 0 dX13_settles_5 rfl ?_
  refine J_iload_n 1 dX13_settles_6 rfl ?_
  obtain ⟨r24, σ25, h26, h⟩ := bd_inv h
  refine M_callVI (d' := 1) (k := 324) (As := [.int a1]) (st := []) cv_X13_298 dX13_settles_7 rfl (by decide) rfl (Nat.le_of_ble_eq_true rfl) (Nat.le_of_ble_eq_true rfl) (by decide) n_324 k_324 rfl rfl (t_X13_isKnown  h26) ?_
  refine J_if_eq (tgt := 22) dX13_settles_10 (by decide) (fun c27 => ?_) (fun c27 => ?_)
  · have h := (if_pos c27).symm.trans h
    refine J_pick [] rfl ?_
    exact t_X13_settles_22   _ _  h
  · have h := (if_neg c27).symm.trans h
    refine J_iload_n 2 dX13_settles_13 rfl ?_
    refine J_iconst (v := 0) dX13_settles_14 (by decide) ?_
    refine J_iconst (v := 1) dX13_settles_15 (by decide) ?_
    obtain ⟨r28, σ29, h30, h⟩ := bd_inv h
    refine M_callSI (d' := 1) (As := [.int a2, .int 0, .int 1]) (st := []) cs_X13_169 dX13_settles_16 rfl (Nat.le_of_ble_eq_true rfl) (Nat.le_of_ble_eq_true rfl) (by decide) rfl rfl (t_X13_within  h30) ?_
    refine J_if_ne (tgt := 24) dX13_settles_19 (by decide) (fun c31 => ?_) (fun c31 => ?_)
    · have h := (if_neg c31).symm.trans h
      refine J_aload_n 0 dX13_settles_24 rfl ?_
      refine J_iload_n 1 dX13_settles_25 rfl ?_
      obtain ⟨_, σ33, h34, h⟩ := bd_inv h
      refine M_callVV (d' := 6) (k := 324) (As := [.int a1]) (st := []) cv_X13_438 dX13_settles_26 rfl (by decide) rfl (Nat.le_of_ble_eq_true rfl) (Nat.le_of_ble_eq_true rfl) (by decide) n_324 k_324 rfl rfl (t_X13_findAll  h34) ?_
      refine J_aload_n 0 dX13_settles_29 rfl ?_
      refine M_getI gf_X13_411_12 dX13_settles_30 k_324 n_324 ?_
      refine J_if_ne (tgt := 38) dX13_settles_33 (by decide) (fun c35 => ?_) (fun c35 => ?_)
      · have h := (if_neg c35).symm.trans h
        refine J_iconst (v := (-1)) dX13_settles_38 (by decide) ?_
        refine J_istore_n (i := 3) (ls' := [(3, .int (-1)), (0, .ref 324), (1, .int a1), (2, .int a2)]) dX13_settles_39 rfl (by decide) rfl ?_
        refine J_iconst (v := 0) dX13_settles_40 (by decide) ?_
        refine J_istore (i := 4) (ls' := [(4, .int 0), (3, .int (-1)), (0, .ref 324), (1, .int a1), (2, .int a2)]) dX13_settles_41 (by decide) rfl ?_
        refine J_iconst (v := 0) dX13_settles_43 (by decide) ?_
        refine J_istore (i := 5) (ls' := [(5, .int 0), (4, .int 0), (3, .int (-1)), (0, .ref 324), (1, .int a1), (2, .int a2)]) dX13_settles_44 (by decide) rfl ?_
        refine J_pick [3, 5, 2, 1, 0] rfl ?_
        exact t_X13_settles_46  _ _ _ _ _ _ _  h
      · have h := (if_pos c35).symm.trans h
        refine J_iconst (v := (-1)) dX13_settles_36 (by decide) ?_
        exact J_ret (v := some (.int (-1))) rfl ⟨dX13_settles_37, Or.inl rfl⟩ (jqI_mk h)
    · have h := (if_pos c31).symm.trans h
      refine J_pick [] rfl ?_
      exact t_X13_settles_22   _ _  h
theorem dX13_waysWith_0 : decode cX13_waysWith 0 = .ok (.aload_n 0, 1) := by decide +kernel
theorem dX13_waysWith_1 : decode cX13_waysWith 1 = .ok (.iload_n 1, 1) := by decide +kernel
theorem dX13_waysWith_2 : decode cX13_waysWith 2 = .ok (.iconst 0, 1) := by decide +kernel
theorem dX13_waysWith_3 : decode cX13_waysWith 3 = .ok (.invokevirtual 432, 3) := by decide +kernel
theorem dX13_waysWith_6 : decode cX13_waysWith 6 = .ok (.aload_n 0, 1) := by decide +kernel
theorem dX13_waysWith_7 : decode cX13_waysWith 7 = .ok (.getfield 127, 3) := by decide +kernel
theorem dX13_waysWith_10 : decode cX13_waysWith 10 = .ok (.bipush 6, 2) := by decide +kernel
theorem dX13_waysWith_12 : decode cX13_waysWith 12 = .ok (.iload_n 2, 1) := by decide +kernel
theorem dX13_waysWith_13 : decode cX13_waysWith 13 = .ok (.iastore, 1) := by decide +kernel
theorem dX13_waysWith_14 : decode cX13_waysWith 14 = .ok (.aload_n 0, 1) := by decide +kernel
theorem dX13_waysWith_15 : decode cX13_waysWith 15 = .ok (.bipush 6, 2) := by decide +kernel
theorem dX13_waysWith_17 : decode cX13_waysWith 17 = .ok (.iload_n 1, 1) := by decide +kernel
theorem dX13_waysWith_18 : decode cX13_waysWith 18 = .ok (.invokevirtual 401, 3) := by decide +kernel
theorem dX13_waysWith_21 : decode cX13_waysWith 21 = .ok (.aload_n 0, 1) := by decide +kernel
theorem dX13_waysWith_22 : decode cX13_waysWith 22 = .ok (.getfield 145, 3) := by decide +kernel
theorem dX13_waysWith_25 : decode cX13_waysWith 25 = .ok (.aload_n 0, 1) := by decide +kernel
theorem dX13_waysWith_26 : decode cX13_waysWith 26 = .ok (.getfield 414, 3) := by decide +kernel
theorem dX13_waysWith_29 : decode cX13_waysWith 29 = .ok (.bipush 6, 2) := by decide +kernel
theorem dX13_waysWith_31 : decode cX13_waysWith 31 = .ok (.iastore, 1) := by decide +kernel
theorem dX13_waysWith_32 : decode cX13_waysWith 32 = .ok (.aload_n 0, 1) := by decide +kernel
theorem dX13_waysWith_33 : decode cX13_waysWith 33 = .ok (.dup, 1) := by decide +kernel
theorem dX13_waysWith_34 : decode cX13_waysWith 34 = .ok (.getfield 414, 3) := by decide +kernel
theorem dX13_waysWith_37 : decode cX13_waysWith 37 = .ok (.iconst 1, 1) := by decide +kernel
theorem dX13_waysWith_38 : decode cX13_waysWith 38 = .ok (.iadd, 1) := by decide +kernel
theorem dX13_waysWith_39 : decode cX13_waysWith 39 = .ok (.putfield 414, 3) := by decide +kernel
theorem dX13_waysWith_42 : decode cX13_waysWith 42 = .ok (.aload_n 0, 1) := by decide +kernel
theorem dX13_waysWith_43 : decode cX13_waysWith 43 = .ok (.bipush 6, 2) := by decide +kernel
theorem dX13_waysWith_45 : decode cX13_waysWith 45 = .ok (.iload_n 1, 1) := by decide +kernel
theorem dX13_waysWith_46 : decode cX13_waysWith 46 = .ok (.invokevirtual 435, 3) := by decide +kernel
theorem dX13_waysWith_49 : decode cX13_waysWith 49 = .ok (.aload_n 0, 1) := by decide +kernel
theorem dX13_waysWith_50 : decode cX13_waysWith 50 = .ok (.getfield 411, 3) := by decide +kernel
theorem dX13_waysWith_53 : decode cX13_waysWith 53 = .ok (.ireturn, 1) := by decide +kernel
noncomputable def f_X13_waysWith (a1 : Int32) (a2 : Int32) (σ : jM) : Option (Int32 × jM) :=
  bd (f_X13_takes a1 0 σ) (fun _ σ4 => gd (inb 6 7) (bd (f_X13_spells 6 a1 (wI σ4 361 (Int32.toNatClampNeg 6) a2)) (fun _ σ8 => gd (inb (rI σ8 324 64) 7) (bd (f_X13_goesThrough 6 a1 (wI (wI σ8 367 (Int32.toNatClampNeg (rI σ8 324 64)) 6) 324 64 ((rI (wI σ8 367 (Int32.toNatClampNeg (rI σ8 324 64)) 6) 324 64) + 1))) (fun _ σ12 => some ((rI σ12 324 68), σ12))))))
set_option maxRecDepth 20000 in
set_option maxHeartbeats 4000000 in
theorem t_X13_waysWith {a1 : Int32} {a2 : Int32} {σ : jM} {r : Int32 × jM}  (h : f_X13_waysWith a1 a2 σ = some r) : J mi_X13_waysWith 6 0 0 (jqI r) 0 [(0, .ref 324), (1, .int a1), (2, .int a2)] [] (ms σ) := by
  unfold f_X13_waysWith at h
  refine J_aload_n 0 dX13_waysWith_0 rfl ?_
  refine J_iload_n 1 dX13_waysWith_1 rfl ?_
  refine J_iconst (v := 0) dX13_waysWith_2 (by decide) ?_
  obtain ⟨_, σ4, h5, h⟩ := bd_inv h
  refine M_callVV (d' := 5) (k := 324) (As := [.int a1, .int 0]) (st := []) cv_X13_432 dX13_waysWith_3 rfl (by decide) rfl (Nat.le_of_ble_eq_true rfl) (Nat.le_of_ble_eq_true rfl) (by decide) n_324 k_324 rfl rfl (t_X13_takes  h5) ?_
  refine J_aload_n 0 dX13_waysWith_6 rfl ?_
  refine M_getR gf_X13_127_12 dX13_waysWith_7 (g_324_58 _) k_324 n_324 ?_
  refine J_bipush (v := 6) dX13_waysWith_10 (by decide) ?_
  refine J_iload_n 2 dX13_waysWith_12 rfl ?_
  obtain ⟨g6, h⟩ := gd_inv h
  refine M_iast dX13_waysWith_13 a_361 n_361 g6 ?_
  refine J_aload_n 0 dX13_waysWith_14 rfl ?_
  refine J_bipush (v := 6) dX13_waysWith_15 (by decide) ?_
  refine J_iload_n 1 dX13_waysWith_17 rfl ?_
  obtain ⟨_, σ8, h9, h⟩ := bd_inv h
  refine M_callVV (d' := 3) (k := 324) (As := [.int 6, .int a1]) (st := []) cv_X13_401 dX13_waysWith_18 rfl (by decide) rfl (Nat.le_of_ble_eq_true rfl) (Nat.le_of_ble_eq_true rfl) (by decide) n_324 k_324 rfl rfl (t_X13_spells  h9) ?_
  refine J_aload_n 0 dX13_waysWith_21 rfl ?_
  refine M_getR gf_X13_145_12 dX13_waysWith_22 (g_324_65 _) k_324 n_324 ?_
  refine J_aload_n 0 dX13_waysWith_25 rfl ?_
  refine M_getI gf_X13_414_12 dX13_waysWith_26 k_324 n_324 ?_
  refine J_bipush (v := 6) dX13_waysWith_29 (by decide) ?_
  obtain ⟨g10, h⟩ := gd_inv h
  refine M_iast dX13_waysWith_31 a_367 n_367 g10 ?_
  refine J_aload_n 0 dX13_waysWith_32 rfl ?_
  refine J_dup dX13_waysWith_33 rfl ?_
  refine M_getI gf_X13_414_12 dX13_waysWith_34 k_324 n_324 ?_
  refine J_iconst (v := 1) dX13_waysWith_37 (by decide) ?_
  refine J_iadd dX13_waysWith_38 ?_
  refine M_putI pf_X13_414_12 dX13_waysWith_39 k_324 n_324 ⟨rfl, rfl⟩ ?_
  refine J_aload_n 0 dX13_waysWith_42 rfl ?_
  refine J_bipush (v := 6) dX13_waysWith_43 (by decide) ?_
  refine J_iload_n 1 dX13_waysWith_45 rfl ?_
  obtain ⟨_, σ12, h13, h⟩ := bd_inv h
  refine M_callVV (d' := 5) (k := 324) (As := [.int 6, .int a1]) (st := []) cv_X13_435 dX13_waysWith_46 rfl (by decide) rfl (Nat.le_of_ble_eq_true rfl) (Nat.le_of_ble_eq_true rfl) (by decide) n_324 k_324 rfl rfl (t_X13_goesThrough  h13) ?_
  refine J_aload_n 0 dX13_waysWith_49 rfl ?_
  refine M_getI gf_X13_411_12 dX13_waysWith_50 k_324 n_324 ?_
  exact J_ret (v := some (.int (rI σ12 324 68))) rfl ⟨dX13_waysWith_53, Or.inl rfl⟩ (jqI_mk h)
theorem dX13_would_0 : decode cX13_would 0 = .ok (.aload_n 0, 1) := by decide +kernel
theorem dX13_would_1 : decode cX13_would 1 = .ok (.iconst 0, 1) := by decide +kernel
theorem dX13_would_2 : decode cX13_would 2 = .ok (.putfield 1, 3) := by decide +kernel
theorem dX13_would_5 : decode cX13_would 5 = .ok (.aload_n 0, 1) := by decide +kernel
theorem dX13_would_6 : decode cX13_would 6 = .ok (.iload_n 1, 1) := by decide +kernel
theorem dX13_would_7 : decode cX13_would 7 = .ok (.invokevirtual 298, 3) := by decide +kernel
theorem dX13_would_10 : decode cX13_would 10 = .ok (.ifCond .eq 33, 3) := by decide +kernel
theorem dX13_would_13 : decode cX13_would 13 = .ok (.iload_n 2, 1) := by decide +kernel
theorem dX13_would_14 : decode cX13_would 14 = .ok (.iconst 0, 1) := by decide +kernel
theorem dX13_would_15 : decode cX13_would 15 = .ok (.aload_n 0, 1) := by decide +kernel
theorem dX13_would_16 : decode cX13_would 16 = .ok (.getfield 243, 3) := by decide +kernel
theorem dX13_would_19 : decode cX13_would 19 = .ok (.iconst 1, 1) := by decide +kernel
theorem dX13_would_20 : decode cX13_would 20 = .ok (.isub, 1) := by decide +kernel
theorem dX13_would_21 : decode cX13_would 21 = .ok (.invokestatic 169, 3) := by decide +kernel
theorem dX13_would_24 : decode cX13_would 24 = .ok (.ifCond .eq 19, 3) := by decide +kernel
theorem dX13_would_27 : decode cX13_would 27 = .ok (.aload_n 0, 1) := by decide +kernel
theorem dX13_would_28 : decode cX13_would 28 = .ok (.iload_n 2, 1) := by decide +kernel
theorem dX13_would_29 : decode cX13_would 29 = .ok (.iload_n 1, 1) := by decide +kernel
theorem dX13_would_30 : decode cX13_would 30 = .ok (.invokevirtual 314, 3) := by decide +kernel
theorem dX13_would_33 : decode cX13_would 33 = .ok (.ifCond .eq 10, 3) := by decide +kernel
theorem dX13_would_36 : decode cX13_would 36 = .ok (.aload_n 0, 1) := by decide +kernel
theorem dX13_would_37 : decode cX13_would 37 = .ok (.invokevirtual 380, 3) := by decide +kernel
theorem dX13_would_40 : decode cX13_would 40 = .ok (.ifCond .ne 5, 3) := by decide +kernel
theorem dX13_would_43 : decode cX13_would 43 = .ok (.iconst (-1), 1) := by decide +kernel
theorem dX13_would_44 : decode cX13_would 44 = .ok (.ireturn, 1) := by decide +kernel
theorem dX13_would_45 : decode cX13_would 45 = .ok (.aload_n 0, 1) := by decide +kernel
theorem dX13_would_46 : decode cX13_would 46 = .ok (.bipush 6, 2) := by decide +kernel
theorem dX13_would_48 : decode cX13_would 48 = .ok (.iload_n 2, 1) := by decide +kernel
theorem dX13_would_49 : decode cX13_would 49 = .ok (.invokevirtual 386, 3) := by decide +kernel
theorem dX13_would_52 : decode cX13_would 52 = .ok (.aload_n 0, 1) := by decide +kernel
theorem dX13_would_53 : decode cX13_would 53 = .ok (.iload_n 1, 1) := by decide +kernel
theorem dX13_would_54 : decode cX13_would 54 = .ok (.iload_n 2, 1) := by decide +kernel
theorem dX13_would_55 : decode cX13_would 55 = .ok (.invokevirtual 453, 3) := by decide +kernel
theorem dX13_would_58 : decode cX13_would 58 = .ok (.ireturn, 1) := by decide +kernel
noncomputable def f_X13_would_43   (σ : jM) : Option (Int32 × jM) :=
  some ((-1), σ)
noncomputable def f_X13_would (a1 : Int32) (a2 : Int32) (σ : jM) : Option (Int32 × jM) :=
  bd (f_X13_isKnown a1 (wI σ 324 0 0)) (fun r1 σ2 => (if r1 = 0 then f_X13_would_43   σ2 else bd (f_X13_within a2 0 ((rI σ2 324 2) - 1) σ2) (fun r5 σ6 => (if r5 = 0 then f_X13_would_43   σ6 else bd (f_X13_tabletCounts a2 a1 σ6) (fun r9 σ10 => (if r9 = 0 then f_X13_would_43   σ10 else bd (f_X13_isName  σ10) (fun r13 σ14 => (if r13 = 0 then f_X13_would_43   σ14 else bd (f_X13_takesName 6 a2 σ14) (fun _ σ18 => bd (f_X13_waysWith a1 a2 σ18) (fun r20 σ21 => some (r20, σ21)))))))))))
set_option maxRecDepth 20000 in
set_option maxHeartbeats 4000000 in
theorem t_X13_would_43   (σ : jM) (r : Int32 × jM)  (h : f_X13_would_43   σ = some r) : J mi_X13_would 7 0 0 (jqI r) 43 [] [] (ms σ) := by
  unfold f_X13_would_43 at h
  refine J_iconst (v := (-1)) dX13_would_43 (by decide) ?_
  exact J_ret (v := some (.int (-1))) rfl ⟨dX13_would_44, Or.inl rfl⟩ (jqI_mk h)
set_option maxRecDepth 20000 in
set_option maxHeartbeats 4000000 in
theorem t_X13_would {a1 : Int32} {a2 : Int32} {σ : jM} {r : Int32 × jM}  (h : f_X13_would a1 a2 σ = some r) : J mi_X13_would 7 0 0 (jqI r) 0 [(0, .ref 324), (1, .int a1), (2, .int a2)] [] (ms σ) := by
  unfold f_X13_would at h
  refine J_aload_n 0 dX13_would_0 rfl ?_
  refine J_iconst (v := 0) dX13_would_1 (by decide) ?_
  refine M_putI pf_X13_1_12 dX13_would_2 k_324 n_324 ⟨rfl, rfl⟩ ?_
  refine J_aload_n 0 dX13_would_5 rfl ?_
  refine J_iload_n 1 dX13_would_6 rfl ?_
  obtain ⟨r1, σ2, h3, h⟩ := bd_inv h
  refine M_callVI (d' := 1) (k := 324) (As := [.int a1]) (st := []) cv_X13_298 dX13_would_7 rfl (by decide) rfl (Nat.le_of_ble_eq_true rfl) (Nat.le_of_ble_eq_true rfl) (by decide) n_324 k_324 rfl rfl (t_X13_isKnown  h3) ?_
  refine J_if_eq (tgt := 43) dX13_would_10 (by decide) (fun c4 => ?_) (fun c4 => ?_)
  · have h := (if_pos c4).symm.trans h
    refine J_pick [] rfl ?_
    exact t_X13_would_43   _ _  h
  · have h := (if_neg c4).symm.trans h
    refine J_iload_n 2 dX13_would_13 rfl ?_
    refine J_iconst (v := 0) dX13_would_14 (by decide) ?_
    refine J_aload_n 0 dX13_would_15 rfl ?_
    refine M_getI gf_X13_243_12 dX13_would_16 k_324 n_324 ?_
    refine J_iconst (v := 1) dX13_would_19 (by decide) ?_
    refine J_isub dX13_would_20 ?_
    obtain ⟨r5, σ6, h7, h⟩ := bd_inv h
    refine M_callSI (d' := 1) (As := [.int a2, .int 0, .int ((rI σ2 324 2) - 1)]) (st := []) cs_X13_169 dX13_would_21 rfl (Nat.le_of_ble_eq_true rfl) (Nat.le_of_ble_eq_true rfl) (by decide) rfl rfl (t_X13_within  h7) ?_
    refine J_if_eq (tgt := 43) dX13_would_24 (by decide) (fun c8 => ?_) (fun c8 => ?_)
    · have h := (if_pos c8).symm.trans h
      refine J_pick [] rfl ?_
      exact t_X13_would_43   _ _  h
    · have h := (if_neg c8).symm.trans h
      refine J_aload_n 0 dX13_would_27 rfl ?_
      refine J_iload_n 2 dX13_would_28 rfl ?_
      refine J_iload_n 1 dX13_would_29 rfl ?_
      obtain ⟨r9, σ10, h11, h⟩ := bd_inv h
      refine M_callVI (d' := 2) (k := 324) (As := [.int a2, .int a1]) (st := []) cv_X13_314 dX13_would_30 rfl (by decide) rfl (Nat.le_of_ble_eq_true rfl) (Nat.le_of_ble_eq_true rfl) (by decide) n_324 k_324 rfl rfl (t_X13_tabletCounts  h11) ?_
      refine J_if_eq (tgt := 43) dX13_would_33 (by decide) (fun c12 => ?_) (fun c12 => ?_)
      · have h := (if_pos c12).symm.trans h
        refine J_pick [] rfl ?_
        exact t_X13_would_43   _ _  h
      · have h := (if_neg c12).symm.trans h
        refine J_aload_n 0 dX13_would_36 rfl ?_
        obtain ⟨r13, σ14, h15, h⟩ := bd_inv h
        refine M_callVI (d' := 2) (k := 324) (As := []) (st := []) cv_X13_380 dX13_would_37 rfl (by decide) rfl (Nat.le_of_ble_eq_true rfl) (Nat.le_of_ble_eq_true rfl) (by decide) n_324 k_324 rfl rfl (t_X13_isName  h15) ?_
        refine J_if_ne (tgt := 45) dX13_would_40 (by decide) (fun c16 => ?_) (fun c16 => ?_)
        · have h := (if_neg c16).symm.trans h
          refine J_aload_n 0 dX13_would_45 rfl ?_
          refine J_bipush (v := 6) dX13_would_46 (by decide) ?_
          refine J_iload_n 2 dX13_would_48 rfl ?_
          obtain ⟨_, σ18, h19, h⟩ := bd_inv h
          refine M_callVV (d' := 1) (k := 324) (As := [.int 6, .int a2]) (st := []) cv_X13_386 dX13_would_49 rfl (by decide) rfl (Nat.le_of_ble_eq_true rfl) (Nat.le_of_ble_eq_true rfl) (by decide) n_324 k_324 rfl rfl (t_X13_takesName  h19) ?_
          refine J_aload_n 0 dX13_would_52 rfl ?_
          refine J_iload_n 1 dX13_would_53 rfl ?_
          refine J_iload_n 2 dX13_would_54 rfl ?_
          obtain ⟨r20, σ21, h22, h⟩ := bd_inv h
          refine M_callVI (d' := 6) (k := 324) (As := [.int a1, .int a2]) (st := []) cv_X13_453 dX13_would_55 rfl (by decide) rfl (Nat.le_of_ble_eq_true rfl) (Nat.le_of_ble_eq_true rfl) (by decide) n_324 k_324 rfl rfl (t_X13_waysWith  h22) ?_
          exact J_ret (v := some (.int r20)) rfl ⟨dX13_would_58, Or.inl rfl⟩ (jqI_mk h)
        · have h := (if_pos c16).symm.trans h
          refine J_pick [] rfl ?_
          exact t_X13_would_43   _ _  h
