theorem dX8_waysWithNewAt_0 : decode cX8_waysWithNewAt 0 = .ok (.aload_n 0, 1) := by decide +kernel
theorem dX8_waysWithNewAt_1 : decode cX8_waysWithNewAt 1 = .ok (.invokevirtual 98, 3) := by decide +kernel
theorem dX8_waysWithNewAt_4 : decode cX8_waysWithNewAt 4 = .ok (.aload_n 0, 1) := by decide +kernel
theorem dX8_waysWithNewAt_5 : decode cX8_waysWithNewAt 5 = .ok (.getfield 21, 3) := by decide +kernel
theorem dX8_waysWithNewAt_8 : decode cX8_waysWithNewAt 8 = .ok (.aload_n 0, 1) := by decide +kernel
theorem dX8_waysWithNewAt_9 : decode cX8_waysWithNewAt 9 = .ok (.getfield 56, 3) := by decide +kernel
theorem dX8_waysWithNewAt_12 : decode cX8_waysWithNewAt 12 = .ok (.iload_n 1, 1) := by decide +kernel
theorem dX8_waysWithNewAt_13 : decode cX8_waysWithNewAt 13 = .ok (.iastore, 1) := by decide +kernel
theorem dX8_waysWithNewAt_14 : decode cX8_waysWithNewAt 14 = .ok (.aload_n 0, 1) := by decide +kernel
theorem dX8_waysWithNewAt_15 : decode cX8_waysWithNewAt 15 = .ok (.dup, 1) := by decide +kernel
theorem dX8_waysWithNewAt_16 : decode cX8_waysWithNewAt 16 = .ok (.getfield 56, 3) := by decide +kernel
theorem dX8_waysWithNewAt_19 : decode cX8_waysWithNewAt 19 = .ok (.iconst 1, 1) := by decide +kernel
theorem dX8_waysWithNewAt_20 : decode cX8_waysWithNewAt 20 = .ok (.iadd, 1) := by decide +kernel
theorem dX8_waysWithNewAt_21 : decode cX8_waysWithNewAt 21 = .ok (.putfield 56, 3) := by decide +kernel
theorem dX8_waysWithNewAt_24 : decode cX8_waysWithNewAt 24 = .ok (.aload_n 0, 1) := by decide +kernel
theorem dX8_waysWithNewAt_25 : decode cX8_waysWithNewAt 25 = .ok (.iload_n 2, 1) := by decide +kernel
theorem dX8_waysWithNewAt_26 : decode cX8_waysWithNewAt 26 = .ok (.invokevirtual 116, 3) := by decide +kernel
theorem dX8_waysWithNewAt_29 : decode cX8_waysWithNewAt 29 = .ok (.pop, 1) := by decide +kernel
theorem dX8_waysWithNewAt_30 : decode cX8_waysWithNewAt 30 = .ok (.aload_n 0, 1) := by decide +kernel
theorem dX8_waysWithNewAt_31 : decode cX8_waysWithNewAt 31 = .ok (.dup, 1) := by decide +kernel
theorem dX8_waysWithNewAt_32 : decode cX8_waysWithNewAt 32 = .ok (.getfield 56, 3) := by decide +kernel
theorem dX8_waysWithNewAt_35 : decode cX8_waysWithNewAt 35 = .ok (.iconst 1, 1) := by decide +kernel
theorem dX8_waysWithNewAt_36 : decode cX8_waysWithNewAt 36 = .ok (.isub, 1) := by decide +kernel
theorem dX8_waysWithNewAt_37 : decode cX8_waysWithNewAt 37 = .ok (.putfield 56, 3) := by decide +kernel
theorem dX8_waysWithNewAt_40 : decode cX8_waysWithNewAt 40 = .ok (.aload_n 0, 1) := by decide +kernel
theorem dX8_waysWithNewAt_41 : decode cX8_waysWithNewAt 41 = .ok (.getfield 119, 3) := by decide +kernel
theorem dX8_waysWithNewAt_44 : decode cX8_waysWithNewAt 44 = .ok (.ireturn, 1) := by decide +kernel
noncomputable def f_X8_waysWithNewAt (a1 : Int32) (a2 : Int32) (σ : jM) : Option (Int32 × jM) :=
  bd (f_X8_clearCells  σ) (fun _ σ3 => gd (inb (rI σ3 296 5) 7) (bd (f_X8_layAll a2 (wI (wI σ3 300 (Int32.toNatClampNeg (rI σ3 296 5)) a1) 296 5 ((rI (wI σ3 300 (Int32.toNatClampNeg (rI σ3 296 5)) a1) 296 5) + 1))) (fun r6 σ7 => some ((rI (wI σ7 296 5 ((rI σ7 296 5) - 1)) 296 16), wI σ7 296 5 ((rI σ7 296 5) - 1)))))
set_option maxRecDepth 20000 in
set_option maxHeartbeats 4000000 in
theorem t_X8_waysWithNewAt {a1 : Int32} {a2 : Int32} {σ : jM} {r : Int32 × jM}  (h : f_X8_waysWithNewAt a1 a2 σ = some r) : J mi_X8_waysWithNewAt 15 0 0 (jqI r) 0 [(0, .ref 296), (1, .int a1), (2, .int a2)] [] (ms σ) := by
  unfold f_X8_waysWithNewAt at h
  refine J_aload_n 0 dX8_waysWithNewAt_0 rfl ?_
  obtain ⟨_, σ3, h4, h⟩ := bd_inv h
  refine M_callVV (d' := 2) (k := 296) (As := []) (st := []) cv_X8_98 dX8_waysWithNewAt_1 rfl (by decide) rfl (Nat.le_of_ble_eq_true rfl) (Nat.le_of_ble_eq_true rfl) (by decide) n_296 k_296 rfl rfl (t_X8_clearCells  h4) ?_
  refine J_aload_n 0 dX8_waysWithNewAt_4 rfl ?_
  refine M_getR gf_X8_21_7 dX8_waysWithNewAt_5 (g_296_7 _) k_296 n_296 ?_
  refine J_aload_n 0 dX8_waysWithNewAt_8 rfl ?_
  refine M_getI gf_X8_56_7 dX8_waysWithNewAt_9 k_296 n_296 ?_
  refine J_iload_n 1 dX8_waysWithNewAt_12 rfl ?_
  obtain ⟨g5, h⟩ := gd_inv h
  refine M_iast dX8_waysWithNewAt_13 a_300 n_300 g5 ?_
  refine J_aload_n 0 dX8_waysWithNewAt_14 rfl ?_
  refine J_dup dX8_waysWithNewAt_15 rfl ?_
  refine M_getI gf_X8_56_7 dX8_waysWithNewAt_16 k_296 n_296 ?_
  refine J_iconst (v := 1) dX8_waysWithNewAt_19 (by decide) ?_
  refine J_iadd dX8_waysWithNewAt_20 ?_
  refine M_putI pf_X8_56_7 dX8_waysWithNewAt_21 k_296 n_296 ⟨rfl, rfl⟩ ?_
  refine J_aload_n 0 dX8_waysWithNewAt_24 rfl ?_
  refine J_iload_n 2 dX8_waysWithNewAt_25 rfl ?_
  obtain ⟨r6, σ7, h8, h⟩ := bd_inv h
  refine M_callVI (d' := 14) (k := 296) (As := [.int a2]) (st := []) cv_X8_116 dX8_waysWithNewAt_26 rfl (by decide) rfl (Nat.le_of_ble_eq_true rfl) (Nat.le_of_ble_eq_true rfl) (by decide) n_296 k_296 rfl rfl (t_X8_layAll  h8) ?_
  refine J_pop dX8_waysWithNewAt_29 rfl ?_
  refine J_aload_n 0 dX8_waysWithNewAt_30 rfl ?_
  refine J_dup dX8_waysWithNewAt_31 rfl ?_
  refine M_getI gf_X8_56_7 dX8_waysWithNewAt_32 k_296 n_296 ?_
  refine J_iconst (v := 1) dX8_waysWithNewAt_35 (by decide) ?_
  refine J_isub dX8_waysWithNewAt_36 ?_
  refine M_putI pf_X8_56_7 dX8_waysWithNewAt_37 k_296 n_296 ⟨rfl, rfl⟩ ?_
  refine J_aload_n 0 dX8_waysWithNewAt_40 rfl ?_
  refine M_getI gf_X8_119_7 dX8_waysWithNewAt_41 k_296 n_296 ?_
  exact J_ret (v := some (.int (rI (wI σ7 296 5 ((rI σ7 296 5) - 1)) 296 16))) rfl ⟨dX8_waysWithNewAt_44, Or.inl rfl⟩ (jqI_mk h)
theorem dX8_tabletTellingMost_0 : decode cX8_tabletTellingMost 0 = .ok (.iconst (-1), 1) := by decide +kernel
theorem dX8_tabletTellingMost_1 : decode cX8_tabletTellingMost 1 = .ok (.istore_n 1, 1) := by decide +kernel
theorem dX8_tabletTellingMost_2 : decode cX8_tabletTellingMost 2 = .ok (.ldc 115, 2) := by decide +kernel
theorem dX8_tabletTellingMost_4 : decode cX8_tabletTellingMost 4 = .ok (.istore_n 2, 1) := by decide +kernel
theorem dX8_tabletTellingMost_5 : decode cX8_tabletTellingMost 5 = .ok (.iconst 0, 1) := by decide +kernel
theorem dX8_tabletTellingMost_6 : decode cX8_tabletTellingMost 6 = .ok (.istore_n 3, 1) := by decide +kernel
theorem dX8_tabletTellingMost_7 : decode cX8_tabletTellingMost 7 = .ok (.iload_n 3, 1) := by decide +kernel
theorem dX8_tabletTellingMost_8 : decode cX8_tabletTellingMost 8 = .ok (.aload_n 0, 1) := by decide +kernel
theorem dX8_tabletTellingMost_9 : decode cX8_tabletTellingMost 9 = .ok (.getfield 48, 3) := by decide +kernel
theorem dX8_tabletTellingMost_12 : decode cX8_tabletTellingMost 12 = .ok (.getfield 122, 3) := by decide +kernel
theorem dX8_tabletTellingMost_15 : decode cX8_tabletTellingMost 15 = .ok (.if_icmp .ge 45, 3) := by decide +kernel
theorem dX8_tabletTellingMost_18 : decode cX8_tabletTellingMost 18 = .ok (.aload_n 0, 1) := by decide +kernel
theorem dX8_tabletTellingMost_19 : decode cX8_tabletTellingMost 19 = .ok (.getfield 48, 3) := by decide +kernel
theorem dX8_tabletTellingMost_22 : decode cX8_tabletTellingMost 22 = .ok (.iload_n 3, 1) := by decide +kernel
theorem dX8_tabletTellingMost_23 : decode cX8_tabletTellingMost 23 = .ok (.invokevirtual 125, 3) := by decide +kernel
theorem dX8_tabletTellingMost_26 : decode cX8_tabletTellingMost 26 = .ok (.ifCond .eq 28, 3) := by decide +kernel
theorem dX8_tabletTellingMost_29 : decode cX8_tabletTellingMost 29 = .ok (.aload_n 0, 1) := by decide +kernel
theorem dX8_tabletTellingMost_30 : decode cX8_tabletTellingMost 30 = .ok (.iload_n 3, 1) := by decide +kernel
theorem dX8_tabletTellingMost_31 : decode cX8_tabletTellingMost 31 = .ok (.iload_n 2, 1) := by decide +kernel
theorem dX8_tabletTellingMost_32 : decode cX8_tabletTellingMost 32 = .ok (.invokevirtual 128, 3) := by decide +kernel
theorem dX8_tabletTellingMost_35 : decode cX8_tabletTellingMost 35 = .ok (.istore 4, 2) := by decide +kernel
theorem dX8_tabletTellingMost_37 : decode cX8_tabletTellingMost 37 = .ok (.iload 4, 2) := by decide +kernel
theorem dX8_tabletTellingMost_39 : decode cX8_tabletTellingMost 39 = .ok (.iconst 1, 1) := by decide +kernel
theorem dX8_tabletTellingMost_40 : decode cX8_tabletTellingMost 40 = .ok (.if_icmp .lt 14, 3) := by decide +kernel
theorem dX8_tabletTellingMost_43 : decode cX8_tabletTellingMost 43 = .ok (.iload 4, 2) := by decide +kernel
theorem dX8_tabletTellingMost_45 : decode cX8_tabletTellingMost 45 = .ok (.iload_n 2, 1) := by decide +kernel
theorem dX8_tabletTellingMost_46 : decode cX8_tabletTellingMost 46 = .ok (.if_icmp .ge 8, 3) := by decide +kernel
theorem dX8_tabletTellingMost_49 : decode cX8_tabletTellingMost 49 = .ok (.iload_n 3, 1) := by decide +kernel
theorem dX8_tabletTellingMost_50 : decode cX8_tabletTellingMost 50 = .ok (.istore_n 1, 1) := by decide +kernel
theorem dX8_tabletTellingMost_51 : decode cX8_tabletTellingMost 51 = .ok (.iload 4, 2) := by decide +kernel
theorem dX8_tabletTellingMost_53 : decode cX8_tabletTellingMost 53 = .ok (.istore_n 2, 1) := by decide +kernel
theorem dX8_tabletTellingMost_54 : decode cX8_tabletTellingMost 54 = .ok (.iinc 3 1, 3) := by decide +kernel
theorem dX8_tabletTellingMost_57 : decode cX8_tabletTellingMost 57 = .ok (.goto (-50), 3) := by decide +kernel
theorem dX8_tabletTellingMost_60 : decode cX8_tabletTellingMost 60 = .ok (.iload_n 1, 1) := by decide +kernel
theorem dX8_tabletTellingMost_61 : decode cX8_tabletTellingMost 61 = .ok (.ireturn, 1) := by decide +kernel
noncomputable def f_X8_tabletTellingMost_54 (rec7 : Int32 → Int32 → Int32 → jM → Option (Int32 × jM)) (l1 : Int32) (l2 : Int32) (l3 : Int32) (σ : jM) : Option (Int32 × jM) :=
  rec7 l1 l2 (l3 + 1) σ
noncomputable def s_X8_tabletTellingMost_7  (rec7 : Int32 → Int32 → Int32 → jM → Option (Int32 × jM)) (l1 : Int32) (l2 : Int32) (l3 : Int32) (σ : jM) : Option (Int32 × jM) :=
  (if (rI σ 3 2) ≤ l3 then some (l1, σ) else bd (f_X0_tabletCounts l3 σ) (fun r2 σ3 => (if r2 = 0 then f_X8_tabletTellingMost_54 rec7 l1 l2 l3 σ3 else bd (f_X8_waysWithNewAt l3 l2 σ3) (fun r6 σ7 => (if r6 < 1 then f_X8_tabletTellingMost_54 rec7 l1 l2 l3 σ7 else (if l2 ≤ r6 then f_X8_tabletTellingMost_54 rec7 l1 l2 l3 σ7 else f_X8_tabletTellingMost_54 rec7 l3 r6 l3 σ7))))))
noncomputable def f_X8_tabletTellingMost_7  (n : Nat) : Int32 → Int32 → Int32 → jM → Option (Int32 × jM) := Nat.rec (motive := fun _ => Int32 → Int32 → Int32 → jM → Option (Int32 × jM)) (fun _ _ _ _ => none) (fun _ q => s_X8_tabletTellingMost_7  q) n
noncomputable def f_X8_tabletTellingMost  (σ : jM) : Option (Int32 × jM) :=
  f_X8_tabletTellingMost_7  Fu (-1) 2147483647 0 σ
set_option maxRecDepth 20000 in
set_option maxHeartbeats 4000000 in
theorem t_X8_tabletTellingMost_54 {rec7 : Int32 → Int32 → Int32 → jM → Option (Int32 × jM)} (hrec7 : ∀ (l1 : Int32) (l2 : Int32) (l3 : Int32) (σ : jM) (r : Int32 × jM), rec7 l1 l2 l3 σ = some r → J mi_X8_tabletTellingMost 16 0 0 (jqI r) 7 [(0, .ref 296), (1, .int l1), (2, .int l2), (3, .int l3)] [] (ms σ)) (l1 : Int32) (l2 : Int32) (l3 : Int32) (σ : jM) (r : Int32 × jM)  (h : f_X8_tabletTellingMost_54 rec7 l1 l2 l3 σ = some r) : J mi_X8_tabletTellingMost 16 0 0 (jqI r) 54 [(0, .ref 296), (1, .int l1), (2, .int l2), (3, .int l3)] [] (ms σ) := by
  unfold f_X8_tabletTellingMost_54 at h
  refine J_iinc (v := (l3 + 1)) (ls' := [(3, .int (l3 + 1)), (0, .ref 296), (1, .int l1), (2, .int l2)]) 3 dX8_tabletTellingMost_54 rfl rfl (by decide) rfl ?_
  refine J_goto (tgt := 7) dX8_tabletTellingMost_57 (by decide) ?_
  refine J_pick [1, 2, 3, 0] rfl ?_
  exact hrec7 _ _ _ _ _  h
set_option maxRecDepth 20000 in
set_option maxHeartbeats 4000000 in
theorem t_X8_tabletTellingMost_7  : ∀ (n : Nat) (l1 : Int32) (l2 : Int32) (l3 : Int32) (σ : jM) (r : Int32 × jM), f_X8_tabletTellingMost_7  n l1 l2 l3 σ = some r → J mi_X8_tabletTellingMost 16 0 0 (jqI r) 7 [(0, .ref 296), (1, .int l1), (2, .int l2), (3, .int l3)] [] (ms σ) := by
  intro n
  induction n with
  | zero =>
    intro l1 l2 l3 σ r  h
    have h : (none : Option (Int32 × jM)) = some r := h
    cases h
  | succ n ih =>
    intro l1 l2 l3 σ r  h
    have h : s_X8_tabletTellingMost_7  (f_X8_tabletTellingMost_7  n) l1 l2 l3 σ = some r := h
    unfold s_X8_tabletTellingMost_7 at h
    refine J_iload_n 3 dX8_tabletTellingMost_7 rfl ?_
    refine J_aload_n 0 dX8_tabletTellingMost_8 rfl ?_
    refine M_getR gf_X8_48_7 dX8_tabletTellingMost_9 (g_296_3 _) k_296 n_296 ?_
    refine M_getI gf_X8_122_0 dX8_tabletTellingMost_12 k_3 n_3 ?_
    refine J_icmp_ge (tgt := 60) dX8_tabletTellingMost_15 (by decide) (fun c11 => ?_) (fun c11 => ?_)
    · have h := (if_pos c11).symm.trans h
      refine J_iload_n 1 dX8_tabletTellingMost_60 rfl ?_
      exact J_ret (v := some (.int l1)) rfl ⟨dX8_tabletTellingMost_61, Or.inl rfl⟩ (jqI_mk h)
    · have h := (if_neg c11).symm.trans h
      refine J_aload_n 0 dX8_tabletTellingMost_18 rfl ?_
      refine M_getR gf_X8_48_7 dX8_tabletTellingMost_19 (g_296_3 _) k_296 n_296 ?_
      refine J_iload_n 3 dX8_tabletTellingMost_22 rfl ?_
      obtain ⟨r12, σ13, h14, h⟩ := bd_inv h
      refine M_callVI (d' := 2) (k := 3) (As := [.int l3]) (st := []) cv_X8_125 dX8_tabletTellingMost_23 rfl (by decide) rfl (Nat.le_of_ble_eq_true rfl) (Nat.le_of_ble_eq_true rfl) (by decide) n_3 k_3 rfl rfl (t_X0_tabletCounts  h14) ?_
      refine J_if_eq (tgt := 54) dX8_tabletTellingMost_26 (by decide) (fun c15 => ?_) (fun c15 => ?_)
      · have h := (if_pos c15).symm.trans h
        exact t_X8_tabletTellingMost_54 ih _ _ _ _ _  h
      · have h := (if_neg c15).symm.trans h
        refine J_aload_n 0 dX8_tabletTellingMost_29 rfl ?_
        refine J_iload_n 3 dX8_tabletTellingMost_30 rfl ?_
        refine J_iload_n 2 dX8_tabletTellingMost_31 rfl ?_
        obtain ⟨r16, σ17, h18, h⟩ := bd_inv h
        refine M_callVI (d' := 15) (k := 296) (As := [.int l3, .int l2]) (st := []) cv_X8_128 dX8_tabletTellingMost_32 rfl (by decide) rfl (Nat.le_of_ble_eq_true rfl) (Nat.le_of_ble_eq_true rfl) (by decide) n_296 k_296 rfl rfl (t_X8_waysWithNewAt  h18) ?_
        refine J_istore (i := 4) (ls' := [(4, .int r16), (0, .ref 296), (1, .int l1), (2, .int l2), (3, .int l3)]) dX8_tabletTellingMost_35 (by decide) rfl ?_
        refine J_iload 0 dX8_tabletTellingMost_37 rfl ?_
        refine J_iconst (v := 1) dX8_tabletTellingMost_39 (by decide) ?_
        refine J_icmp_lt (tgt := 54) dX8_tabletTellingMost_40 (by decide) (fun c19 => ?_) (fun c19 => ?_)
        · have h := (if_pos c19).symm.trans h
          refine J_pick [1, 2, 3, 4] rfl ?_
          exact t_X8_tabletTellingMost_54 ih _ _ _ _ _  h
        · have h := (if_neg c19).symm.trans h
          refine J_iload 0 dX8_tabletTellingMost_43 rfl ?_
          refine J_iload_n 3 dX8_tabletTellingMost_45 rfl ?_
          refine J_icmp_ge (tgt := 54) dX8_tabletTellingMost_46 (by decide) (fun c20 => ?_) (fun c20 => ?_)
          · have h := (if_pos c20).symm.trans h
            refine J_pick [1, 2, 3, 4] rfl ?_
            exact t_X8_tabletTellingMost_54 ih _ _ _ _ _  h
          · have h := (if_neg c20).symm.trans h
            refine J_iload_n 4 dX8_tabletTellingMost_49 rfl ?_
            refine J_istore_n (i := 1) (ls' := [(1, .int l3), (4, .int r16), (0, .ref 296), (2, .int l2), (3, .int l3)]) dX8_tabletTellingMost_50 rfl (by decide) rfl ?_
            refine J_iload 1 dX8_tabletTellingMost_51 rfl ?_
            refine J_istore_n (i := 2) (ls' := [(2, .int r16), (1, .int l3), (4, .int r16), (0, .ref 296), (3, .int l3)]) dX8_tabletTellingMost_53 rfl (by decide) rfl ?_
            refine J_pick [3, 1, 0, 4] rfl ?_
            exact t_X8_tabletTellingMost_54 ih _ _ _ _ _  h
set_option maxRecDepth 20000 in
set_option maxHeartbeats 4000000 in
theorem t_X8_tabletTellingMost  {σ : jM} {r : Int32 × jM}  (h : f_X8_tabletTellingMost  σ = some r) : J mi_X8_tabletTellingMost 16 0 0 (jqI r) 0 [(0, .ref 296)] [] (ms σ) := by
  unfold f_X8_tabletTellingMost at h
  refine J_iconst (v := (-1)) dX8_tabletTellingMost_0 (by decide) ?_
  refine J_istore_n (i := 1) (ls' := [(1, .int (-1)), (0, .ref 296)]) dX8_tabletTellingMost_1 rfl (by decide) rfl ?_
  refine J_ldc dX8_tabletTellingMost_2 ct_X8_115 ?_
  refine J_istore_n (i := 2) (ls' := [(2, .int 2147483647), (1, .int (-1)), (0, .ref 296)]) dX8_tabletTellingMost_4 rfl (by decide) rfl ?_
  refine J_iconst (v := 0) dX8_tabletTellingMost_5 (by decide) ?_
  refine J_istore_n (i := 3) (ls' := [(3, .int 0), (2, .int 2147483647), (1, .int (-1)), (0, .ref 296)]) dX8_tabletTellingMost_6 rfl (by decide) rfl ?_
  refine J_pick [3, 2, 1, 0] rfl ?_
  exact t_X8_tabletTellingMost_7  _ _ _ _ _ _  h
theorem dX8_rowsForNewAt_0 : decode cX8_rowsForNewAt 0 = .ok (.iconst 0, 1) := by decide +kernel
theorem dX8_rowsForNewAt_1 : decode cX8_rowsForNewAt 1 = .ok (.istore_n 2, 1) := by decide +kernel
theorem dX8_rowsForNewAt_2 : decode cX8_rowsForNewAt 2 = .ok (.aload_n 0, 1) := by decide +kernel
theorem dX8_rowsForNewAt_3 : decode cX8_rowsForNewAt 3 = .ok (.getfield 21, 3) := by decide +kernel
theorem dX8_rowsForNewAt_6 : decode cX8_rowsForNewAt 6 = .ok (.aload_n 0, 1) := by decide +kernel
theorem dX8_rowsForNewAt_7 : decode cX8_rowsForNewAt 7 = .ok (.getfield 56, 3) := by decide +kernel
theorem dX8_rowsForNewAt_10 : decode cX8_rowsForNewAt 10 = .ok (.iload_n 1, 1) := by decide +kernel
theorem dX8_rowsForNewAt_11 : decode cX8_rowsForNewAt 11 = .ok (.iastore, 1) := by decide +kernel
theorem dX8_rowsForNewAt_12 : decode cX8_rowsForNewAt 12 = .ok (.iconst 0, 1) := by decide +kernel
theorem dX8_rowsForNewAt_13 : decode cX8_rowsForNewAt 13 = .ok (.istore_n 3, 1) := by decide +kernel
theorem dX8_rowsForNewAt_14 : decode cX8_rowsForNewAt 14 = .ok (.iload_n 3, 1) := by decide +kernel
theorem dX8_rowsForNewAt_15 : decode cX8_rowsForNewAt 15 = .ok (.aload_n 0, 1) := by decide +kernel
theorem dX8_rowsForNewAt_16 : decode cX8_rowsForNewAt 16 = .ok (.getfield 48, 3) := by decide +kernel
theorem dX8_rowsForNewAt_19 : decode cX8_rowsForNewAt 19 = .ok (.getfield 136, 3) := by decide +kernel
theorem dX8_rowsForNewAt_22 : decode cX8_rowsForNewAt 22 = .ok (.iload_n 1, 1) := by decide +kernel
theorem dX8_rowsForNewAt_23 : decode cX8_rowsForNewAt 23 = .ok (.aaload, 1) := by decide +kernel
theorem dX8_rowsForNewAt_24 : decode cX8_rowsForNewAt 24 = .ok (.getfield 140, 3) := by decide +kernel
theorem dX8_rowsForNewAt_27 : decode cX8_rowsForNewAt 27 = .ok (.if_icmp .ge 48, 3) := by decide +kernel
theorem dX8_rowsForNewAt_30 : decode cX8_rowsForNewAt 30 = .ok (.aload_n 0, 1) := by decide +kernel
theorem dX8_rowsForNewAt_31 : decode cX8_rowsForNewAt 31 = .ok (.invokevirtual 98, 3) := by decide +kernel
theorem dX8_rowsForNewAt_34 : decode cX8_rowsForNewAt 34 = .ok (.aload_n 0, 1) := by decide +kernel
theorem dX8_rowsForNewAt_35 : decode cX8_rowsForNewAt 35 = .ok (.aload_n 0, 1) := by decide +kernel
theorem dX8_rowsForNewAt_36 : decode cX8_rowsForNewAt 36 = .ok (.getfield 56, 3) := by decide +kernel
theorem dX8_rowsForNewAt_39 : decode cX8_rowsForNewAt 39 = .ok (.iload_n 3, 1) := by decide +kernel
theorem dX8_rowsForNewAt_40 : decode cX8_rowsForNewAt 40 = .ok (.invokevirtual 145, 3) := by decide +kernel
theorem dX8_rowsForNewAt_43 : decode cX8_rowsForNewAt 43 = .ok (.ifCond .eq 26, 3) := by decide +kernel
theorem dX8_rowsForNewAt_46 : decode cX8_rowsForNewAt 46 = .ok (.aload_n 0, 1) := by decide +kernel
theorem dX8_rowsForNewAt_47 : decode cX8_rowsForNewAt 47 = .ok (.aload_n 0, 1) := by decide +kernel
theorem dX8_rowsForNewAt_48 : decode cX8_rowsForNewAt 48 = .ok (.getfield 56, 3) := by decide +kernel
theorem dX8_rowsForNewAt_51 : decode cX8_rowsForNewAt 51 = .ok (.iload_n 3, 1) := by decide +kernel
theorem dX8_rowsForNewAt_52 : decode cX8_rowsForNewAt 52 = .ok (.invokevirtual 149, 3) := by decide +kernel
theorem dX8_rowsForNewAt_55 : decode cX8_rowsForNewAt 55 = .ok (.ifCond .eq 14, 3) := by decide +kernel
theorem dX8_rowsForNewAt_58 : decode cX8_rowsForNewAt 58 = .ok (.aload_n 0, 1) := by decide +kernel
theorem dX8_rowsForNewAt_59 : decode cX8_rowsForNewAt 59 = .ok (.iconst 1, 1) := by decide +kernel
theorem dX8_rowsForNewAt_60 : decode cX8_rowsForNewAt 60 = .ok (.invokevirtual 116, 3) := by decide +kernel
theorem dX8_rowsForNewAt_63 : decode cX8_rowsForNewAt 63 = .ok (.ifCond .eq 6, 3) := by decide +kernel
theorem dX8_rowsForNewAt_66 : decode cX8_rowsForNewAt 66 = .ok (.iinc 2 1, 3) := by decide +kernel
theorem dX8_rowsForNewAt_69 : decode cX8_rowsForNewAt 69 = .ok (.iinc 3 1, 3) := by decide +kernel
theorem dX8_rowsForNewAt_72 : decode cX8_rowsForNewAt 72 = .ok (.goto (-58), 3) := by decide +kernel
theorem dX8_rowsForNewAt_75 : decode cX8_rowsForNewAt 75 = .ok (.iload_n 2, 1) := by decide +kernel
theorem dX8_rowsForNewAt_76 : decode cX8_rowsForNewAt 76 = .ok (.ireturn, 1) := by decide +kernel
noncomputable def f_X8_rowsForNewAt_69 (rec14 : Int32 → Int32 → Int32 → jM → Option (Int32 × jM)) (l1 : Int32) (l2 : Int32) (l3 : Int32) (σ : jM) : Option (Int32 × jM) :=
  rec14 l1 l2 (l3 + 1) σ
noncomputable def s_X8_rowsForNewAt_14  (rec14 : Int32 → Int32 → Int32 → jM → Option (Int32 × jM)) (l1 : Int32) (l2 : Int32) (l3 : Int32) (σ : jM) : Option (Int32 × jM) :=
  gd (inb l1 24) ((if (rI σ (tabX (Int32.toNatClampNeg l1)) 2) ≤ l3 then some (l2, σ) else bd (f_X8_clearCells  σ) (fun _ σ6 => bd (f_X8_isOpen (rI σ6 296 5) l3 σ6) (fun r8 σ9 => (if r8 = 0 then f_X8_rowsForNewAt_69 rec14 l1 l2 l3 σ9 else bd (f_X8_lay (rI σ9 296 5) l3 σ9) (fun r12 σ13 => (if r12 = 0 then f_X8_rowsForNewAt_69 rec14 l1 l2 l3 σ13 else bd (f_X8_layAll 1 σ13) (fun r16 σ17 => (if r16 = 0 then f_X8_rowsForNewAt_69 rec14 l1 l2 l3 σ17 else f_X8_rowsForNewAt_69 rec14 l1 (l2 + 1) l3 σ17)))))))))
noncomputable def f_X8_rowsForNewAt_14  (n : Nat) : Int32 → Int32 → Int32 → jM → Option (Int32 × jM) := Nat.rec (motive := fun _ => Int32 → Int32 → Int32 → jM → Option (Int32 × jM)) (fun _ _ _ _ => none) (fun _ q => s_X8_rowsForNewAt_14  q) n
noncomputable def f_X8_rowsForNewAt (a1 : Int32) (σ : jM) : Option (Int32 × jM) :=
  gd (inb (rI σ 296 5) 7) (f_X8_rowsForNewAt_14  Fu a1 0 0 (wI σ 300 (Int32.toNatClampNeg (rI σ 296 5)) a1))
set_option maxRecDepth 20000 in
set_option maxHeartbeats 4000000 in
theorem t_X8_rowsForNewAt_69 {rec14 : Int32 → Int32 → Int32 → jM → Option (Int32 × jM)} (hrec14 : ∀ (l1 : Int32) (l2 : Int32) (l3 : Int32) (σ : jM) (r : Int32 × jM), rec14 l1 l2 l3 σ = some r → J mi_X8_rowsForNewAt 15 0 0 (jqI r) 14 [(0, .ref 296), (1, .int l1), (2, .int l2), (3, .int l3)] [] (ms σ)) (l1 : Int32) (l2 : Int32) (l3 : Int32) (σ : jM) (r : Int32 × jM)  (h : f_X8_rowsForNewAt_69 rec14 l1 l2 l3 σ = some r) : J mi_X8_rowsForNewAt 15 0 0 (jqI r) 69 [(0, .ref 296), (1, .int l1), (2, .int l2), (3, .int l3)] [] (ms σ) := by
  unfold f_X8_rowsForNewAt_69 at h
  refine J_iinc (v := (l3 + 1)) (ls' := [(3, .int (l3 + 1)), (0, .ref 296), (1, .int l1), (2, .int l2)]) 3 dX8_rowsForNewAt_69 rfl rfl (by decide) rfl ?_
  refine J_goto (tgt := 14) dX8_rowsForNewAt_72 (by decide) ?_
  refine J_pick [1, 2, 3, 0] rfl ?_
  exact hrec14 _ _ _ _ _  h
set_option maxRecDepth 20000 in
set_option maxHeartbeats 4000000 in
theorem t_X8_rowsForNewAt_14  : ∀ (n : Nat) (l1 : Int32) (l2 : Int32) (l3 : Int32) (σ : jM) (r : Int32 × jM), f_X8_rowsForNewAt_14  n l1 l2 l3 σ = some r → J mi_X8_rowsForNewAt 15 0 0 (jqI r) 14 [(0, .ref 296), (1, .int l1), (2, .int l2), (3, .int l3)] [] (ms σ) := by
  intro n
  induction n with
  | zero =>
    intro l1 l2 l3 σ r  h
    have h : (none : Option (Int32 × jM)) = some r := h
    cases h
  | succ n ih =>
    intro l1 l2 l3 σ r  h
    have h : s_X8_rowsForNewAt_14  (f_X8_rowsForNewAt_14  n) l1 l2 l3 σ = some r := h
    unfold s_X8_rowsForNewAt_14 at h
    refine J_iload_n 3 dX8_rowsForNewAt_14 rfl ?_
    refine J_aload_n 0 dX8_rowsForNewAt_15 rfl ?_
    refine M_getR gf_X8_48_7 dX8_rowsForNewAt_16 (g_296_3 _) k_296 n_296 ?_
    refine M_getR gf_X8_136_0 dX8_rowsForNewAt_19 (g_3_1 _) k_3 n_3 ?_
    refine J_iload_n 1 dX8_rowsForNewAt_22 rfl ?_
    obtain ⟨g20, h⟩ := gd_inv h
    refine M_aald dX8_rowsForNewAt_23 a_4 (by decide) n_4 g20 (r_tab _ g20.2) ?_
    refine M_getI gf_X8_140_9 dX8_rowsForNewAt_24 (k_tab g20.2) (n_tab g20.2) ?_
    refine J_icmp_ge (tgt := 75) dX8_rowsForNewAt_27 (by decide) (fun c21 => ?_) (fun c21 => ?_)
    · have h := (if_pos c21).symm.trans h
      refine J_iload_n 2 dX8_rowsForNewAt_75 rfl ?_
      exact J_ret (v := some (.int l2)) rfl ⟨dX8_rowsForNewAt_76, Or.inl rfl⟩ (jqI_mk h)
    · have h := (if_neg c21).symm.trans h
      refine J_aload_n 0 dX8_rowsForNewAt_30 rfl ?_
      obtain ⟨_, σ23, h24, h⟩ := bd_inv h
      refine M_callVV (d' := 2) (k := 296) (As := []) (st := []) cv_X8_98 dX8_rowsForNewAt_31 rfl (by decide) rfl (Nat.le_of_ble_eq_true rfl) (Nat.le_of_ble_eq_true rfl) (by decide) n_296 k_296 rfl rfl (t_X8_clearCells  h24) ?_
      refine J_aload_n 0 dX8_rowsForNewAt_34 rfl ?_
      refine J_aload_n 0 dX8_rowsForNewAt_35 rfl ?_
      refine M_getI gf_X8_56_7 dX8_rowsForNewAt_36 k_296 n_296 ?_
      refine J_iload_n 3 dX8_rowsForNewAt_39 rfl ?_
      obtain ⟨r25, σ26, h27, h⟩ := bd_inv h
      refine M_callVI (d' := 1) (k := 296) (As := [.int (rI σ23 296 5), .int l3]) (st := []) cv_X8_145 dX8_rowsForNewAt_40 rfl (by decide) rfl (Nat.le_of_ble_eq_true rfl) (Nat.le_of_ble_eq_true rfl) (by decide) n_296 k_296 rfl rfl (t_X8_isOpen  h27) ?_
      refine J_if_eq (tgt := 69) dX8_rowsForNewAt_43 (by decide) (fun c28 => ?_) (fun c28 => ?_)
      · have h := (if_pos c28).symm.trans h
        exact t_X8_rowsForNewAt_69 ih _ _ _ _ _  h
      · have h := (if_neg c28).symm.trans h
        refine J_aload_n 0 dX8_rowsForNewAt_46 rfl ?_
        refine J_aload_n 0 dX8_rowsForNewAt_47 rfl ?_
        refine M_getI gf_X8_56_7 dX8_rowsForNewAt_48 k_296 n_296 ?_
        refine J_iload_n 3 dX8_rowsForNewAt_51 rfl ?_
        obtain ⟨r29, σ30, h31, h⟩ := bd_inv h
        refine M_callVI (d' := 3) (k := 296) (As := [.int (rI σ26 296 5), .int l3]) (st := []) cv_X8_149 dX8_rowsForNewAt_52 rfl (by decide) rfl (Nat.le_of_ble_eq_true rfl) (Nat.le_of_ble_eq_true rfl) (by decide) n_296 k_296 rfl rfl (t_X8_lay  h31) ?_
        refine J_if_eq (tgt := 69) dX8_rowsForNewAt_55 (by decide) (fun c32 => ?_) (fun c32 => ?_)
        · have h := (if_pos c32).symm.trans h
          exact t_X8_rowsForNewAt_69 ih _ _ _ _ _  h
        · have h := (if_neg c32).symm.trans h
          refine J_aload_n 0 dX8_rowsForNewAt_58 rfl ?_
          refine J_iconst (v := 1) dX8_rowsForNewAt_59 (by decide) ?_
          obtain ⟨r33, σ34, h35, h⟩ := bd_inv h
          refine M_callVI (d' := 14) (k := 296) (As := [.int 1]) (st := []) cv_X8_116 dX8_rowsForNewAt_60 rfl (by decide) rfl (Nat.le_of_ble_eq_true rfl) (Nat.le_of_ble_eq_true rfl) (by decide) n_296 k_296 rfl rfl (t_X8_layAll  h35) ?_
          refine J_if_eq (tgt := 69) dX8_rowsForNewAt_63 (by decide) (fun c36 => ?_) (fun c36 => ?_)
          · have h := (if_pos c36).symm.trans h
            exact t_X8_rowsForNewAt_69 ih _ _ _ _ _  h
          · have h := (if_neg c36).symm.trans h
            refine J_iinc (v := (l2 + 1)) (ls' := [(2, .int (l2 + 1)), (0, .ref 296), (1, .int l1), (3, .int l3)]) 2 dX8_rowsForNewAt_66 rfl rfl (by decide) rfl ?_
            refine J_pick [1, 2, 0, 3] rfl ?_
            exact t_X8_rowsForNewAt_69 ih _ _ _ _ _  h
set_option maxRecDepth 20000 in
set_option maxHeartbeats 4000000 in
theorem t_X8_rowsForNewAt {a1 : Int32} {σ : jM} {r : Int32 × jM}  (h : f_X8_rowsForNewAt a1 σ = some r) : J mi_X8_rowsForNewAt 15 0 0 (jqI r) 0 [(0, .ref 296), (1, .int a1)] [] (ms σ) := by
  unfold f_X8_rowsForNewAt at h
  refine J_iconst (v := 0) dX8_rowsForNewAt_0 (by decide) ?_
  refine J_istore_n (i := 2) (ls' := [(2, .int 0), (0, .ref 296), (1, .int a1)]) dX8_rowsForNewAt_1 rfl (by decide) rfl ?_
  refine J_aload_n 1 dX8_rowsForNewAt_2 rfl ?_
  refine M_getR gf_X8_21_7 dX8_rowsForNewAt_3 (g_296_7 _) k_296 n_296 ?_
  refine J_aload_n 1 dX8_rowsForNewAt_6 rfl ?_
  refine M_getI gf_X8_56_7 dX8_rowsForNewAt_7 k_296 n_296 ?_
  refine J_iload_n 2 dX8_rowsForNewAt_10 rfl ?_
  obtain ⟨g37, h⟩ := gd_inv h
  refine M_iast dX8_rowsForNewAt_11 a_300 n_300 g37 ?_
  refine J_iconst (v := 0) dX8_rowsForNewAt_12 (by decide) ?_
  refine J_istore_n (i := 3) (ls' := [(3, .int 0), (2, .int 0), (0, .ref 296), (1, .int a1)]) dX8_rowsForNewAt_13 rfl (by decide) rfl ?_
  refine J_pick [2, 3, 1, 0] rfl ?_
  exact t_X8_rowsForNewAt_14  _ _ _ _ _ _  h
theorem dX11_readClause_0 : decode cX11_readClause 0 = .ok (.aload_n 1, 1) := by decide +kernel
theorem dX11_readClause_1 : decode cX11_readClause 1 = .ok (.getfield 75, 3) := by decide +kernel
theorem dX11_readClause_4 : decode cX11_readClause 4 = .ok (.iload_n 2, 1) := by decide +kernel
theorem dX11_readClause_5 : decode cX11_readClause 5 = .ok (.iaload, 1) := by decide +kernel
theorem dX11_readClause_6 : decode cX11_readClause 6 = .ok (.lookupswitch 40 #[(2, 26), (3, 33)], 26) := by decide +kernel
theorem dX11_readClause_32 : decode cX11_readClause 32 = .ok (.aload_n 0, 1) := by decide +kernel
theorem dX11_readClause_33 : decode cX11_readClause 33 = .ok (.aload_n 1, 1) := by decide +kernel
theorem dX11_readClause_34 : decode cX11_readClause 34 = .ok (.iload_n 2, 1) := by decide +kernel
theorem dX11_readClause_35 : decode cX11_readClause 35 = .ok (.invokevirtual 94, 3) := by decide +kernel
theorem dX11_readClause_38 : decode cX11_readClause 38 = .ok (.ireturn, 1) := by decide +kernel
theorem dX11_readClause_39 : decode cX11_readClause 39 = .ok (.aload_n 0, 1) := by decide +kernel
theorem dX11_readClause_40 : decode cX11_readClause 40 = .ok (.aload_n 1, 1) := by decide +kernel
theorem dX11_readClause_41 : decode cX11_readClause 41 = .ok (.iload_n 2, 1) := by decide +kernel
theorem dX11_readClause_42 : decode cX11_readClause 42 = .ok (.invokevirtual 97, 3) := by decide +kernel
theorem dX11_readClause_45 : decode cX11_readClause 45 = .ok (.ireturn, 1) := by decide +kernel
theorem dX11_readClause_46 : decode cX11_readClause 46 = .ok (.aload_n 0, 1) := by decide +kernel
theorem dX11_readClause_47 : decode cX11_readClause 47 = .ok (.aload_n 1, 1) := by decide +kernel
theorem dX11_readClause_48 : decode cX11_readClause 48 = .ok (.iload_n 2, 1) := by decide +kernel
theorem dX11_readClause_49 : decode cX11_readClause 49 = .ok (.invokevirtual 100, 3) := by decide +kernel
theorem dX11_readClause_52 : decode cX11_readClause 52 = .ok (.ireturn, 1) := by decide +kernel
noncomputable def f_X11_readClause (a1 : Nat) (a2 : Int32) (σ : jM) : Option (Int32 × jM) :=
  gd (inb a2 12) ((if (rI σ (rulX a1 + 1) (Int32.toNatClampNeg a2)) = 2 then bd (f_X11_readWrite a1 a2 σ) (fun r5 σ6 => gd (r5 = 0 ∨ r5 = 1) (some (r5, σ6))) else (if (rI σ (rulX a1 + 1) (Int32.toNatClampNeg a2)) = 3 then bd (f_X11_readDrop a1 a2 σ) (fun r10 σ11 => gd (r10 = 0 ∨ r10 = 1) (some (r10, σ11))) else bd (f_X11_readSharing a1 a2 σ) (fun r14 σ15 => gd (r14 = 0 ∨ r14 = 1) (some (r14, σ15))))))
set_option maxRecDepth 20000 in
set_option maxHeartbeats 4000000 in
theorem t_X11_readClause {a1 : Nat} {a2 : Int32} {σ : jM} {r : Int32 × jM}  (h : f_X11_readClause a1 a2 σ = some r) : J mi_X11_readClause 9 0 0 (jqI r) 0 [(0, .ref 262), (1, .ref (rulX a1)), (2, .int a2)] [] (ms σ) := by
  unfold f_X11_readClause at h
  refine J_aload_n 1 dX11_readClause_0 rfl ?_
  refine M_getR gf_X11_75_6 dX11_readClause_1 (gg_rul2 _ a1) (kk_rul a1) (nn_rul a1) ?_
  refine J_iload_n 2 dX11_readClause_4 rfl ?_
  obtain ⟨g2, h⟩ := gd_inv h
  refine M_iald dX11_readClause_5 (aa_rul2 a1) (nna_rul2 a1) g2 ?_
  by_cases c4 : (rI σ (rulX a1 + 1) (Int32.toNatClampNeg a2)) = 2
  · have h := (if_pos c4).symm.trans h
    refine J_lookup (off := 26) (tgt := 32) dX11_readClause_6 (by decide) (by rw [c4]; decide) (by decide) ?_
    refine J_aload_n 0 dX11_readClause_32 rfl ?_
    refine J_aload_n 1 dX11_readClause_33 rfl ?_
    refine J_iload_n 2 dX11_readClause_34 rfl ?_
    obtain ⟨r5, σ6, h7, h⟩ := bd_inv h
    refine M_callVI (d' := 7) (k := 262) (As := [.ref (rulX a1), .int a2]) (st := []) cv_X11_94 dX11_readClause_35 rfl (by decide) rfl (Nat.le_of_ble_eq_true rfl) (Nat.le_of_ble_eq_true rfl) (by decide) n_262 k_262 rfl rfl (t_X11_readWrite  h7) ?_
    obtain ⟨g8, h⟩ := gd_inv h
    exact J_ret (v := some (.int r5)) rfl ⟨dX11_readClause_38, Or.inr (Or.inl ⟨rfl, g8⟩)⟩ (jqI_mk h)
  · have h := (if_neg c4).symm.trans h
    by_cases c9 : (rI σ (rulX a1 + 1) (Int32.toNatClampNeg a2)) = 3
    · have h := (if_pos c9).symm.trans h
      refine J_lookup (off := 33) (tgt := 39) dX11_readClause_6 (by decide) (by rw [c9]; decide) (by decide) ?_
      refine J_aload_n 0 dX11_readClause_39 rfl ?_
      refine J_aload_n 1 dX11_readClause_40 rfl ?_
      refine J_iload_n 2 dX11_readClause_41 rfl ?_
      obtain ⟨r10, σ11, h12, h⟩ := bd_inv h
      refine M_callVI (d' := 4) (k := 262) (As := [.ref (rulX a1), .int a2]) (st := []) cv_X11_97 dX11_readClause_42 rfl (by decide) rfl (Nat.le_of_ble_eq_true rfl) (Nat.le_of_ble_eq_true rfl) (by decide) n_262 k_262 rfl rfl (t_X11_readDrop  h12) ?_
      obtain ⟨g13, h⟩ := gd_inv h
      exact J_ret (v := some (.int r10)) rfl ⟨dX11_readClause_45, Or.inr (Or.inl ⟨rfl, g13⟩)⟩ (jqI_mk h)
    · have h := (if_neg c9).symm.trans h
      refine J_lookup (tgt := 46) dX11_readClause_6 (by decide) (lk_out (l := [(2, 26), (3, 33)]) (fun q hq => ?_)) (by decide) ?_
      · simp only [List.mem_cons, List.not_mem_nil, or_false] at hq
        rcases hq with rfl | rfl
        · exact fun e => c4 (Int32.toInt_inj.mp (e.symm.trans (by decide)))
        · exact fun e => c9 (Int32.toInt_inj.mp (e.symm.trans (by decide)))
      · refine J_aload_n 0 dX11_readClause_46 rfl ?_
        refine J_aload_n 1 dX11_readClause_47 rfl ?_
        refine J_iload_n 2 dX11_readClause_48 rfl ?_
        obtain ⟨r14, σ15, h16, h⟩ := bd_inv h
        refine M_callVI (d' := 8) (k := 262) (As := [.ref (rulX a1), .int a2]) (st := []) cv_X11_100 dX11_readClause_49 rfl (by decide) rfl (Nat.le_of_ble_eq_true rfl) (Nat.le_of_ble_eq_true rfl) (by decide) n_262 k_262 rfl rfl (t_X11_readSharing  h16) ?_
        obtain ⟨g17, h⟩ := gd_inv h
        exact J_ret (v := some (.int r14)) rfl ⟨dX11_readClause_52, Or.inr (Or.inl ⟨rfl, g17⟩)⟩ (jqI_mk h)
theorem dX12_pairs_0 : decode cX12_pairs 0 = .ok (.iload_n 2, 1) := by decide +kernel
theorem dX12_pairs_1 : decode cX12_pairs 1 = .ok (.invokestatic 144, 3) := by decide +kernel
theorem dX12_pairs_4 : decode cX12_pairs 4 = .ok (.ifCond .eq 37, 3) := by decide +kernel
theorem dX12_pairs_7 : decode cX12_pairs 7 = .ok (.iload_n 3, 1) := by decide +kernel
theorem dX12_pairs_8 : decode cX12_pairs 8 = .ok (.invokestatic 144, 3) := by decide +kernel
theorem dX12_pairs_11 : decode cX12_pairs 11 = .ok (.ifCond .eq 30, 3) := by decide +kernel
theorem dX12_pairs_14 : decode cX12_pairs 14 = .ok (.aload_n 0, 1) := by decide +kernel
theorem dX12_pairs_15 : decode cX12_pairs 15 = .ok (.iload 4, 2) := by decide +kernel
theorem dX12_pairs_17 : decode cX12_pairs 17 = .ok (.invokevirtual 228, 3) := by decide +kernel
theorem dX12_pairs_20 : decode cX12_pairs 20 = .ok (.ifCond .eq 21, 3) := by decide +kernel
theorem dX12_pairs_23 : decode cX12_pairs 23 = .ok (.iload_n 1, 1) := by decide +kernel
theorem dX12_pairs_24 : decode cX12_pairs 24 = .ok (.ifCond .lt 17, 3) := by decide +kernel
theorem dX12_pairs_27 : decode cX12_pairs 27 = .ok (.iload_n 1, 1) := by decide +kernel
theorem dX12_pairs_28 : decode cX12_pairs 28 = .ok (.aload_n 0, 1) := by decide +kernel
theorem dX12_pairs_29 : decode cX12_pairs 29 = .ok (.getfield 19, 3) := by decide +kernel
theorem dX12_pairs_32 : decode cX12_pairs 32 = .ok (.getfield 231, 3) := by decide +kernel
theorem dX12_pairs_35 : decode cX12_pairs 35 = .ok (.getfield 116, 3) := by decide +kernel
theorem dX12_pairs_38 : decode cX12_pairs 38 = .ok (.if_icmp .lt 5, 3) := by decide +kernel
theorem dX12_pairs_41 : decode cX12_pairs 41 = .ok (.iconst (-1), 1) := by decide +kernel
theorem dX12_pairs_42 : decode cX12_pairs 42 = .ok (.ireturn, 1) := by decide +kernel
theorem dX12_pairs_43 : decode cX12_pairs 43 = .ok (.aload_n 0, 1) := by decide +kernel
theorem dX12_pairs_44 : decode cX12_pairs 44 = .ok (.getfield 19, 3) := by decide +kernel
theorem dX12_pairs_47 : decode cX12_pairs 47 = .ok (.getfield 205, 3) := by decide +kernel
theorem dX12_pairs_50 : decode cX12_pairs 50 = .ok (.iload_n 2, 1) := by decide +kernel
theorem dX12_pairs_51 : decode cX12_pairs 51 = .ok (.iaload, 1) := by decide +kernel
theorem dX12_pairs_52 : decode cX12_pairs 52 = .ok (.istore 5, 2) := by decide +kernel
theorem dX12_pairs_54 : decode cX12_pairs 54 = .ok (.aload_n 0, 1) := by decide +kernel
theorem dX12_pairs_55 : decode cX12_pairs 55 = .ok (.getfield 19, 3) := by decide +kernel
theorem dX12_pairs_58 : decode cX12_pairs 58 = .ok (.getfield 205, 3) := by decide +kernel
theorem dX12_pairs_61 : decode cX12_pairs 61 = .ok (.iload_n 3, 1) := by decide +kernel
theorem dX12_pairs_62 : decode cX12_pairs 62 = .ok (.iaload, 1) := by decide +kernel
theorem dX12_pairs_63 : decode cX12_pairs 63 = .ok (.istore 6, 2) := by decide +kernel
theorem dX12_pairs_65 : decode cX12_pairs 65 = .ok (.iload 5, 2) := by decide +kernel
theorem dX12_pairs_67 : decode cX12_pairs 67 = .ok (.iload 6, 2) := by decide +kernel
theorem dX12_pairs_69 : decode cX12_pairs 69 = .ok (.if_icmp .ne 5, 3) := by decide +kernel
theorem dX12_pairs_72 : decode cX12_pairs 72 = .ok (.iconst 0, 1) := by decide +kernel
theorem dX12_pairs_73 : decode cX12_pairs 73 = .ok (.ireturn, 1) := by decide +kernel
theorem dX12_pairs_74 : decode cX12_pairs 74 = .ok (.aload_n 0, 1) := by decide +kernel
theorem dX12_pairs_75 : decode cX12_pairs 75 = .ok (.getfield 35, 3) := by decide +kernel
theorem dX12_pairs_78 : decode cX12_pairs 78 = .ok (.getfield 235, 3) := by decide +kernel
theorem dX12_pairs_81 : decode cX12_pairs 81 = .ok (.iload_n 1, 1) := by decide +kernel
theorem dX12_pairs_82 : decode cX12_pairs 82 = .ok (.aaload, 1) := by decide +kernel
theorem dX12_pairs_83 : decode cX12_pairs 83 = .ok (.iload 5, 2) := by decide +kernel
theorem dX12_pairs_85 : decode cX12_pairs 85 = .ok (.iload 6, 2) := by decide +kernel
theorem dX12_pairs_87 : decode cX12_pairs 87 = .ok (.invokestatic 239, 3) := by decide +kernel
theorem dX12_pairs_90 : decode cX12_pairs 90 = .ok (.iaload, 1) := by decide +kernel
theorem dX12_pairs_91 : decode cX12_pairs 91 = .ok (.ireturn, 1) := by decide +kernel
noncomputable def f_X12_pairs_41   (σ : jM) : Option (Int32 × jM) :=
  some ((-1), σ)
noncomputable def f_X12_pairs (a1 : Int32) (a2 : Int32) (a3 : Int32) (a4 : Int32) (σ : jM) : Option (Int32 × jM) :=
  bd (f_X12_isSign a2 σ) (fun r5 σ6 => (if r5 = 0 then f_X12_pairs_41   σ6 else bd (f_X12_isSign a3 σ6) (fun r9 σ10 => (if r9 = 0 then f_X12_pairs_41   σ10 else bd (f_X12_seeGrid a4 σ10) (fun r13 σ14 => (if r13 = 0 then f_X12_pairs_41   σ14 else (if a1 < 0 then f_X12_pairs_41   σ14 else (if a1 < (rI σ14 (rulX (σ14.2.2)) 1) then gd (inb a2 40) (gd (inb a3 40) ((if (rI σ14 18 (Int32.toNatClampNeg a2)) = (rI σ14 18 (Int32.toNatClampNeg a3)) then some (0, σ14) else gd (inb a1 12) (bd (f_X12_pairOf (rI σ14 18 (Int32.toNatClampNeg a2)) (rI σ14 18 (Int32.toNatClampNeg a3)) σ14) (fun r23 σ24 => gd (inb r23 780) (some ((rI σ24 (266 + (Int32.toNatClampNeg a1)) (Int32.toNatClampNeg r23)), σ24))))))) else f_X12_pairs_41   σ14))))))))
set_option maxRecDepth 20000 in
set_option maxHeartbeats 4000000 in
theorem t_X12_pairs_41   (σ : jM) (r : Int32 × jM)  (h : f_X12_pairs_41   σ = some r) : J mi_X12_pairs 8 0 0 (jqI r) 41 [] [] (ms σ) := by
  unfold f_X12_pairs_41 at h
  refine J_iconst (v := (-1)) dX12_pairs_41 (by decide) ?_
  exact J_ret (v := some (.int (-1))) rfl ⟨dX12_pairs_42, Or.inl rfl⟩ (jqI_mk h)
set_option maxRecDepth 20000 in
set_option maxHeartbeats 4000000 in
theorem t_X12_pairs {a1 : Int32} {a2 : Int32} {a3 : Int32} {a4 : Int32} {σ : jM} {r : Int32 × jM}  (h : f_X12_pairs a1 a2 a3 a4 σ = some r) : J mi_X12_pairs 8 0 0 (jqI r) 0 [(0, .ref 0), (1, .int a1), (2, .int a2), (3, .int a3), (4, .int a4)] [] (ms σ) := by
  unfold f_X12_pairs at h
  refine J_iload_n 2 dX12_pairs_0 rfl ?_
  obtain ⟨r5, σ6, h7, h⟩ := bd_inv h
  refine M_callSI (d' := 1) (As := [.int a2]) (st := []) cs_X12_144 dX12_pairs_1 rfl (Nat.le_of_ble_eq_true rfl) (Nat.le_of_ble_eq_true rfl) (by decide) rfl rfl (t_X12_isSign  h7) ?_
  refine J_if_eq (tgt := 41) dX12_pairs_4 (by decide) (fun c8 => ?_) (fun c8 => ?_)
  · have h := (if_pos c8).symm.trans h
    refine J_pick [] rfl ?_
    exact t_X12_pairs_41   _ _  h
  · have h := (if_neg c8).symm.trans h
    refine J_iload_n 3 dX12_pairs_7 rfl ?_
    obtain ⟨r9, σ10, h11, h⟩ := bd_inv h
    refine M_callSI (d' := 1) (As := [.int a3]) (st := []) cs_X12_144 dX12_pairs_8 rfl (Nat.le_of_ble_eq_true rfl) (Nat.le_of_ble_eq_true rfl) (by decide) rfl rfl (t_X12_isSign  h11) ?_
    refine J_if_eq (tgt := 41) dX12_pairs_11 (by decide) (fun c12 => ?_) (fun c12 => ?_)
    · have h := (if_pos c12).symm.trans h
      refine J_pick [] rfl ?_
      exact t_X12_pairs_41   _ _  h
    · have h := (if_neg c12).symm.trans h
      refine J_aload_n 0 dX12_pairs_14 rfl ?_
      refine J_iload 4 dX12_pairs_15 rfl ?_
      obtain ⟨r13, σ14, h15, h⟩ := bd_inv h
      refine M_callVI (d' := 7) (k := 0) (As := [.int a4]) (st := []) cv_X12_228 dX12_pairs_17 rfl (by decide) rfl (Nat.le_of_ble_eq_true rfl) (Nat.le_of_ble_eq_true rfl) (by decide) n_0 k_0 rfl rfl (t_X12_seeGrid  h15) ?_
      refine J_if_eq (tgt := 41) dX12_pairs_20 (by decide) (fun c16 => ?_) (fun c16 => ?_)
      · have h := (if_pos c16).symm.trans h
        refine J_pick [] rfl ?_
        exact t_X12_pairs_41   _ _  h
      · have h := (if_neg c16).symm.trans h
        refine J_iload_n 1 dX12_pairs_23 rfl ?_
        refine J_if_lt (tgt := 41) dX12_pairs_24 (by decide) (fun c17 => ?_) (fun c17 => ?_)
        · have h := (if_pos c17).symm.trans h
          refine J_pick [] rfl ?_
          exact t_X12_pairs_41   _ _  h
        · have h := (if_neg c17).symm.trans h
          refine J_iload_n 1 dX12_pairs_27 rfl ?_
          refine J_aload_n 0 dX12_pairs_28 rfl ?_
          refine M_getR gf_X12_19_11 dX12_pairs_29 (g_0_0 _) k_0 n_0 ?_
          refine M_getR (q := rulX σ14.2.2) gf_X12_231_0 dX12_pairs_32 rfl k_3 n_3 ?_
          refine M_getI gf_X12_116_6 dX12_pairs_35 (kk_rul (σ14.2.2)) (nn_rul (σ14.2.2)) ?_
          refine J_icmp_lt (tgt := 43) dX12_pairs_38 (by decide) (fun c18 => ?_) (fun c18 => ?_)
          · have h := (if_pos c18).symm.trans h
            refine J_aload_n 0 dX12_pairs_43 rfl ?_
            refine M_getR gf_X12_19_11 dX12_pairs_44 (g_0_0 _) k_0 n_0 ?_
            refine M_getR gf_X12_205_0 dX12_pairs_47 (g_3_11 _) k_3 n_3 ?_
            refine J_iload_n 2 dX12_pairs_50 rfl ?_
            obtain ⟨g19, h⟩ := gd_inv h
            refine M_iald dX12_pairs_51 a_18 n_18 g19 ?_
            refine J_istore (i := 5) (ls' := [(5, .int (rI σ14 18 (Int32.toNatClampNeg a2))), (0, .ref 0), (1, .int a1), (2, .int a2), (3, .int a3), (4, .int a4)]) dX12_pairs_52 (by decide) rfl ?_
            refine J_aload_n 1 dX12_pairs_54 rfl ?_
            refine M_getR gf_X12_19_11 dX12_pairs_55 (g_0_0 _) k_0 n_0 ?_
            refine M_getR gf_X12_205_0 dX12_pairs_58 (g_3_11 _) k_3 n_3 ?_
            refine J_iload_n 4 dX12_pairs_61 rfl ?_
            obtain ⟨g20, h⟩ := gd_inv h
            refine M_iald dX12_pairs_62 a_18 n_18 g20 ?_
            refine J_istore (i := 6) (ls' := [(6, .int (rI σ14 18 (Int32.toNatClampNeg a3))), (5, .int (rI σ14 18 (Int32.toNatClampNeg a2))), (0, .ref 0), (1, .int a1), (2, .int a2), (3, .int a3), (4, .int a4)]) dX12_pairs_63 (by decide) rfl ?_
            refine J_iload 1 dX12_pairs_65 rfl ?_
            refine J_iload 0 dX12_pairs_67 rfl ?_
            refine J_icmp_ne (tgt := 74) dX12_pairs_69 (by decide) (fun c21 => ?_) (fun c21 => ?_)
            · have h := (if_neg c21).symm.trans h
              refine J_aload_n 2 dX12_pairs_74 rfl ?_
              refine M_getR gf_X12_35_11 dX12_pairs_75 (g_0_2 _) k_0 n_0 ?_
              refine M_getR gf_X12_235_3 dX12_pairs_78 (g_264_1 _) k_264 n_264 ?_
              refine J_iload_n 3 dX12_pairs_81 rfl ?_
              obtain ⟨g22, h⟩ := gd_inv h
              refine M_aald dX12_pairs_82 a_265 (by decide) n_265 g22 (r_row265 _ g22.2) ?_
              refine J_iload 1 dX12_pairs_83 rfl ?_
              refine J_iload 0 dX12_pairs_85 rfl ?_
              obtain ⟨r23, σ24, h25, h⟩ := bd_inv h
              refine M_callSI (d' := 2) (As := [.int (rI σ14 18 (Int32.toNatClampNeg a2)), .int (rI σ14 18 (Int32.toNatClampNeg a3))]) (st := [.ref (266 + (Int32.toNatClampNeg a1))]) cs_X12_239 dX12_pairs_87 rfl (Nat.le_of_ble_eq_true rfl) (Nat.le_of_ble_eq_true rfl) (by decide) rfl rfl (t_X12_pairOf  h25) ?_
              obtain ⟨g26, h⟩ := gd_inv h
              refine M_iald dX12_pairs_90 (a_row265 g22.2) (na_row265 g22.2) g26 ?_
              exact J_ret (v := some (.int (rI σ24 (266 + (Int32.toNatClampNeg a1)) (Int32.toNatClampNeg r23)))) rfl ⟨dX12_pairs_91, Or.inl rfl⟩ (jqI_mk h)
            · have h := (if_pos c21).symm.trans h
              refine J_iconst (v := 0) dX12_pairs_72 (by decide) ?_
              exact J_ret (v := some (.int 0)) rfl ⟨dX12_pairs_73, Or.inl rfl⟩ (jqI_mk h)
          · have h := (if_neg c18).symm.trans h
            refine J_pick [] rfl ?_
            exact t_X12_pairs_41   _ _  h
theorem dX12_links_0 : decode cX12_links 0 = .ok (.iload_n 1, 1) := by decide +kernel
theorem dX12_links_1 : decode cX12_links 1 = .ok (.invokestatic 155, 3) := by decide +kernel
theorem dX12_links_4 : decode cX12_links 4 = .ok (.ifCond .eq 11, 3) := by decide +kernel
theorem dX12_links_7 : decode cX12_links 7 = .ok (.aload_n 0, 1) := by decide +kernel
theorem dX12_links_8 : decode cX12_links 8 = .ok (.iload_n 2, 1) := by decide +kernel
theorem dX12_links_9 : decode cX12_links 9 = .ok (.invokevirtual 228, 3) := by decide +kernel
theorem dX12_links_12 : decode cX12_links 12 = .ok (.ifCond .ne 5, 3) := by decide +kernel
theorem dX12_links_15 : decode cX12_links 15 = .ok (.iconst (-1), 1) := by decide +kernel
theorem dX12_links_16 : decode cX12_links 16 = .ok (.ireturn, 1) := by decide +kernel
theorem dX12_links_17 : decode cX12_links 17 = .ok (.aload_n 0, 1) := by decide +kernel
theorem dX12_links_18 : decode cX12_links 18 = .ok (.getfield 35, 3) := by decide +kernel
theorem dX12_links_21 : decode cX12_links 21 = .ok (.iload_n 1, 1) := by decide +kernel
theorem dX12_links_22 : decode cX12_links 22 = .ok (.invokevirtual 242, 3) := by decide +kernel
theorem dX12_links_25 : decode cX12_links 25 = .ok (.ireturn, 1) := by decide +kernel
noncomputable def f_X12_links_15   (σ : jM) : Option (Int32 × jM) :=
  some ((-1), σ)
noncomputable def f_X12_links (a1 : Int32) (a2 : Int32) (σ : jM) : Option (Int32 × jM) :=
  bd (f_X12_isSort a1 σ) (fun r1 σ2 => (if r1 = 0 then f_X12_links_15   σ2 else bd (f_X12_seeGrid a2 σ2) (fun r5 σ6 => (if r5 = 0 then f_X12_links_15   σ6 else bd (f_X4_linkCount a1 σ6) (fun r9 σ10 => some (r9, σ10))))))
set_option maxRecDepth 20000 in
set_option maxHeartbeats 4000000 in
theorem t_X12_links_15   (σ : jM) (r : Int32 × jM)  (h : f_X12_links_15   σ = some r) : J mi_X12_links 8 0 0 (jqI r) 15 [] [] (ms σ) := by
  unfold f_X12_links_15 at h
  refine J_iconst (v := (-1)) dX12_links_15 (by decide) ?_
  exact J_ret (v := some (.int (-1))) rfl ⟨dX12_links_16, Or.inl rfl⟩ (jqI_mk h)
set_option maxRecDepth 20000 in
set_option maxHeartbeats 4000000 in
theorem t_X12_links {a1 : Int32} {a2 : Int32} {σ : jM} {r : Int32 × jM}  (h : f_X12_links a1 a2 σ = some r) : J mi_X12_links 8 0 0 (jqI r) 0 [(0, .ref 0), (1, .int a1), (2, .int a2)] [] (ms σ) := by
  unfold f_X12_links at h
  refine J_iload_n 1 dX12_links_0 rfl ?_
  obtain ⟨r1, σ2, h3, h⟩ := bd_inv h
  refine M_callSI (d' := 1) (As := [.int a1]) (st := []) cs_X12_155 dX12_links_1 rfl (Nat.le_of_ble_eq_true rfl) (Nat.le_of_ble_eq_true rfl) (by decide) rfl rfl (t_X12_isSort  h3) ?_
  refine J_if_eq (tgt := 15) dX12_links_4 (by decide) (fun c4 => ?_) (fun c4 => ?_)
  · have h := (if_pos c4).symm.trans h
    refine J_pick [] rfl ?_
    exact t_X12_links_15   _ _  h
  · have h := (if_neg c4).symm.trans h
    refine J_aload_n 0 dX12_links_7 rfl ?_
    refine J_iload_n 2 dX12_links_8 rfl ?_
    obtain ⟨r5, σ6, h7, h⟩ := bd_inv h
    refine M_callVI (d' := 7) (k := 0) (As := [.int a2]) (st := []) cv_X12_228 dX12_links_9 rfl (by decide) rfl (Nat.le_of_ble_eq_true rfl) (Nat.le_of_ble_eq_true rfl) (by decide) n_0 k_0 rfl rfl (t_X12_seeGrid  h7) ?_
    refine J_if_ne (tgt := 17) dX12_links_12 (by decide) (fun c8 => ?_) (fun c8 => ?_)
    · have h := (if_neg c8).symm.trans h
      refine J_aload_n 0 dX12_links_17 rfl ?_
      refine M_getR gf_X12_35_11 dX12_links_18 (g_0_2 _) k_0 n_0 ?_
      refine J_iload_n 1 dX12_links_21 rfl ?_
      obtain ⟨r9, σ10, h11, h⟩ := bd_inv h
      refine M_callVI (d' := 2) (k := 264) (As := [.int a1]) (st := []) cv_X12_242 dX12_links_22 rfl (by decide) rfl (Nat.le_of_ble_eq_true rfl) (Nat.le_of_ble_eq_true rfl) (by decide) n_264 k_264 rfl rfl (t_X4_linkCount  h11) ?_
      exact J_ret (v := some (.int r9)) rfl ⟨dX12_links_25, Or.inl rfl⟩ (jqI_mk h)
    · have h := (if_pos c8).symm.trans h
      refine J_pick [] rfl ?_
      exact t_X12_links_15   _ _  h
theorem dX12_classOf_0 : decode cX12_classOf 0 = .ok (.iload_n 1, 1) := by decide +kernel
theorem dX12_classOf_1 : decode cX12_classOf 1 = .ok (.invokestatic 155, 3) := by decide +kernel
theorem dX12_classOf_4 : decode cX12_classOf 4 = .ok (.ifCond .eq 18, 3) := by decide +kernel
theorem dX12_classOf_7 : decode cX12_classOf 7 = .ok (.iload_n 2, 1) := by decide +kernel
theorem dX12_classOf_8 : decode cX12_classOf 8 = .ok (.invokestatic 144, 3) := by decide +kernel
theorem dX12_classOf_11 : decode cX12_classOf 11 = .ok (.ifCond .eq 11, 3) := by decide +kernel
theorem dX12_classOf_14 : decode cX12_classOf 14 = .ok (.aload_n 0, 1) := by decide +kernel
theorem dX12_classOf_15 : decode cX12_classOf 15 = .ok (.iload_n 3, 1) := by decide +kernel
theorem dX12_classOf_16 : decode cX12_classOf 16 = .ok (.invokevirtual 228, 3) := by decide +kernel
theorem dX12_classOf_19 : decode cX12_classOf 19 = .ok (.ifCond .ne 5, 3) := by decide +kernel
theorem dX12_classOf_22 : decode cX12_classOf 22 = .ok (.iconst (-1), 1) := by decide +kernel
theorem dX12_classOf_23 : decode cX12_classOf 23 = .ok (.ireturn, 1) := by decide +kernel
theorem dX12_classOf_24 : decode cX12_classOf 24 = .ok (.aload_n 0, 1) := by decide +kernel
theorem dX12_classOf_25 : decode cX12_classOf 25 = .ok (.getfield 35, 3) := by decide +kernel
theorem dX12_classOf_28 : decode cX12_classOf 28 = .ok (.getfield 246, 3) := by decide +kernel
theorem dX12_classOf_31 : decode cX12_classOf 31 = .ok (.iload_n 1, 1) := by decide +kernel
theorem dX12_classOf_32 : decode cX12_classOf 32 = .ok (.aaload, 1) := by decide +kernel
theorem dX12_classOf_33 : decode cX12_classOf 33 = .ok (.aload_n 0, 1) := by decide +kernel
theorem dX12_classOf_34 : decode cX12_classOf 34 = .ok (.getfield 19, 3) := by decide +kernel
theorem dX12_classOf_37 : decode cX12_classOf 37 = .ok (.getfield 205, 3) := by decide +kernel
theorem dX12_classOf_40 : decode cX12_classOf 40 = .ok (.iload_n 2, 1) := by decide +kernel
theorem dX12_classOf_41 : decode cX12_classOf 41 = .ok (.iaload, 1) := by decide +kernel
theorem dX12_classOf_42 : decode cX12_classOf 42 = .ok (.laload, 1) := by decide +kernel
theorem dX12_classOf_43 : decode cX12_classOf 43 = .ok (.invokestatic 250, 3) := by decide +kernel
theorem dX12_classOf_46 : decode cX12_classOf 46 = .ok (.ireturn, 1) := by decide +kernel
noncomputable def f_X12_classOf_22   (σ : jM) : Option (Int32 × jM) :=
  some ((-1), σ)
noncomputable def f_X12_classOf (a1 : Int32) (a2 : Int32) (a3 : Int32) (σ : jM) : Option (Int32 × jM) :=
  bd (f_X12_isSort a1 σ) (fun r4 σ5 => (if r4 = 0 then f_X12_classOf_22   σ5 else bd (f_X12_isSign a2 σ5) (fun r8 σ9 => (if r8 = 0 then f_X12_classOf_22   σ9 else bd (f_X12_seeGrid a3 σ9) (fun r12 σ13 => (if r12 = 0 then f_X12_classOf_22   σ13 else gd (inb a1 2) (gd (inb a2 40) (gd (inb (rI σ13 18 (Int32.toNatClampNeg a2)) 40) (bd (f_X12_leastOf (rL σ13 (285 + (Int32.toNatClampNeg a1)) (Int32.toNatClampNeg (rI σ13 18 (Int32.toNatClampNeg a2)))) σ13) (fun r19 σ20 => some (r19, σ20)))))))))))
set_option maxRecDepth 20000 in
set_option maxHeartbeats 4000000 in
theorem t_X12_classOf_22   (σ : jM) (r : Int32 × jM)  (h : f_X12_classOf_22   σ = some r) : J mi_X12_classOf 8 0 0 (jqI r) 22 [] [] (ms σ) := by
  unfold f_X12_classOf_22 at h
  refine J_iconst (v := (-1)) dX12_classOf_22 (by decide) ?_
  exact J_ret (v := some (.int (-1))) rfl ⟨dX12_classOf_23, Or.inl rfl⟩ (jqI_mk h)
set_option maxRecDepth 20000 in
set_option maxHeartbeats 4000000 in
theorem t_X12_classOf {a1 : Int32} {a2 : Int32} {a3 : Int32} {σ : jM} {r : Int32 × jM}  (h : f_X12_classOf a1 a2 a3 σ = some r) : J mi_X12_classOf 8 0 0 (jqI r) 0 [(0, .ref 0), (1, .int a1), (2, .int a2), (3, .int a3)] [] (ms σ) := by
  unfold f_X12_classOf at h
  refine J_iload_n 1 dX12_classOf_0 rfl ?_
  obtain ⟨r4, σ5, h6, h⟩ := bd_inv h
  refine M_callSI (d' := 1) (As := [.int a1]) (st := []) cs_X12_155 dX12_classOf_1 rfl (Nat.le_of_ble_eq_true rfl) (Nat.le_of_ble_eq_true rfl) (by decide) rfl rfl (t_X12_isSort  h6) ?_
  refine J_if_eq (tgt := 22) dX12_classOf_4 (by decide) (fun c7 => ?_) (fun c7 => ?_)
  · have h := (if_pos c7).symm.trans h
    refine J_pick [] rfl ?_
    exact t_X12_classOf_22   _ _  h
  · have h := (if_neg c7).symm.trans h
    refine J_iload_n 2 dX12_classOf_7 rfl ?_
    obtain ⟨r8, σ9, h10, h⟩ := bd_inv h
    refine M_callSI (d' := 1) (As := [.int a2]) (st := []) cs_X12_144 dX12_classOf_8 rfl (Nat.le_of_ble_eq_true rfl) (Nat.le_of_ble_eq_true rfl) (by decide) rfl rfl (t_X12_isSign  h10) ?_
    refine J_if_eq (tgt := 22) dX12_classOf_11 (by decide) (fun c11 => ?_) (fun c11 => ?_)
    · have h := (if_pos c11).symm.trans h
      refine J_pick [] rfl ?_
      exact t_X12_classOf_22   _ _  h
    · have h := (if_neg c11).symm.trans h
      refine J_aload_n 0 dX12_classOf_14 rfl ?_
      refine J_iload_n 3 dX12_classOf_15 rfl ?_
      obtain ⟨r12, σ13, h14, h⟩ := bd_inv h
      refine M_callVI (d' := 7) (k := 0) (As := [.int a3]) (st := []) cv_X12_228 dX12_classOf_16 rfl (by decide) rfl (Nat.le_of_ble_eq_true rfl) (Nat.le_of_ble_eq_true rfl) (by decide) n_0 k_0 rfl rfl (t_X12_seeGrid  h14) ?_
      refine J_if_ne (tgt := 24) dX12_classOf_19 (by decide) (fun c15 => ?_) (fun c15 => ?_)
      · have h := (if_neg c15).symm.trans h
        refine J_aload_n 0 dX12_classOf_24 rfl ?_
        refine M_getR gf_X12_35_11 dX12_classOf_25 (g_0_2 _) k_0 n_0 ?_
        refine M_getR gf_X12_246_3 dX12_classOf_28 (g_264_4 _) k_264 n_264 ?_
        refine J_iload_n 1 dX12_classOf_31 rfl ?_
        obtain ⟨g16, h⟩ := gd_inv h
        refine M_aald dX12_classOf_32 a_284 (by decide) n_284 g16 (r_row284 _ g16.2) ?_
        refine J_aload_n 0 dX12_classOf_33 rfl ?_
        refine M_getR gf_X12_19_11 dX12_classOf_34 (g_0_0 _) k_0 n_0 ?_
        refine M_getR gf_X12_205_0 dX12_classOf_37 (g_3_11 _) k_3 n_3 ?_
        refine J_iload_n 2 dX12_classOf_40 rfl ?_
        obtain ⟨g17, h⟩ := gd_inv h
        refine M_iald dX12_classOf_41 a_18 n_18 g17 ?_
        obtain ⟨g18, h⟩ := gd_inv h
        refine M_lald dX12_classOf_42 (a_row284 g16.2) (na_row284 g16.2) g18 ?_
        obtain ⟨r19, σ20, h21, h⟩ := bd_inv h
        refine M_callSI (d' := 2) (As := [.long (rL σ13 (285 + (Int32.toNatClampNeg a1)) (Int32.toNatClampNeg (rI σ13 18 (Int32.toNatClampNeg a2))))]) (st := []) cs_X12_250 dX12_classOf_43 rfl (Nat.le_of_ble_eq_true rfl) (Nat.le_of_ble_eq_true rfl) (by decide) rfl rfl (t_X12_leastOf  h21) ?_
        exact J_ret (v := some (.int r19)) rfl ⟨dX12_classOf_46, Or.inl rfl⟩ (jqI_mk h)
      · have h := (if_pos c15).symm.trans h
        refine J_pick [] rfl ?_
        exact t_X12_classOf_22   _ _  h
theorem dX12_clash_0 : decode cX12_clash 0 = .ok (.aload_n 0, 1) := by decide +kernel
theorem dX12_clash_1 : decode cX12_clash 1 = .ok (.iload_n 1, 1) := by decide +kernel
theorem dX12_clash_2 : decode cX12_clash 2 = .ok (.invokevirtual 228, 3) := by decide +kernel
theorem dX12_clash_5 : decode cX12_clash 5 = .ok (.ifCond .ne 5, 3) := by decide +kernel
theorem dX12_clash_8 : decode cX12_clash 8 = .ok (.iconst (-1), 1) := by decide +kernel
theorem dX12_clash_9 : decode cX12_clash 9 = .ok (.ireturn, 1) := by decide +kernel
theorem dX12_clash_10 : decode cX12_clash 10 = .ok (.aload_n 0, 1) := by decide +kernel
theorem dX12_clash_11 : decode cX12_clash 11 = .ok (.getfield 44, 3) := by decide +kernel
theorem dX12_clash_14 : decode cX12_clash 14 = .ok (.invokevirtual 254, 3) := by decide +kernel
theorem dX12_clash_17 : decode cX12_clash 17 = .ok (.aload_n 0, 1) := by decide +kernel
theorem dX12_clash_18 : decode cX12_clash 18 = .ok (.getfield 44, 3) := by decide +kernel
theorem dX12_clash_21 : decode cX12_clash 21 = .ok (.getfield 257, 3) := by decide +kernel
theorem dX12_clash_24 : decode cX12_clash 24 = .ok (.iconst (-1), 1) := by decide +kernel
theorem dX12_clash_25 : decode cX12_clash 25 = .ok (.if_icmp .ne 5, 3) := by decide +kernel
theorem dX12_clash_28 : decode cX12_clash 28 = .ok (.iconst (-1), 1) := by decide +kernel
theorem dX12_clash_29 : decode cX12_clash 29 = .ok (.ireturn, 1) := by decide +kernel
theorem dX12_clash_30 : decode cX12_clash 30 = .ok (.iload_n 2, 1) := by decide +kernel
theorem dX12_clash_31 : decode cX12_clash 31 = .ok (.tableswitch 61 0 3 #[29, 37, 45, 53], 29) := by decide +kernel
theorem dX12_clash_60 : decode cX12_clash 60 = .ok (.aload_n 0, 1) := by decide +kernel
theorem dX12_clash_61 : decode cX12_clash 61 = .ok (.getfield 44, 3) := by decide +kernel
theorem dX12_clash_64 : decode cX12_clash 64 = .ok (.getfield 260, 3) := by decide +kernel
theorem dX12_clash_67 : decode cX12_clash 67 = .ok (.ireturn, 1) := by decide +kernel
theorem dX12_clash_68 : decode cX12_clash 68 = .ok (.aload_n 0, 1) := by decide +kernel
theorem dX12_clash_69 : decode cX12_clash 69 = .ok (.getfield 44, 3) := by decide +kernel
theorem dX12_clash_72 : decode cX12_clash 72 = .ok (.getfield 263, 3) := by decide +kernel
theorem dX12_clash_75 : decode cX12_clash 75 = .ok (.ireturn, 1) := by decide +kernel
theorem dX12_clash_76 : decode cX12_clash 76 = .ok (.aload_n 0, 1) := by decide +kernel
theorem dX12_clash_77 : decode cX12_clash 77 = .ok (.getfield 44, 3) := by decide +kernel
theorem dX12_clash_80 : decode cX12_clash 80 = .ok (.getfield 257, 3) := by decide +kernel
theorem dX12_clash_83 : decode cX12_clash 83 = .ok (.ireturn, 1) := by decide +kernel
theorem dX12_clash_84 : decode cX12_clash 84 = .ok (.aload_n 0, 1) := by decide +kernel
theorem dX12_clash_85 : decode cX12_clash 85 = .ok (.getfield 44, 3) := by decide +kernel
theorem dX12_clash_88 : decode cX12_clash 88 = .ok (.getfield 266, 3) := by decide +kernel
theorem dX12_clash_91 : decode cX12_clash 91 = .ok (.ireturn, 1) := by decide +kernel
theorem dX12_clash_92 : decode cX12_clash 92 = .ok (.iconst (-1), 1) := by decide +kernel
theorem dX12_clash_93 : decode cX12_clash 93 = .ok (.ireturn, 1) := by decide +kernel
noncomputable def f_X12_clash (a1 : Int32) (a2 : Int32) (σ : jM) : Option (Int32 × jM) :=
  bd (f_X12_seeGrid a1 σ) (fun r1 σ2 => (if r1 = 0 then some ((-1), σ2) else bd (f_X2_make  σ2) (fun _ σ6 => (if (rI σ6 289 3) = (-1) then some ((-1), σ6) else (if a2 = 0 then some ((rI σ6 289 1), σ6) else (if a2 = 1 then some ((rI σ6 289 2), σ6) else (if a2 = 2 then some ((rI σ6 289 3), σ6) else (if a2 = 3 then some ((rI σ6 289 4), σ6) else some ((-1), σ6)))))))))
set_option maxRecDepth 20000 in
set_option maxHeartbeats 4000000 in
theorem t_X12_clash {a1 : Int32} {a2 : Int32} {σ : jM} {r : Int32 × jM}  (h : f_X12_clash a1 a2 σ = some r) : J mi_X12_clash 8 0 0 (jqI r) 0 [(0, .ref 0), (1, .int a1), (2, .int a2)] [] (ms σ) := by
  unfold f_X12_clash at h
  refine J_aload_n 0 dX12_clash_0 rfl ?_
  refine J_iload_n 1 dX12_clash_1 rfl ?_
  obtain ⟨r1, σ2, h3, h⟩ := bd_inv h
  refine M_callVI (d' := 7) (k := 0) (As := [.int a1]) (st := []) cv_X12_228 dX12_clash_2 rfl (by decide) rfl (Nat.le_of_ble_eq_true rfl) (Nat.le_of_ble_eq_true rfl) (by decide) n_0 k_0 rfl rfl (t_X12_seeGrid  h3) ?_
  refine J_if_ne (tgt := 10) dX12_clash_5 (by decide) (fun c4 => ?_) (fun c4 => ?_)
  · have h := (if_neg c4).symm.trans h
    refine J_aload_n 0 dX12_clash_10 rfl ?_
    refine M_getR gf_X12_44_11 dX12_clash_11 (g_0_3 _) k_0 n_0 ?_
    obtain ⟨_, σ6, h7, h⟩ := bd_inv h
    refine M_callVV (d' := 5) (k := 289) (As := []) (st := []) cv_X12_254 dX12_clash_14 rfl (by decide) rfl (Nat.le_of_ble_eq_true rfl) (Nat.le_of_ble_eq_true rfl) (by decide) n_289 k_289 rfl rfl (t_X2_make  h7) ?_
    refine J_aload_n 0 dX12_clash_17 rfl ?_
    refine M_getR gf_X12_44_11 dX12_clash_18 (g_0_3 _) k_0 n_0 ?_
    refine M_getI gf_X12_257_2 dX12_clash_21 k_289 n_289 ?_
    refine J_iconst (v := (-1)) dX12_clash_24 (by decide) ?_
    refine J_icmp_ne (tgt := 30) dX12_clash_25 (by decide) (fun c8 => ?_) (fun c8 => ?_)
    · have h := (if_neg c8).symm.trans h
      refine J_iload_n 2 dX12_clash_30 rfl ?_
      by_cases c10 : a2 = 0
      · have h := (if_pos c10).symm.trans h
        refine J_tableIn (off := 29) (tgt := 60) dX12_clash_31 (by rw [c10]; decide) (by rw [c10]; decide) (by rw [c10]; decide) (by decide) ?_
        refine J_aload_n 0 dX12_clash_60 rfl ?_
        refine M_getR gf_X12_44_11 dX12_clash_61 (g_0_3 _) k_0 n_0 ?_
        refine M_getI gf_X12_260_2 dX12_clash_64 k_289 n_289 ?_
        exact J_ret (v := some (.int (rI σ6 289 1))) rfl ⟨dX12_clash_67, Or.inl rfl⟩ (jqI_mk h)
      · have h := (if_neg c10).symm.trans h
        by_cases c11 : a2 = 1
        · have h := (if_pos c11).symm.trans h
          refine J_tableIn (off := 37) (tgt := 68) dX12_clash_31 (by rw [c11]; decide) (by rw [c11]; decide) (by rw [c11]; decide) (by decide) ?_
          refine J_aload_n 0 dX12_clash_68 rfl ?_
          refine M_getR gf_X12_44_11 dX12_clash_69 (g_0_3 _) k_0 n_0 ?_
          refine M_getI gf_X12_263_2 dX12_clash_72 k_289 n_289 ?_
          exact J_ret (v := some (.int (rI σ6 289 2))) rfl ⟨dX12_clash_75, Or.inl rfl⟩ (jqI_mk h)
        · have h := (if_neg c11).symm.trans h
          by_cases c12 : a2 = 2
          · have h := (if_pos c12).symm.trans h
            refine J_tableIn (off := 45) (tgt := 76) dX12_clash_31 (by rw [c12]; decide) (by rw [c12]; decide) (by rw [c12]; decide) (by decide) ?_
            refine J_aload_n 0 dX12_clash_76 rfl ?_
            refine M_getR gf_X12_44_11 dX12_clash_77 (g_0_3 _) k_0 n_0 ?_
            refine M_getI gf_X12_257_2 dX12_clash_80 k_289 n_289 ?_
            exact J_ret (v := some (.int (rI σ6 289 3))) rfl ⟨dX12_clash_83, Or.inl rfl⟩ (jqI_mk h)
          · have h := (if_neg c12).symm.trans h
            by_cases c13 : a2 = 3
            · have h := (if_pos c13).symm.trans h
              refine J_tableIn (off := 53) (tgt := 84) dX12_clash_31 (by rw [c13]; decide) (by rw [c13]; decide) (by rw [c13]; decide) (by decide) ?_
              refine J_aload_n 0 dX12_clash_84 rfl ?_
              refine M_getR gf_X12_44_11 dX12_clash_85 (g_0_3 _) k_0 n_0 ?_
              refine M_getI gf_X12_266_2 dX12_clash_88 k_289 n_289 ?_
              exact J_ret (v := some (.int (rI σ6 289 4))) rfl ⟨dX12_clash_91, Or.inl rfl⟩ (jqI_mk h)
            · have h := (if_neg c13).symm.trans h
              refine J_tableOut (tgt := 92) dX12_clash_31 (sw_out 0 3 (by decide) (fun v hv1 hv2 => ?_)) (by decide) ?_
              · rcases (by omega : v = 0 ∨ v = 1 ∨ v = 2 ∨ v = 3) with rfl | rfl | rfl | rfl
                · exact c10
                · exact c11
                · exact c12
                · exact c13
              · refine J_iconst (v := (-1)) dX12_clash_92 (by decide) ?_
                exact J_ret (v := some (.int (-1))) rfl ⟨dX12_clash_93, Or.inl rfl⟩ (jqI_mk h)
    · have h := (if_pos c8).symm.trans h
      refine J_iconst (v := (-1)) dX12_clash_28 (by decide) ?_
      exact J_ret (v := some (.int (-1))) rfl ⟨dX12_clash_29, Or.inl rfl⟩ (jqI_mk h)
  · have h := (if_pos c4).symm.trans h
    refine J_iconst (v := (-1)) dX12_clash_8 (by decide) ?_
    exact J_ret (v := some (.int (-1))) rfl ⟨dX12_clash_9, Or.inl rfl⟩ (jqI_mk h)
theorem dX12_reason_0 : decode cX12_reason 0 = .ok (.aload_n 0, 1) := by decide +kernel
theorem dX12_reason_1 : decode cX12_reason 1 = .ok (.iload_n 1, 1) := by decide +kernel
theorem dX12_reason_2 : decode cX12_reason 2 = .ok (.invokevirtual 228, 3) := by decide +kernel
theorem dX12_reason_5 : decode cX12_reason 5 = .ok (.ifCond .ne 5, 3) := by decide +kernel
theorem dX12_reason_8 : decode cX12_reason 8 = .ok (.iconst (-1), 1) := by decide +kernel
theorem dX12_reason_9 : decode cX12_reason 9 = .ok (.ireturn, 1) := by decide +kernel
theorem dX12_reason_10 : decode cX12_reason 10 = .ok (.aload_n 0, 1) := by decide +kernel
theorem dX12_reason_11 : decode cX12_reason 11 = .ok (.getfield 44, 3) := by decide +kernel
theorem dX12_reason_14 : decode cX12_reason 14 = .ok (.invokevirtual 254, 3) := by decide +kernel
theorem dX12_reason_17 : decode cX12_reason 17 = .ok (.iload_n 2, 1) := by decide +kernel
theorem dX12_reason_18 : decode cX12_reason 18 = .ok (.ifCond .lt 14, 3) := by decide +kernel
theorem dX12_reason_21 : decode cX12_reason 21 = .ok (.iload_n 2, 1) := by decide +kernel
theorem dX12_reason_22 : decode cX12_reason 22 = .ok (.aload_n 0, 1) := by decide +kernel
theorem dX12_reason_23 : decode cX12_reason 23 = .ok (.getfield 44, 3) := by decide +kernel
theorem dX12_reason_26 : decode cX12_reason 26 = .ok (.getfield 269, 3) := by decide +kernel
theorem dX12_reason_29 : decode cX12_reason 29 = .ok (.if_icmp .lt 5, 3) := by decide +kernel
theorem dX12_reason_32 : decode cX12_reason 32 = .ok (.iconst (-1), 1) := by decide +kernel
theorem dX12_reason_33 : decode cX12_reason 33 = .ok (.ireturn, 1) := by decide +kernel
theorem dX12_reason_34 : decode cX12_reason 34 = .ok (.iload_n 3, 1) := by decide +kernel
theorem dX12_reason_35 : decode cX12_reason 35 = .ok (.tableswitch 55 0 2 #[25, 35, 45], 25) := by decide +kernel
theorem dX12_reason_60 : decode cX12_reason 60 = .ok (.aload_n 0, 1) := by decide +kernel
theorem dX12_reason_61 : decode cX12_reason 61 = .ok (.getfield 44, 3) := by decide +kernel
theorem dX12_reason_64 : decode cX12_reason 64 = .ok (.getfield 272, 3) := by decide +kernel
theorem dX12_reason_67 : decode cX12_reason 67 = .ok (.iload_n 2, 1) := by decide +kernel
theorem dX12_reason_68 : decode cX12_reason 68 = .ok (.iaload, 1) := by decide +kernel
theorem dX12_reason_69 : decode cX12_reason 69 = .ok (.ireturn, 1) := by decide +kernel
theorem dX12_reason_70 : decode cX12_reason 70 = .ok (.aload_n 0, 1) := by decide +kernel
theorem dX12_reason_71 : decode cX12_reason 71 = .ok (.getfield 44, 3) := by decide +kernel
theorem dX12_reason_74 : decode cX12_reason 74 = .ok (.getfield 275, 3) := by decide +kernel
theorem dX12_reason_77 : decode cX12_reason 77 = .ok (.iload_n 2, 1) := by decide +kernel
theorem dX12_reason_78 : decode cX12_reason 78 = .ok (.iaload, 1) := by decide +kernel
theorem dX12_reason_79 : decode cX12_reason 79 = .ok (.ireturn, 1) := by decide +kernel
theorem dX12_reason_80 : decode cX12_reason 80 = .ok (.aload_n 0, 1) := by decide +kernel
theorem dX12_reason_81 : decode cX12_reason 81 = .ok (.getfield 44, 3) := by decide +kernel
theorem dX12_reason_84 : decode cX12_reason 84 = .ok (.getfield 278, 3) := by decide +kernel
theorem dX12_reason_87 : decode cX12_reason 87 = .ok (.iload_n 2, 1) := by decide +kernel
theorem dX12_reason_88 : decode cX12_reason 88 = .ok (.iaload, 1) := by decide +kernel
theorem dX12_reason_89 : decode cX12_reason 89 = .ok (.ireturn, 1) := by decide +kernel
theorem dX12_reason_90 : decode cX12_reason 90 = .ok (.iconst (-1), 1) := by decide +kernel
theorem dX12_reason_91 : decode cX12_reason 91 = .ok (.ireturn, 1) := by decide +kernel
noncomputable def f_X12_reason_32   (σ : jM) : Option (Int32 × jM) :=
  some ((-1), σ)
noncomputable def f_X12_reason (a1 : Int32) (a2 : Int32) (a3 : Int32) (σ : jM) : Option (Int32 × jM) :=
  bd (f_X12_seeGrid a1 σ) (fun r4 σ5 => (if r4 = 0 then some ((-1), σ5) else bd (f_X2_make  σ5) (fun _ σ9 => (if a2 < 0 then f_X12_reason_32   σ9 else (if a2 < (rI σ9 289 5) then (if a3 = 0 then gd (inb a2 80) (some ((rI σ9 290 (Int32.toNatClampNeg a2)), σ9)) else (if a3 = 1 then gd (inb a2 80) (some ((rI σ9 291 (Int32.toNatClampNeg a2)), σ9)) else (if a3 = 2 then gd (inb a2 80) (some ((rI σ9 292 (Int32.toNatClampNeg a2)), σ9)) else some ((-1), σ9)))) else f_X12_reason_32   σ9)))))
set_option maxRecDepth 20000 in
set_option maxHeartbeats 4000000 in
theorem t_X12_reason_32   (σ : jM) (r : Int32 × jM)  (h : f_X12_reason_32   σ = some r) : J mi_X12_reason 8 0 0 (jqI r) 32 [] [] (ms σ) := by
  unfold f_X12_reason_32 at h
  refine J_iconst (v := (-1)) dX12_reason_32 (by decide) ?_
  exact J_ret (v := some (.int (-1))) rfl ⟨dX12_reason_33, Or.inl rfl⟩ (jqI_mk h)
set_option maxRecDepth 20000 in
set_option maxHeartbeats 4000000 in
theorem t_X12_reason {a1 : Int32} {a2 : Int32} {a3 : Int32} {σ : jM} {r : Int32 × jM}  (h : f_X12_reason a1 a2 a3 σ = some r) : J mi_X12_reason 8 0 0 (jqI r) 0 [(0, .ref 0), (1, .int a1), (2, .int a2), (3, .int a3)] [] (ms σ) := by
  unfold f_X12_reason at h
  refine J_aload_n 0 dX12_reason_0 rfl ?_
  refine J_iload_n 1 dX12_reason_1 rfl ?_
  obtain ⟨r4, σ5, h6, h⟩ := bd_inv h
  refine M_callVI (d' := 7) (k := 0) (As := [.int a1]) (st := []) cv_X12_228 dX12_reason_2 rfl (by decide) rfl (Nat.le_of_ble_eq_true rfl) (Nat.le_of_ble_eq_true rfl) (by decide) n_0 k_0 rfl rfl (t_X12_seeGrid  h6) ?_
  refine J_if_ne (tgt := 10) dX12_reason_5 (by decide) (fun c7 => ?_) (fun c7 => ?_)
  · have h := (if_neg c7).symm.trans h
    refine J_aload_n 0 dX12_reason_10 rfl ?_
    refine M_getR gf_X12_44_11 dX12_reason_11 (g_0_3 _) k_0 n_0 ?_
    obtain ⟨_, σ9, h10, h⟩ := bd_inv h
    refine M_callVV (d' := 5) (k := 289) (As := []) (st := []) cv_X12_254 dX12_reason_14 rfl (by decide) rfl (Nat.le_of_ble_eq_true rfl) (Nat.le_of_ble_eq_true rfl) (by decide) n_289 k_289 rfl rfl (t_X2_make  h10) ?_
    refine J_iload_n 2 dX12_reason_17 rfl ?_
    refine J_if_lt (tgt := 32) dX12_reason_18 (by decide) (fun c11 => ?_) (fun c11 => ?_)
    · have h := (if_pos c11).symm.trans h
      refine J_pick [] rfl ?_
      exact t_X12_reason_32   _ _  h
    · have h := (if_neg c11).symm.trans h
      refine J_iload_n 2 dX12_reason_21 rfl ?_
      refine J_aload_n 0 dX12_reason_22 rfl ?_
      refine M_getR gf_X12_44_11 dX12_reason_23 (g_0_3 _) k_0 n_0 ?_
      refine M_getI gf_X12_269_2 dX12_reason_26 k_289 n_289 ?_
      refine J_icmp_lt (tgt := 34) dX12_reason_29 (by decide) (fun c12 => ?_) (fun c12 => ?_)
      · have h := (if_pos c12).symm.trans h
        refine J_iload_n 3 dX12_reason_34 rfl ?_
        by_cases c14 : a3 = 0
        · have h := (if_pos c14).symm.trans h
          refine J_tableIn (off := 25) (tgt := 60) dX12_reason_35 (by rw [c14]; decide) (by rw [c14]; decide) (by rw [c14]; decide) (by decide) ?_
          refine J_aload_n 0 dX12_reason_60 rfl ?_
          refine M_getR gf_X12_44_11 dX12_reason_61 (g_0_3 _) k_0 n_0 ?_
          refine M_getR gf_X12_272_2 dX12_reason_64 (g_289_6 _) k_289 n_289 ?_
          refine J_iload_n 2 dX12_reason_67 rfl ?_
          obtain ⟨g15, h⟩ := gd_inv h
          refine M_iald dX12_reason_68 a_290 n_290 g15 ?_
          exact J_ret (v := some (.int (rI σ9 290 (Int32.toNatClampNeg a2)))) rfl ⟨dX12_reason_69, Or.inl rfl⟩ (jqI_mk h)
        · have h := (if_neg c14).symm.trans h
          by_cases c16 : a3 = 1
          · have h := (if_pos c16).symm.trans h
            refine J_tableIn (off := 35) (tgt := 70) dX12_reason_35 (by rw [c16]; decide) (by rw [c16]; decide) (by rw [c16]; decide) (by decide) ?_
            refine J_aload_n 0 dX12_reason_70 rfl ?_
            refine M_getR gf_X12_44_11 dX12_reason_71 (g_0_3 _) k_0 n_0 ?_
            refine M_getR gf_X12_275_2 dX12_reason_74 (g_289_7 _) k_289 n_289 ?_
            refine J_iload_n 2 dX12_reason_77 rfl ?_
            obtain ⟨g17, h⟩ := gd_inv h
            refine M_iald dX12_reason_78 a_291 n_291 g17 ?_
            exact J_ret (v := some (.int (rI σ9 291 (Int32.toNatClampNeg a2)))) rfl ⟨dX12_reason_79, Or.inl rfl⟩ (jqI_mk h)
          · have h := (if_neg c16).symm.trans h
            by_cases c18 : a3 = 2
            · have h := (if_pos c18).symm.trans h
              refine J_tableIn (off := 45) (tgt := 80) dX12_reason_35 (by rw [c18]; decide) (by rw [c18]; decide) (by rw [c18]; decide) (by decide) ?_
              refine J_aload_n 0 dX12_reason_80 rfl ?_
              refine M_getR gf_X12_44_11 dX12_reason_81 (g_0_3 _) k_0 n_0 ?_
              refine M_getR gf_X12_278_2 dX12_reason_84 (g_289_8 _) k_289 n_289 ?_
              refine J_iload_n 2 dX12_reason_87 rfl ?_
              obtain ⟨g19, h⟩ := gd_inv h
              refine M_iald dX12_reason_88 a_292 n_292 g19 ?_
              exact J_ret (v := some (.int (rI σ9 292 (Int32.toNatClampNeg a2)))) rfl ⟨dX12_reason_89, Or.inl rfl⟩ (jqI_mk h)
            · have h := (if_neg c18).symm.trans h
              refine J_tableOut (tgt := 90) dX12_reason_35 (sw_out 0 2 (by decide) (fun v hv1 hv2 => ?_)) (by decide) ?_
              · rcases (by omega : v = 0 ∨ v = 1 ∨ v = 2) with rfl | rfl | rfl
                · exact c14
                · exact c16
                · exact c18
              · refine J_iconst (v := (-1)) dX12_reason_90 (by decide) ?_
                exact J_ret (v := some (.int (-1))) rfl ⟨dX12_reason_91, Or.inl rfl⟩ (jqI_mk h)
      · have h := (if_neg c12).symm.trans h
        refine J_pick [] rfl ?_
        exact t_X12_reason_32   _ _  h
  · have h := (if_pos c7).symm.trans h
    refine J_iconst (v := (-1)) dX12_reason_8 (by decide) ?_
    exact J_ret (v := some (.int (-1))) rfl ⟨dX12_reason_9, Or.inl rfl⟩ (jqI_mk h)
theorem dX12_way_0 : decode cX12_way 0 = .ok (.iload_n 2, 1) := by decide +kernel
theorem dX12_way_1 : decode cX12_way 1 = .ok (.ifCond .lt 33, 3) := by decide +kernel
theorem dX12_way_4 : decode cX12_way 4 = .ok (.aload_n 0, 1) := by decide +kernel
theorem dX12_way_5 : decode cX12_way 5 = .ok (.getfield 19, 3) := by decide +kernel
theorem dX12_way_8 : decode cX12_way 8 = .ok (.iload_n 3, 1) := by decide +kernel
theorem dX12_way_9 : decode cX12_way 9 = .ok (.invokevirtual 281, 3) := by decide +kernel
theorem dX12_way_12 : decode cX12_way 12 = .ok (.ifCond .eq 22, 3) := by decide +kernel
theorem dX12_way_15 : decode cX12_way 15 = .ok (.aload_n 0, 1) := by decide +kernel
theorem dX12_way_16 : decode cX12_way 16 = .ok (.iload_n 1, 1) := by decide +kernel
theorem dX12_way_17 : decode cX12_way 17 = .ok (.invokevirtual 228, 3) := by decide +kernel
theorem dX12_way_20 : decode cX12_way 20 = .ok (.ifCond .eq 14, 3) := by decide +kernel
theorem dX12_way_23 : decode cX12_way 23 = .ok (.aload_n 0, 1) := by decide +kernel
theorem dX12_way_24 : decode cX12_way 24 = .ok (.getfield 53, 3) := by decide +kernel
theorem dX12_way_27 : decode cX12_way 27 = .ok (.iload_n 2, 1) := by decide +kernel
theorem dX12_way_28 : decode cX12_way 28 = .ok (.invokevirtual 297, 3) := by decide +kernel
theorem dX12_way_31 : decode cX12_way 31 = .ok (.ifCond .ne 5, 3) := by decide +kernel
theorem dX12_way_34 : decode cX12_way 34 = .ok (.iconst (-1), 1) := by decide +kernel
theorem dX12_way_35 : decode cX12_way 35 = .ok (.ireturn, 1) := by decide +kernel
theorem dX12_way_36 : decode cX12_way 36 = .ok (.aload_n 0, 1) := by decide +kernel
theorem dX12_way_37 : decode cX12_way 37 = .ok (.getfield 53, 3) := by decide +kernel
theorem dX12_way_40 : decode cX12_way 40 = .ok (.iload_n 3, 1) := by decide +kernel
theorem dX12_way_41 : decode cX12_way 41 = .ok (.invokevirtual 300, 3) := by decide +kernel
theorem dX12_way_44 : decode cX12_way 44 = .ok (.ireturn, 1) := by decide +kernel
noncomputable def f_X12_way_34   (σ : jM) : Option (Int32 × jM) :=
  some ((-1), σ)
noncomputable def f_X12_way (a1 : Int32) (a2 : Int32) (a3 : Int32) (σ : jM) : Option (Int32 × jM) :=
  (if a2 < 0 then f_X12_way_34   σ else bd (f_X0_hasName a3 σ) (fun r2 σ3 => (if r2 = 0 then f_X12_way_34   σ3 else bd (f_X12_seeGrid a1 σ3) (fun r6 σ7 => (if r6 = 0 then f_X12_way_34   σ7 else bd (f_X8_findWay a2 σ7) (fun r10 σ11 => (if r10 = 0 then f_X12_way_34   σ11 else bd (f_X8_rowOfName a3 σ11) (fun r14 σ15 => some (r14, σ15)))))))))
set_option maxRecDepth 20000 in
set_option maxHeartbeats 4000000 in
theorem t_X12_way_34   (σ : jM) (r : Int32 × jM)  (h : f_X12_way_34   σ = some r) : J mi_X12_way 16 0 0 (jqI r) 34 [] [] (ms σ) := by
  unfold f_X12_way_34 at h
  refine J_iconst (v := (-1)) dX12_way_34 (by decide) ?_
  exact J_ret (v := some (.int (-1))) rfl ⟨dX12_way_35, Or.inl rfl⟩ (jqI_mk h)
set_option maxRecDepth 20000 in
set_option maxHeartbeats 4000000 in
theorem t_X12_way {a1 : Int32} {a2 : Int32} {a3 : Int32} {σ : jM} {r : Int32 × jM}  (h : f_X12_way a1 a2 a3 σ = some r) : J mi_X12_way 16 0 0 (jqI r) 0 [(0, .ref 0), (1, .int a1), (2, .int a2), (3, .int a3)] [] (ms σ) := by
  unfold f_X12_way at h
  refine J_iload_n 2 dX12_way_0 rfl ?_
  refine J_if_lt (tgt := 34) dX12_way_1 (by decide) (fun c1 => ?_) (fun c1 => ?_)
  · have h := (if_pos c1).symm.trans h
    refine J_pick [] rfl ?_
    exact t_X12_way_34   _ _  h
  · have h := (if_neg c1).symm.trans h
    refine J_aload_n 0 dX12_way_4 rfl ?_
    refine M_getR gf_X12_19_11 dX12_way_5 (g_0_0 _) k_0 n_0 ?_
    refine J_iload_n 3 dX12_way_8 rfl ?_
    obtain ⟨r2, σ3, h4, h⟩ := bd_inv h
    refine M_callVI (d' := 1) (k := 3) (As := [.int a3]) (st := []) cv_X12_281 dX12_way_9 rfl (by decide) rfl (Nat.le_of_ble_eq_true rfl) (Nat.le_of_ble_eq_true rfl) (by decide) n_3 k_3 rfl rfl (t_X0_hasName  h4) ?_
    refine J_if_eq (tgt := 34) dX12_way_12 (by decide) (fun c5 => ?_) (fun c5 => ?_)
    · have h := (if_pos c5).symm.trans h
      refine J_pick [] rfl ?_
      exact t_X12_way_34   _ _  h
    · have h := (if_neg c5).symm.trans h
      refine J_aload_n 0 dX12_way_15 rfl ?_
      refine J_iload_n 1 dX12_way_16 rfl ?_
      obtain ⟨r6, σ7, h8, h⟩ := bd_inv h
      refine M_callVI (d' := 7) (k := 0) (As := [.int a1]) (st := []) cv_X12_228 dX12_way_17 rfl (by decide) rfl (Nat.le_of_ble_eq_true rfl) (Nat.le_of_ble_eq_true rfl) (by decide) n_0 k_0 rfl rfl (t_X12_seeGrid  h8) ?_
      refine J_if_eq (tgt := 34) dX12_way_20 (by decide) (fun c9 => ?_) (fun c9 => ?_)
      · have h := (if_pos c9).symm.trans h
        refine J_pick [] rfl ?_
        exact t_X12_way_34   _ _  h
      · have h := (if_neg c9).symm.trans h
        refine J_aload_n 0 dX12_way_23 rfl ?_
        refine M_getR gf_X12_53_11 dX12_way_24 (g_0_4 _) k_0 n_0 ?_
        refine J_iload_n 2 dX12_way_27 rfl ?_
        obtain ⟨r10, σ11, h12, h⟩ := bd_inv h
        refine M_callVI (d' := 15) (k := 296) (As := [.int a2]) (st := []) cv_X12_297 dX12_way_28 rfl (by decide) rfl (Nat.le_of_ble_eq_true rfl) (Nat.le_of_ble_eq_true rfl) (by decide) n_296 k_296 rfl rfl (t_X8_findWay  h12) ?_
        refine J_if_ne (tgt := 36) dX12_way_31 (by decide) (fun c13 => ?_) (fun c13 => ?_)
        · have h := (if_neg c13).symm.trans h
          refine J_aload_n 0 dX12_way_36 rfl ?_
          refine M_getR gf_X12_53_11 dX12_way_37 (g_0_4 _) k_0 n_0 ?_
          refine J_iload_n 3 dX12_way_40 rfl ?_
          obtain ⟨r14, σ15, h16, h⟩ := bd_inv h
          refine M_callVI (d' := 1) (k := 296) (As := [.int a3]) (st := []) cv_X12_300 dX12_way_41 rfl (by decide) rfl (Nat.le_of_ble_eq_true rfl) (Nat.le_of_ble_eq_true rfl) (by decide) n_296 k_296 rfl rfl (t_X8_rowOfName  h16) ?_
          exact J_ret (v := some (.int r14)) rfl ⟨dX12_way_44, Or.inl rfl⟩ (jqI_mk h)
        · have h := (if_pos c13).symm.trans h
          refine J_pick [] rfl ?_
          exact t_X12_way_34   _ _  h
theorem dX12_given_0 : decode cX12_given 0 = .ok (.iload_n 2, 1) := by decide +kernel
theorem dX12_given_1 : decode cX12_given 1 = .ok (.ifCond .lt 29, 3) := by decide +kernel
theorem dX12_given_4 : decode cX12_given 4 = .ok (.iload_n 3, 1) := by decide +kernel
theorem dX12_given_5 : decode cX12_given 5 = .ok (.invokestatic 144, 3) := by decide +kernel
theorem dX12_given_8 : decode cX12_given 8 = .ok (.ifCond .eq 22, 3) := by decide +kernel
theorem dX12_given_11 : decode cX12_given 11 = .ok (.aload_n 0, 1) := by decide +kernel
theorem dX12_given_12 : decode cX12_given 12 = .ok (.iload_n 1, 1) := by decide +kernel
theorem dX12_given_13 : decode cX12_given 13 = .ok (.invokevirtual 228, 3) := by decide +kernel
theorem dX12_given_16 : decode cX12_given 16 = .ok (.ifCond .eq 14, 3) := by decide +kernel
theorem dX12_given_19 : decode cX12_given 19 = .ok (.aload_n 0, 1) := by decide +kernel
theorem dX12_given_20 : decode cX12_given 20 = .ok (.getfield 53, 3) := by decide +kernel
theorem dX12_given_23 : decode cX12_given 23 = .ok (.iload_n 2, 1) := by decide +kernel
theorem dX12_given_24 : decode cX12_given 24 = .ok (.invokevirtual 297, 3) := by decide +kernel
theorem dX12_given_27 : decode cX12_given 27 = .ok (.ifCond .ne 5, 3) := by decide +kernel
theorem dX12_given_30 : decode cX12_given 30 = .ok (.iconst (-1), 1) := by decide +kernel
theorem dX12_given_31 : decode cX12_given 31 = .ok (.ireturn, 1) := by decide +kernel
theorem dX12_given_32 : decode cX12_given 32 = .ok (.aload_n 0, 1) := by decide +kernel
theorem dX12_given_33 : decode cX12_given 33 = .ok (.getfield 53, 3) := by decide +kernel
theorem dX12_given_36 : decode cX12_given 36 = .ok (.getfield 303, 3) := by decide +kernel
theorem dX12_given_39 : decode cX12_given 39 = .ok (.aload_n 0, 1) := by decide +kernel
theorem dX12_given_40 : decode cX12_given 40 = .ok (.getfield 19, 3) := by decide +kernel
theorem dX12_given_43 : decode cX12_given 43 = .ok (.getfield 205, 3) := by decide +kernel
theorem dX12_given_46 : decode cX12_given 46 = .ok (.iload_n 3, 1) := by decide +kernel
theorem dX12_given_47 : decode cX12_given 47 = .ok (.iaload, 1) := by decide +kernel
theorem dX12_given_48 : decode cX12_given 48 = .ok (.iaload, 1) := by decide +kernel
theorem dX12_given_49 : decode cX12_given 49 = .ok (.ireturn, 1) := by decide +kernel
noncomputable def f_X12_given_30   (σ : jM) : Option (Int32 × jM) :=
  some ((-1), σ)
noncomputable def f_X12_given (a1 : Int32) (a2 : Int32) (a3 : Int32) (σ : jM) : Option (Int32 × jM) :=
  (if a2 < 0 then f_X12_given_30   σ else bd (f_X12_isSign a3 σ) (fun r4 σ5 => (if r4 = 0 then f_X12_given_30   σ5 else bd (f_X12_seeGrid a1 σ5) (fun r8 σ9 => (if r8 = 0 then f_X12_given_30   σ9 else bd (f_X8_findWay a2 σ9) (fun r12 σ13 => (if r12 = 0 then f_X12_given_30   σ13 else gd (inb a3 40) (gd (inb (rI σ13 18 (Int32.toNatClampNeg a3)) 40) (some ((rI σ13 298 (Int32.toNatClampNeg (rI σ13 18 (Int32.toNatClampNeg a3)))), σ13))))))))))
set_option maxRecDepth 20000 in
set_option maxHeartbeats 4000000 in
theorem t_X12_given_30   (σ : jM) (r : Int32 × jM)  (h : f_X12_given_30   σ = some r) : J mi_X12_given 16 0 0 (jqI r) 30 [] [] (ms σ) := by
  unfold f_X12_given_30 at h
  refine J_iconst (v := (-1)) dX12_given_30 (by decide) ?_
  exact J_ret (v := some (.int (-1))) rfl ⟨dX12_given_31, Or.inl rfl⟩ (jqI_mk h)
set_option maxRecDepth 20000 in
set_option maxHeartbeats 4000000 in
theorem t_X12_given {a1 : Int32} {a2 : Int32} {a3 : Int32} {σ : jM} {r : Int32 × jM}  (h : f_X12_given a1 a2 a3 σ = some r) : J mi_X12_given 16 0 0 (jqI r) 0 [(0, .ref 0), (1, .int a1), (2, .int a2), (3, .int a3)] [] (ms σ) := by
  unfold f_X12_given at h
  refine J_iload_n 2 dX12_given_0 rfl ?_
  refine J_if_lt (tgt := 30) dX12_given_1 (by decide) (fun c3 => ?_) (fun c3 => ?_)
  · have h := (if_pos c3).symm.trans h
    refine J_pick [] rfl ?_
    exact t_X12_given_30   _ _  h
  · have h := (if_neg c3).symm.trans h
    refine J_iload_n 3 dX12_given_4 rfl ?_
    obtain ⟨r4, σ5, h6, h⟩ := bd_inv h
    refine M_callSI (d' := 1) (As := [.int a3]) (st := []) cs_X12_144 dX12_given_5 rfl (Nat.le_of_ble_eq_true rfl) (Nat.le_of_ble_eq_true rfl) (by decide) rfl rfl (t_X12_isSign  h6) ?_
    refine J_if_eq (tgt := 30) dX12_given_8 (by decide) (fun c7 => ?_) (fun c7 => ?_)
    · have h := (if_pos c7).symm.trans h
      refine J_pick [] rfl ?_
      exact t_X12_given_30   _ _  h
    · have h := (if_neg c7).symm.trans h
      refine J_aload_n 0 dX12_given_11 rfl ?_
      refine J_iload_n 1 dX12_given_12 rfl ?_
      obtain ⟨r8, σ9, h10, h⟩ := bd_inv h
      refine M_callVI (d' := 7) (k := 0) (As := [.int a1]) (st := []) cv_X12_228 dX12_given_13 rfl (by decide) rfl (Nat.le_of_ble_eq_true rfl) (Nat.le_of_ble_eq_true rfl) (by decide) n_0 k_0 rfl rfl (t_X12_seeGrid  h10) ?_
      refine J_if_eq (tgt := 30) dX12_given_16 (by decide) (fun c11 => ?_) (fun c11 => ?_)
      · have h := (if_pos c11).symm.trans h
        refine J_pick [] rfl ?_
        exact t_X12_given_30   _ _  h
      · have h := (if_neg c11).symm.trans h
        refine J_aload_n 0 dX12_given_19 rfl ?_
        refine M_getR gf_X12_53_11 dX12_given_20 (g_0_4 _) k_0 n_0 ?_
        refine J_iload_n 2 dX12_given_23 rfl ?_
        obtain ⟨r12, σ13, h14, h⟩ := bd_inv h
        refine M_callVI (d' := 15) (k := 296) (As := [.int a2]) (st := []) cv_X12_297 dX12_given_24 rfl (by decide) rfl (Nat.le_of_ble_eq_true rfl) (Nat.le_of_ble_eq_true rfl) (by decide) n_296 k_296 rfl rfl (t_X8_findWay  h14) ?_
        refine J_if_ne (tgt := 32) dX12_given_27 (by decide) (fun c15 => ?_) (fun c15 => ?_)
        · have h := (if_neg c15).symm.trans h
          refine J_aload_n 0 dX12_given_32 rfl ?_
          refine M_getR gf_X12_53_11 dX12_given_33 (g_0_4 _) k_0 n_0 ?_
          refine M_getR gf_X12_303_7 dX12_given_36 (g_296_2 _) k_296 n_296 ?_
          refine J_aload_n 0 dX12_given_39 rfl ?_
          refine M_getR gf_X12_19_11 dX12_given_40 (g_0_0 _) k_0 n_0 ?_
          refine M_getR gf_X12_205_0 dX12_given_43 (g_3_11 _) k_3 n_3 ?_
          refine J_iload_n 3 dX12_given_46 rfl ?_
          obtain ⟨g16, h⟩ := gd_inv h
          refine M_iald dX12_given_47 a_18 n_18 g16 ?_
          obtain ⟨g17, h⟩ := gd_inv h
          refine M_iald dX12_given_48 a_298 n_298 g17 ?_
          exact J_ret (v := some (.int (rI σ13 298 (Int32.toNatClampNeg (rI σ13 18 (Int32.toNatClampNeg a3)))))) rfl ⟨dX12_given_49, Or.inl rfl⟩ (jqI_mk h)
        · have h := (if_pos c15).symm.trans h
          refine J_pick [] rfl ?_
          exact t_X12_given_30   _ _  h
theorem dX12_would_0 : decode cX12_would 0 = .ok (.aload_n 0, 1) := by decide +kernel
theorem dX12_would_1 : decode cX12_would 1 = .ok (.getfield 19, 3) := by decide +kernel
theorem dX12_would_4 : decode cX12_would 4 = .ok (.iload_n 2, 1) := by decide +kernel
theorem dX12_would_5 : decode cX12_would 5 = .ok (.invokevirtual 172, 3) := by decide +kernel
theorem dX12_would_8 : decode cX12_would 8 = .ok (.ifCond .eq 37, 3) := by decide +kernel
theorem dX12_would_11 : decode cX12_would 11 = .ok (.aload_n 0, 1) := by decide +kernel
theorem dX12_would_12 : decode cX12_would 12 = .ok (.getfield 26, 3) := by decide +kernel
theorem dX12_would_15 : decode cX12_would 15 = .ok (.invokevirtual 175, 3) := by decide +kernel
theorem dX12_would_18 : decode cX12_would 18 = .ok (.ifCond .eq 27, 3) := by decide +kernel
theorem dX12_would_21 : decode cX12_would 21 = .ok (.aload_n 0, 1) := by decide +kernel
theorem dX12_would_22 : decode cX12_would 22 = .ok (.iload_n 1, 1) := by decide +kernel
theorem dX12_would_23 : decode cX12_would 23 = .ok (.invokevirtual 228, 3) := by decide +kernel
theorem dX12_would_26 : decode cX12_would 26 = .ok (.ifCond .eq 19, 3) := by decide +kernel
theorem dX12_would_29 : decode cX12_would 29 = .ok (.aload_n 0, 1) := by decide +kernel
theorem dX12_would_30 : decode cX12_would 30 = .ok (.getfield 19, 3) := by decide +kernel
theorem dX12_would_33 : decode cX12_would 33 = .ok (.getfield 81, 3) := by decide +kernel
theorem dX12_would_36 : decode cX12_would 36 = .ok (.iload_n 2, 1) := by decide +kernel
theorem dX12_would_37 : decode cX12_would 37 = .ok (.aaload, 1) := by decide +kernel
theorem dX12_would_38 : decode cX12_would 38 = .ok (.iload_n 1, 1) := by decide +kernel
theorem dX12_would_39 : decode cX12_would 39 = .ok (.invokevirtual 322, 3) := by decide +kernel
theorem dX12_would_42 : decode cX12_would 42 = .ok (.ifCond .ne 5, 3) := by decide +kernel
theorem dX12_would_45 : decode cX12_would 45 = .ok (.iconst (-1), 1) := by decide +kernel
theorem dX12_would_46 : decode cX12_would 46 = .ok (.ireturn, 1) := by decide +kernel
theorem dX12_would_47 : decode cX12_would 47 = .ok (.aload_n 0, 1) := by decide +kernel
theorem dX12_would_48 : decode cX12_would 48 = .ok (.getfield 53, 3) := by decide +kernel
theorem dX12_would_51 : decode cX12_would 51 = .ok (.iconst 0, 1) := by decide +kernel
theorem dX12_would_52 : decode cX12_would 52 = .ok (.invokevirtual 325, 3) := by decide +kernel
theorem dX12_would_55 : decode cX12_would 55 = .ok (.aload_n 0, 1) := by decide +kernel
theorem dX12_would_56 : decode cX12_would 56 = .ok (.getfield 53, 3) := by decide +kernel
theorem dX12_would_59 : decode cX12_would 59 = .ok (.aload_n 0, 1) := by decide +kernel
theorem dX12_would_60 : decode cX12_would 60 = .ok (.getfield 26, 3) := by decide +kernel
theorem dX12_would_63 : decode cX12_would 63 = .ok (.getfield 183, 3) := by decide +kernel
theorem dX12_would_66 : decode cX12_would 66 = .ok (.aload_n 0, 1) := by decide +kernel
theorem dX12_would_67 : decode cX12_would 67 = .ok (.getfield 26, 3) := by decide +kernel
theorem dX12_would_70 : decode cX12_would 70 = .ok (.getfield 71, 3) := by decide +kernel
theorem dX12_would_73 : decode cX12_would 73 = .ok (.invokevirtual 328, 3) := by decide +kernel
theorem dX12_would_76 : decode cX12_would 76 = .ok (.aload_n 0, 1) := by decide +kernel
theorem dX12_would_77 : decode cX12_would 77 = .ok (.getfield 26, 3) := by decide +kernel
theorem dX12_would_80 : decode cX12_would 80 = .ok (.iconst 0, 1) := by decide +kernel
theorem dX12_would_81 : decode cX12_would 81 = .ok (.putfield 71, 3) := by decide +kernel
theorem dX12_would_84 : decode cX12_would 84 = .ok (.aload_n 0, 1) := by decide +kernel
theorem dX12_would_85 : decode cX12_would 85 = .ok (.getfield 53, 3) := by decide +kernel
theorem dX12_would_88 : decode cX12_would 88 = .ok (.iload_n 2, 1) := by decide +kernel
theorem dX12_would_89 : decode cX12_would 89 = .ok (.ldc_w 332, 3) := by decide +kernel
theorem dX12_would_92 : decode cX12_would 92 = .ok (.invokevirtual 333, 3) := by decide +kernel
theorem dX12_would_95 : decode cX12_would 95 = .ok (.ireturn, 1) := by decide +kernel
noncomputable def f_X12_would_45   (σ : jM) : Option (Int32 × jM) :=
  some ((-1), σ)
noncomputable def f_X12_would (a1 : Int32) (a2 : Int32) (σ : jM) : Option (Int32 × jM) :=
  bd (f_X0_hasTablet a2 σ) (fun r2 σ3 => (if r2 = 0 then f_X12_would_45   σ3 else bd (f_X11_isName  σ3) (fun r6 σ7 => (if r6 = 0 then f_X12_would_45   σ7 else bd (f_X12_seeGrid a1 σ7) (fun r10 σ11 => (if r10 = 0 then f_X12_would_45   σ11 else gd (inb a2 24) (bd (f_countsOn_9 (tabX (Int32.toNatClampNeg a2)) a1 σ11) (fun r15 σ16 => (if r15 = 0 then f_X12_would_45   σ16 else bd (f_X8_seatNames 0 σ16) (fun _ σ20 => bd (f_X8_seatNew 263 (rI σ20 262 1) σ20) (fun _ σ23 => bd (f_X8_waysWithNewAt a2 2147483647 (wI σ23 262 1 0)) (fun r25 σ26 => some (r25, σ26)))))))))))))
set_option maxRecDepth 20000 in
set_option maxHeartbeats 4000000 in
theorem t_X12_would_45   (σ : jM) (r : Int32 × jM)  (h : f_X12_would_45   σ = some r) : J mi_X12_would 16 0 0 (jqI r) 45 [] [] (ms σ) := by
  unfold f_X12_would_45 at h
  refine J_iconst (v := (-1)) dX12_would_45 (by decide) ?_
  exact J_ret (v := some (.int (-1))) rfl ⟨dX12_would_46, Or.inl rfl⟩ (jqI_mk h)
set_option maxRecDepth 20000 in
set_option maxHeartbeats 4000000 in
theorem t_X12_would {a1 : Int32} {a2 : Int32} {σ : jM} {r : Int32 × jM}  (h : f_X12_would a1 a2 σ = some r) : J mi_X12_would 16 0 0 (jqI r) 0 [(0, .ref 0), (1, .int a1), (2, .int a2)] [] (ms σ) := by
  unfold f_X12_would at h
  refine J_aload_n 0 dX12_would_0 rfl ?_
  refine M_getR gf_X12_19_11 dX12_would_1 (g_0_0 _) k_0 n_0 ?_
  refine J_iload_n 2 dX12_would_4 rfl ?_
  obtain ⟨r2, σ3, h4, h⟩ := bd_inv h
  refine M_callVI (d' := 1) (k := 3) (As := [.int a2]) (st := []) cv_X12_172 dX12_would_5 rfl (by decide) rfl (Nat.le_of_ble_eq_true rfl) (Nat.le_of_ble_eq_true rfl) (by decide) n_3 k_3 rfl rfl (t_X0_hasTablet  h4) ?_
  refine J_if_eq (tgt := 45) dX12_would_8 (by decide) (fun c5 => ?_) (fun c5 => ?_)
  · have h := (if_pos c5).symm.trans h
    refine J_pick [] rfl ?_
    exact t_X12_would_45   _ _  h
  · have h := (if_neg c5).symm.trans h
    refine J_aload_n 0 dX12_would_11 rfl ?_
    refine M_getR gf_X12_26_11 dX12_would_12 (g_0_1 _) k_0 n_0 ?_
    obtain ⟨r6, σ7, h8, h⟩ := bd_inv h
    refine M_callVI (d' := 2) (k := 262) (As := []) (st := []) cv_X12_175 dX12_would_15 rfl (by decide) rfl (Nat.le_of_ble_eq_true rfl) (Nat.le_of_ble_eq_true rfl) (by decide) n_262 k_262 rfl rfl (t_X11_isName  h8) ?_
    refine J_if_eq (tgt := 45) dX12_would_18 (by decide) (fun c9 => ?_) (fun c9 => ?_)
    · have h := (if_pos c9).symm.trans h
      refine J_pick [] rfl ?_
      exact t_X12_would_45   _ _  h
    · have h := (if_neg c9).symm.trans h
      refine J_aload_n 0 dX12_would_21 rfl ?_
      refine J_iload_n 1 dX12_would_22 rfl ?_
      obtain ⟨r10, σ11, h12, h⟩ := bd_inv h
      refine M_callVI (d' := 7) (k := 0) (As := [.int a1]) (st := []) cv_X12_228 dX12_would_23 rfl (by decide) rfl (Nat.le_of_ble_eq_true rfl) (Nat.le_of_ble_eq_true rfl) (by decide) n_0 k_0 rfl rfl (t_X12_seeGrid  h12) ?_
      refine J_if_eq (tgt := 45) dX12_would_26 (by decide) (fun c13 => ?_) (fun c13 => ?_)
      · have h := (if_pos c13).symm.trans h
        refine J_pick [] rfl ?_
        exact t_X12_would_45   _ _  h
      · have h := (if_neg c13).symm.trans h
        refine J_aload_n 0 dX12_would_29 rfl ?_
        refine M_getR gf_X12_19_11 dX12_would_30 (g_0_0 _) k_0 n_0 ?_
        refine M_getR gf_X12_81_0 dX12_would_33 (g_3_1 _) k_3 n_3 ?_
        refine J_iload_n 2 dX12_would_36 rfl ?_
        obtain ⟨g14, h⟩ := gd_inv h
        refine M_aald dX12_would_37 a_4 (by decide) n_4 g14 (r_tab _ g14.2) ?_
        refine J_iload_n 1 dX12_would_38 rfl ?_
        obtain ⟨r15, σ16, h17, h⟩ := bd_inv h
        refine M_callU (d' := 1) (k := (tabX (Int32.toNatClampNeg a2))) (As := [.int a1]) (st := []) cu_X12_322_9 dX12_would_39 rfl (Nat.le_of_ble_eq_true rfl) (Nat.le_of_ble_eq_true rfl) (by decide) (n_tab g14.2) (k_tab g14.2) rfl rfl (t_countsOn_9 (k_tab g14.2) (n_tab g14.2) h17) ?_
        refine J_if_ne (tgt := 47) dX12_would_42 (by decide) (fun c18 => ?_) (fun c18 => ?_)
        · have h := (if_neg c18).symm.trans h
          refine J_aload_n 0 dX12_would_47 rfl ?_
          refine M_getR gf_X12_53_11 dX12_would_48 (g_0_4 _) k_0 n_0 ?_
          refine J_iconst (v := 0) dX12_would_51 (by decide) ?_
          obtain ⟨_, σ20, h21, h⟩ := bd_inv h
          refine M_callVV (d' := 4) (k := 296) (As := [.int 0]) (st := []) cv_X12_325 dX12_would_52 rfl (by decide) rfl (Nat.le_of_ble_eq_true rfl) (Nat.le_of_ble_eq_true rfl) (by decide) n_296 k_296 rfl rfl (t_X8_seatNames  h21) ?_
          refine J_aload_n 0 dX12_would_55 rfl ?_
          refine M_getR gf_X12_53_11 dX12_would_56 (g_0_4 _) k_0 n_0 ?_
          refine J_aload_n 0 dX12_would_59 rfl ?_
          refine M_getR gf_X12_26_11 dX12_would_60 (g_0_1 _) k_0 n_0 ?_
          refine M_getR gf_X12_183_10 dX12_would_63 (g_262_0 _) k_262 n_262 ?_
          refine J_aload_n 0 dX12_would_66 rfl ?_
          refine M_getR gf_X12_26_11 dX12_would_67 (g_0_1 _) k_0 n_0 ?_
          refine M_getI gf_X12_71_10 dX12_would_70 k_262 n_262 ?_
          obtain ⟨_, σ23, h24, h⟩ := bd_inv h
          refine M_callVV (d' := 4) (k := 296) (As := [.ref 263, .int (rI σ20 262 1)]) (st := []) cv_X12_328 dX12_would_73 rfl (by decide) rfl (Nat.le_of_ble_eq_true rfl) (Nat.le_of_ble_eq_true rfl) (by decide) n_296 k_296 rfl rfl (t_X8_seatNew ⟨congrArg Prod.fst a_263, n_263⟩ h24) ?_
          refine J_aload_n 0 dX12_would_76 rfl ?_
          refine M_getR gf_X12_26_11 dX12_would_77 (g_0_1 _) k_0 n_0 ?_
          refine J_iconst (v := 0) dX12_would_80 (by decide) ?_
          refine M_putI pf_X12_71_10 dX12_would_81 k_262 n_262 ⟨rfl, rfl⟩ ?_
          refine J_aload_n 0 dX12_would_84 rfl ?_
          refine M_getR gf_X12_53_11 dX12_would_85 (g_0_4 _) k_0 n_0 ?_
          refine J_iload_n 2 dX12_would_88 rfl ?_
          refine J_ldcw dX12_would_89 ct_X12_332 ?_
          obtain ⟨r25, σ26, h27, h⟩ := bd_inv h
          refine M_callVI (d' := 15) (k := 296) (As := [.int a2, .int 2147483647]) (st := []) cv_X12_333 dX12_would_92 rfl (by decide) rfl (Nat.le_of_ble_eq_true rfl) (Nat.le_of_ble_eq_true rfl) (by decide) n_296 k_296 rfl rfl (t_X8_waysWithNewAt  h27) ?_
          exact J_ret (v := some (.int r25)) rfl ⟨dX12_would_95, Or.inl rfl⟩ (jqI_mk h)
        · have h := (if_pos c18).symm.trans h
          refine J_pick [] rfl ?_
          exact t_X12_would_45   _ _  h
