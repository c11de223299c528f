theorem dX8_note_0 : decode cX8_note 0 = .ok (.iconst 0, 1) := by decide +kernel
theorem dX8_note_1 : decode cX8_note 1 = .ok (.istore_n 3, 1) := by decide +kernel
theorem dX8_note_2 : decode cX8_note 2 = .ok (.iload_n 3, 1) := by decide +kernel
theorem dX8_note_3 : decode cX8_note 3 = .ok (.aload_n 0, 1) := by decide +kernel
theorem dX8_note_4 : decode cX8_note 4 = .ok (.getfield 38, 3) := by decide +kernel
theorem dX8_note_7 : decode cX8_note 7 = .ok (.iload_n 1, 1) := by decide +kernel
theorem dX8_note_8 : decode cX8_note 8 = .ok (.iaload, 1) := by decide +kernel
theorem dX8_note_9 : decode cX8_note 9 = .ok (.if_icmp .ge 66, 3) := by decide +kernel
theorem dX8_note_12 : decode cX8_note 12 = .ok (.aload_n 0, 1) := by decide +kernel
theorem dX8_note_13 : decode cX8_note 13 = .ok (.getfield 35, 3) := by decide +kernel
theorem dX8_note_16 : decode cX8_note 16 = .ok (.iload_n 1, 1) := by decide +kernel
theorem dX8_note_17 : decode cX8_note 17 = .ok (.aaload, 1) := by decide +kernel
theorem dX8_note_18 : decode cX8_note 18 = .ok (.iload_n 3, 1) := by decide +kernel
theorem dX8_note_19 : decode cX8_note 19 = .ok (.iaload, 1) := by decide +kernel
theorem dX8_note_20 : decode cX8_note 20 = .ok (.istore 4, 2) := by decide +kernel
theorem dX8_note_22 : decode cX8_note 22 = .ok (.aload_n 0, 1) := by decide +kernel
theorem dX8_note_23 : decode cX8_note 23 = .ok (.getfield 15, 3) := by decide +kernel
theorem dX8_note_26 : decode cX8_note 26 = .ok (.iload 4, 2) := by decide +kernel
theorem dX8_note_28 : decode cX8_note 28 = .ok (.iaload, 1) := by decide +kernel
theorem dX8_note_29 : decode cX8_note 29 = .ok (.iconst (-1), 1) := by decide +kernel
theorem dX8_note_30 : decode cX8_note 30 = .ok (.if_icmp .eq 39, 3) := by decide +kernel
theorem dX8_note_33 : decode cX8_note 33 = .ok (.aload_n 0, 1) := by decide +kernel
theorem dX8_note_34 : decode cX8_note 34 = .ok (.getfield 9, 3) := by decide +kernel
theorem dX8_note_37 : decode cX8_note 37 = .ok (.iload 4, 2) := by decide +kernel
theorem dX8_note_39 : decode cX8_note 39 = .ok (.sipush 135, 3) := by decide +kernel
theorem dX8_note_42 : decode cX8_note 42 = .ok (.imul, 1) := by decide +kernel
theorem dX8_note_43 : decode cX8_note 43 = .ok (.aload_n 0, 1) := by decide +kernel
theorem dX8_note_44 : decode cX8_note 44 = .ok (.getfield 15, 3) := by decide +kernel
theorem dX8_note_47 : decode cX8_note 47 = .ok (.iload 4, 2) := by decide +kernel
theorem dX8_note_49 : decode cX8_note 49 = .ok (.iaload, 1) := by decide +kernel
theorem dX8_note_50 : decode cX8_note 50 = .ok (.iadd, 1) := by decide +kernel
theorem dX8_note_51 : decode cX8_note 51 = .ok (.dup2, 1) := by decide +kernel
theorem dX8_note_52 : decode cX8_note 52 = .ok (.iaload, 1) := by decide +kernel
theorem dX8_note_53 : decode cX8_note 53 = .ok (.iload_n 2, 1) := by decide +kernel
theorem dX8_note_54 : decode cX8_note 54 = .ok (.iadd, 1) := by decide +kernel
theorem dX8_note_55 : decode cX8_note 55 = .ok (.iastore, 1) := by decide +kernel
theorem dX8_note_56 : decode cX8_note 56 = .ok (.aload_n 0, 1) := by decide +kernel
theorem dX8_note_57 : decode cX8_note 57 = .ok (.dup, 1) := by decide +kernel
theorem dX8_note_58 : decode cX8_note 58 = .ok (.getfield 107, 3) := by decide +kernel
theorem dX8_note_61 : decode cX8_note 61 = .ok (.lconst 1, 1) := by decide +kernel
theorem dX8_note_62 : decode cX8_note 62 = .ok (.iload 4, 2) := by decide +kernel
theorem dX8_note_64 : decode cX8_note 64 = .ok (.lshl, 1) := by decide +kernel
theorem dX8_note_65 : decode cX8_note 65 = .ok (.lor, 1) := by decide +kernel
theorem dX8_note_66 : decode cX8_note 66 = .ok (.putfield 107, 3) := by decide +kernel
theorem dX8_note_69 : decode cX8_note 69 = .ok (.iinc 3 1, 3) := by decide +kernel
theorem dX8_note_72 : decode cX8_note 72 = .ok (.goto (-70), 3) := by decide +kernel
theorem dX8_note_75 : decode cX8_note 75 = .ok (.return_, 1) := by decide +kernel
noncomputable def f_X8_note_69 (rec2 : Int32 → Int32 → Int32 → jM → Option (Unit × jM)) (l1 : Int32) (l2 : Int32) (l3 : Int32) (σ : jM) : Option (Unit × jM) :=
  rec2 l1 l2 (l3 + 1) σ
noncomputable def s_X8_note_2  (rec2 : Int32 → Int32 → Int32 → jM → Option (Unit × jM)) (l1 : Int32) (l2 : Int32) (l3 : Int32) (σ : jM) : Option (Unit × jM) :=
  gd (inb l1 7) ((if (rI σ 319 (Int32.toNatClampNeg l1)) ≤ l3 then some ((), σ) else gd (inb l1 7) (gd (inb l3 6) (gd (inb (rI σ (312 + (Int32.toNatClampNeg l1)) (Int32.toNatClampNeg l3)) 40) ((if (rI σ 298 (Int32.toNatClampNeg (rI σ (312 + (Int32.toNatClampNeg l1)) (Int32.toNatClampNeg l3)))) = (-1) then f_X8_note_69 rec2 l1 l2 l3 σ else gd (inb (rI σ (312 + (Int32.toNatClampNeg l1)) (Int32.toNatClampNeg l3)) 40) (gd (inb (((rI σ (312 + (Int32.toNatClampNeg l1)) (Int32.toNatClampNeg l3)) * 135) + (rI σ 298 (Int32.toNatClampNeg (rI σ (312 + (Int32.toNatClampNeg l1)) (Int32.toNatClampNeg l3))))) 5400) (gd (inb (((rI σ (312 + (Int32.toNatClampNeg l1)) (Int32.toNatClampNeg l3)) * 135) + (rI σ 298 (Int32.toNatClampNeg (rI σ (312 + (Int32.toNatClampNeg l1)) (Int32.toNatClampNeg l3))))) 5400) (f_X8_note_69 rec2 l1 l2 l3 (wL (wI σ 297 (Int32.toNatClampNeg (((rI σ (312 + (Int32.toNatClampNeg l1)) (Int32.toNatClampNeg l3)) * 135) + (rI σ 298 (Int32.toNatClampNeg (rI σ (312 + (Int32.toNatClampNeg l1)) (Int32.toNatClampNeg l3)))))) ((rI σ 297 (Int32.toNatClampNeg (((rI σ (312 + (Int32.toNatClampNeg l1)) (Int32.toNatClampNeg l3)) * 135) + (rI σ 298 (Int32.toNatClampNeg (rI σ (312 + (Int32.toNatClampNeg l1)) (Int32.toNatClampNeg l3))))))) + l2)) 296 1 ((rL (wI σ 297 (Int32.toNatClampNeg (((rI σ (312 + (Int32.toNatClampNeg l1)) (Int32.toNatClampNeg l3)) * 135) + (rI σ 298 (Int32.toNatClampNeg (rI σ (312 + (Int32.toNatClampNeg l1)) (Int32.toNatClampNeg l3)))))) ((rI σ 297 (Int32.toNatClampNeg (((rI σ (312 + (Int32.toNatClampNeg l1)) (Int32.toNatClampNeg l3)) * 135) + (rI σ 298 (Int32.toNatClampNeg (rI σ (312 + (Int32.toNatClampNeg l1)) (Int32.toNatClampNeg l3))))))) + l2)) 296 1) ||| (jlshl 1 (rI σ (312 + (Int32.toNatClampNeg l1)) (Int32.toNatClampNeg l3))))))))))))))
noncomputable def f_X8_note_2  (n : Nat) : Int32 → Int32 → Int32 → jM → Option (Unit × jM) := Nat.rec (motive := fun _ => Int32 → Int32 → Int32 → jM → Option (Unit × jM)) (fun _ _ _ _ => none) (fun _ q => s_X8_note_2  q) n
noncomputable def f_X8_note (a1 : Int32) (a2 : Int32) (σ : jM) : Option (Unit × jM) :=
  f_X8_note_2  Fu a1 a2 0 σ
set_option maxRecDepth 20000 in
set_option maxHeartbeats 4000000 in
theorem t_X8_note_69 {rec2 : Int32 → Int32 → Int32 → jM → Option (Unit × jM)} (hrec2 : ∀ (l1 : Int32) (l2 : Int32) (l3 : Int32) (σ : jM) (r : Unit × jM), rec2 l1 l2 l3 σ = some r → J mi_X8_note 1 0 0 (jqV r) 2 [(0, .ref 296), (1, .int l1), (2, .int l2), (3, .int l3)] [] (ms σ)) (l1 : Int32) (l2 : Int32) (l3 : Int32) (σ : jM) (r : Unit × jM)  (h : f_X8_note_69 rec2 l1 l2 l3 σ = some r) : J mi_X8_note 1 0 0 (jqV r) 69 [(0, .ref 296), (1, .int l1), (2, .int l2), (3, .int l3)] [] (ms σ) := by
  unfold f_X8_note_69 at h
  refine J_iinc (v := (l3 + 1)) (ls' := [(3, .int (l3 + 1)), (0, .ref 296), (1, .int l1), (2, .int l2)]) 3 dX8_note_69 rfl rfl (by decide) rfl ?_
  refine J_goto (tgt := 2) dX8_note_72 (by decide) ?_
  refine J_pick [1, 2, 3, 0] rfl ?_
  exact hrec2 _ _ _ _ _  h
set_option maxRecDepth 20000 in
set_option maxHeartbeats 4000000 in
theorem t_X8_note_2  : ∀ (n : Nat) (l1 : Int32) (l2 : Int32) (l3 : Int32) (σ : jM) (r : Unit × jM), f_X8_note_2  n l1 l2 l3 σ = some r → J mi_X8_note 1 0 0 (jqV r) 2 [(0, .ref 296), (1, .int l1), (2, .int l2), (3, .int l3)] [] (ms σ) := by
  intro n
  induction n with
  | zero =>
    intro l1 l2 l3 σ r  h
    have h : (none : Option (Unit × jM)) = some r := h
    cases h
  | succ n ih =>
    intro l1 l2 l3 σ r  h
    have h : s_X8_note_2  (f_X8_note_2  n) l1 l2 l3 σ = some r := h
    unfold s_X8_note_2 at h
    refine J_iload_n 3 dX8_note_2 rfl ?_
    refine J_aload_n 0 dX8_note_3 rfl ?_
    refine M_getR gf_X8_38_7 dX8_note_4 (g_296_12 _) k_296 n_296 ?_
    refine J_iload_n 1 dX8_note_7 rfl ?_
    obtain ⟨g17, h⟩ := gd_inv h
    refine M_iald dX8_note_8 a_319 n_319 g17 ?_
    refine J_icmp_ge (tgt := 75) dX8_note_9 (by decide) (fun c18 => ?_) (fun c18 => ?_)
    · have h := (if_pos c18).symm.trans h
      exact J_ret (v := none) rfl ⟨dX8_note_75, rfl⟩ (jqV_mk h)
    · have h := (if_neg c18).symm.trans h
      refine J_aload_n 0 dX8_note_12 rfl ?_
      refine M_getR gf_X8_35_7 dX8_note_13 (g_296_11 _) k_296 n_296 ?_
      refine J_iload_n 1 dX8_note_16 rfl ?_
      obtain ⟨g19, h⟩ := gd_inv h
      refine M_aald dX8_note_17 a_311 (by decide) n_311 g19 (r_row311 _ g19.2) ?_
      refine J_iload_n 3 dX8_note_18 rfl ?_
      obtain ⟨g20, h⟩ := gd_inv h
      refine M_iald dX8_note_19 (a_row311 g19.2) (na_row311 g19.2) g20 ?_
      refine J_istore (i := 4) (ls' := [(4, .int (rI σ (312 + (Int32.toNatClampNeg l1)) (Int32.toNatClampNeg l3))), (0, .ref 296), (1, .int l1), (2, .int l2), (3, .int l3)]) dX8_note_20 (by decide) rfl ?_
      refine J_aload_n 1 dX8_note_22 rfl ?_
      refine M_getR gf_X8_15_7 dX8_note_23 (g_296_2 _) k_296 n_296 ?_
      refine J_iload 0 dX8_note_26 rfl ?_
      obtain ⟨g21, h⟩ := gd_inv h
      refine M_iald dX8_note_28 a_298 n_298 g21 ?_
      refine J_iconst (v := (-1)) dX8_note_29 (by decide) ?_
      refine J_icmp_eq (tgt := 69) dX8_note_30 (by decide) (fun c22 => ?_) (fun c22 => ?_)
      · have h := (if_pos c22).symm.trans h
        refine J_pick [1, 2, 3, 4] rfl ?_
        exact t_X8_note_69 ih _ _ _ _ _  h
      · have h := (if_neg c22).symm.trans h
        refine J_aload_n 1 dX8_note_33 rfl ?_
        refine M_getR gf_X8_9_7 dX8_note_34 (g_296_0 _) k_296 n_296 ?_
        refine J_iload 0 dX8_note_37 rfl ?_
        refine J_sipush (v := 135) dX8_note_39 (by decide) ?_
        refine J_imul dX8_note_42 ?_
        refine J_aload_n 1 dX8_note_43 rfl ?_
        refine M_getR gf_X8_15_7 dX8_note_44 (g_296_2 _) k_296 n_296 ?_
        refine J_iload 0 dX8_note_47 rfl ?_
        obtain ⟨g23, h⟩ := gd_inv h
        refine M_iald dX8_note_49 a_298 n_298 g23 ?_
        refine J_iadd dX8_note_50 ?_
        refine J_dup2 dX8_note_51 rfl rfl ?_
        obtain ⟨g24, h⟩ := gd_inv h
        refine M_iald dX8_note_52 a_297 n_297 g24 ?_
        refine J_iload_n 3 dX8_note_53 rfl ?_
        refine J_iadd dX8_note_54 ?_
        obtain ⟨g25, h⟩ := gd_inv h
        refine M_iast dX8_note_55 a_297 n_297 g25 ?_
        refine J_aload_n 1 dX8_note_56 rfl ?_
        refine J_dup dX8_note_57 rfl ?_
        refine M_getL gf_X8_107_7 dX8_note_58 k_296 n_296 ?_
        refine J_lconst (v := 1) dX8_note_61 (by decide) ?_
        refine J_iload 0 dX8_note_62 rfl ?_
        refine J_lshl dX8_note_64 ?_
        refine J_lor dX8_note_65 ?_
        refine M_putL pf_X8_107_7 dX8_note_66 k_296 n_296 ?_
        refine J_pick [1, 2, 3, 4] rfl ?_
        exact t_X8_note_69 ih _ _ _ _ _  h
set_option maxRecDepth 20000 in
set_option maxHeartbeats 4000000 in
theorem t_X8_note {a1 : Int32} {a2 : Int32} {σ : jM} {r : Unit × jM}  (h : f_X8_note a1 a2 σ = some r) : J mi_X8_note 1 0 0 (jqV r) 0 [(0, .ref 296), (1, .int a1), (2, .int a2)] [] (ms σ) := by
  unfold f_X8_note at h
  refine J_iconst (v := 0) dX8_note_0 (by decide) ?_
  refine J_istore_n (i := 3) (ls' := [(3, .int 0), (0, .ref 296), (1, .int a1), (2, .int a2)]) dX8_note_1 rfl (by decide) rfl ?_
  refine J_pick [1, 2, 3, 0] rfl ?_
  exact t_X8_note_2  _ _ _ _ _ _  h
theorem dX9_tell_0 : decode cX9_tell 0 = .ok (.aload_n 0, 1) := by decide +kernel
theorem dX9_tell_1 : decode cX9_tell 1 = .ok (.iload_n 1, 1) := by decide +kernel
theorem dX9_tell_2 : decode cX9_tell 2 = .ok (.putfield 7, 3) := by decide +kernel
theorem dX9_tell_5 : decode cX9_tell 5 = .ok (.aload_n 0, 1) := by decide +kernel
theorem dX9_tell_6 : decode cX9_tell 6 = .ok (.iload_n 2, 1) := by decide +kernel
theorem dX9_tell_7 : decode cX9_tell 7 = .ok (.putfield 13, 3) := by decide +kernel
theorem dX9_tell_10 : decode cX9_tell 10 = .ok (.aload_n 0, 1) := by decide +kernel
theorem dX9_tell_11 : decode cX9_tell 11 = .ok (.iload_n 3, 1) := by decide +kernel
theorem dX9_tell_12 : decode cX9_tell 12 = .ok (.putfield 16, 3) := by decide +kernel
theorem dX9_tell_15 : decode cX9_tell 15 = .ok (.aload_n 0, 1) := by decide +kernel
theorem dX9_tell_16 : decode cX9_tell 16 = .ok (.iload 4, 2) := by decide +kernel
theorem dX9_tell_18 : decode cX9_tell 18 = .ok (.putfield 19, 3) := by decide +kernel
theorem dX9_tell_21 : decode cX9_tell 21 = .ok (.return_, 1) := by decide +kernel
noncomputable def f_X9_tell (t0 : Nat) (a1 : Int32) (a2 : Int32) (a3 : Int32) (a4 : Int32) (σ : jM) : Option (Unit × jM) :=
  gd (a4 = 0 ∨ a4 = 1) (some ((), wI (wI (wI (wI σ (shaX t0) 2 a1) (shaX t0) 3 a2) (shaX t0) 4 a3) (shaX t0) 5 a4))
set_option maxRecDepth 20000 in
set_option maxHeartbeats 4000000 in
theorem t_X9_tell {t0 : Nat} {a1 : Int32} {a2 : Int32} {a3 : Int32} {a4 : Int32} {σ : jM} {r : Unit × jM} (h0 : t0 < 60) (h : f_X9_tell t0 a1 a2 a3 a4 σ = some r) : J mi_X9_tell 1 0 0 (jqV r) 0 [(0, .ref (shaX t0)), (1, .int a1), (2, .int a2), (3, .int a3), (4, .int a4)] [] (ms σ) := by
  unfold f_X9_tell at h
  refine J_aload_n 0 dX9_tell_0 rfl ?_
  refine J_iload_n 1 dX9_tell_1 rfl ?_
  refine M_putI pf_X9_7_8 dX9_tell_2 (k_sha h0) (n_sha h0) ⟨rfl, rfl⟩ ?_
  refine J_aload_n 0 dX9_tell_5 rfl ?_
  refine J_iload_n 2 dX9_tell_6 rfl ?_
  refine M_putI pf_X9_13_8 dX9_tell_7 (k_sha h0) (n_sha h0) ⟨rfl, rfl⟩ ?_
  refine J_aload_n 0 dX9_tell_10 rfl ?_
  refine J_iload_n 3 dX9_tell_11 rfl ?_
  refine M_putI pf_X9_16_8 dX9_tell_12 (k_sha h0) (n_sha h0) ⟨rfl, rfl⟩ ?_
  refine J_aload_n 0 dX9_tell_15 rfl ?_
  refine J_iload 4 dX9_tell_16 rfl ?_
  obtain ⟨g2, h⟩ := gd_inv h
  refine M_putI pf_X9_19_8 dX9_tell_18 (k_sha h0) (n_sha h0) (jbool g2) ?_
  exact J_ret (v := none) rfl ⟨dX9_tell_21, rfl⟩ (jqV_mk h)
theorem dX10_signAt_0 : decode cX10_signAt 0 = .ok (.aload_n 0, 1) := by decide +kernel
theorem dX10_signAt_1 : decode cX10_signAt 1 = .ok (.getfield 15, 3) := by decide +kernel
theorem dX10_signAt_4 : decode cX10_signAt 4 = .ok (.iload_n 1, 1) := by decide +kernel
theorem dX10_signAt_5 : decode cX10_signAt 5 = .ok (.bipush 6, 2) := by decide +kernel
theorem dX10_signAt_7 : decode cX10_signAt 7 = .ok (.imul, 1) := by decide +kernel
theorem dX10_signAt_8 : decode cX10_signAt 8 = .ok (.iload_n 2, 1) := by decide +kernel
theorem dX10_signAt_9 : decode cX10_signAt 9 = .ok (.iadd, 1) := by decide +kernel
theorem dX10_signAt_10 : decode cX10_signAt 10 = .ok (.iaload, 1) := by decide +kernel
theorem dX10_signAt_11 : decode cX10_signAt 11 = .ok (.ireturn, 1) := by decide +kernel
noncomputable def f_X10_signAt (t0 : Nat) (a1 : Int32) (a2 : Int32) (σ : jM) : Option (Int32 × jM) :=
  gd (inb ((a1 * 6) + a2) 48) (some ((rI σ (tabX t0 + 2) (Int32.toNatClampNeg ((a1 * 6) + a2))), σ))
set_option maxRecDepth 20000 in
set_option maxHeartbeats 4000000 in
theorem t_X10_signAt {t0 : Nat} {a1 : Int32} {a2 : Int32} {σ : jM} {r : Int32 × jM} (h0 : t0 < 24) (h : f_X10_signAt t0 a1 a2 σ = some r) : J mi_X10_signAt 1 0 0 (jqI r) 0 [(0, .ref (tabX t0)), (1, .int a1), (2, .int a2)] [] (ms σ) := by
  unfold f_X10_signAt at h
  refine J_aload_n 0 dX10_signAt_0 rfl ?_
  refine M_getR gf_X10_15_9 dX10_signAt_1 (g_tab4 _ h0) (k_tab h0) (n_tab h0) ?_
  refine J_iload_n 1 dX10_signAt_4 rfl ?_
  refine J_bipush (v := 6) dX10_signAt_5 (by decide) ?_
  refine J_imul dX10_signAt_7 ?_
  refine J_iload_n 2 dX10_signAt_8 rfl ?_
  refine J_iadd dX10_signAt_9 ?_
  obtain ⟨g2, h⟩ := gd_inv h
  refine M_iald dX10_signAt_10 (a_tab4 h0) (na_tab4 h0) g2 ?_
  exact J_ret (v := some (.int (rI σ (tabX t0 + 2) (Int32.toNatClampNeg ((a1 * 6) + a2))))) rfl ⟨dX10_signAt_11, Or.inl rfl⟩ (jqI_mk h)
theorem dX11_takeBytes_0 : decode cX11_takeBytes 0 = .ok (.bipush 24, 2) := by decide +kernel
theorem dX11_takeBytes_2 : decode cX11_takeBytes 2 = .ok (.istore_n 2, 1) := by decide +kernel
theorem dX11_takeBytes_3 : decode cX11_takeBytes 3 = .ok (.iload_n 2, 1) := by decide +kernel
theorem dX11_takeBytes_4 : decode cX11_takeBytes 4 = .ok (.ifCond .lt 45, 3) := by decide +kernel
theorem dX11_takeBytes_7 : decode cX11_takeBytes 7 = .ok (.aload_n 0, 1) := by decide +kernel
theorem dX11_takeBytes_8 : decode cX11_takeBytes 8 = .ok (.getfield 19, 3) := by decide +kernel
theorem dX11_takeBytes_11 : decode cX11_takeBytes 11 = .ok (.sipush 300, 3) := by decide +kernel
theorem dX11_takeBytes_14 : decode cX11_takeBytes 14 = .ok (.if_icmp .ge 35, 3) := by decide +kernel
theorem dX11_takeBytes_17 : decode cX11_takeBytes 17 = .ok (.aload_n 0, 1) := by decide +kernel
theorem dX11_takeBytes_18 : decode cX11_takeBytes 18 = .ok (.getfield 9, 3) := by decide +kernel
theorem dX11_takeBytes_21 : decode cX11_takeBytes 21 = .ok (.aload_n 0, 1) := by decide +kernel
theorem dX11_takeBytes_22 : decode cX11_takeBytes 22 = .ok (.getfield 19, 3) := by decide +kernel
theorem dX11_takeBytes_25 : decode cX11_takeBytes 25 = .ok (.iload_n 1, 1) := by decide +kernel
theorem dX11_takeBytes_26 : decode cX11_takeBytes 26 = .ok (.iload_n 2, 1) := by decide +kernel
theorem dX11_takeBytes_27 : decode cX11_takeBytes 27 = .ok (.iushr, 1) := by decide +kernel
theorem dX11_takeBytes_28 : decode cX11_takeBytes 28 = .ok (.sipush 255, 3) := by decide +kernel
theorem dX11_takeBytes_31 : decode cX11_takeBytes 31 = .ok (.iand, 1) := by decide +kernel
theorem dX11_takeBytes_32 : decode cX11_takeBytes 32 = .ok (.iastore, 1) := by decide +kernel
theorem dX11_takeBytes_33 : decode cX11_takeBytes 33 = .ok (.aload_n 0, 1) := by decide +kernel
theorem dX11_takeBytes_34 : decode cX11_takeBytes 34 = .ok (.dup, 1) := by decide +kernel
theorem dX11_takeBytes_35 : decode cX11_takeBytes 35 = .ok (.getfield 19, 3) := by decide +kernel
theorem dX11_takeBytes_38 : decode cX11_takeBytes 38 = .ok (.iconst 1, 1) := by decide +kernel
theorem dX11_takeBytes_39 : decode cX11_takeBytes 39 = .ok (.iadd, 1) := by decide +kernel
theorem dX11_takeBytes_40 : decode cX11_takeBytes 40 = .ok (.putfield 19, 3) := by decide +kernel
theorem dX11_takeBytes_43 : decode cX11_takeBytes 43 = .ok (.iinc 2 (-8), 3) := by decide +kernel
theorem dX11_takeBytes_46 : decode cX11_takeBytes 46 = .ok (.goto (-43), 3) := by decide +kernel
theorem dX11_takeBytes_49 : decode cX11_takeBytes 49 = .ok (.return_, 1) := by decide +kernel
noncomputable def f_X11_takeBytes_49   (σ : jM) : Option (Unit × jM) :=
  some ((), σ)
noncomputable def s_X11_takeBytes_3  (rec3 : Int32 → Int32 → jM → Option (Unit × jM)) (l1 : Int32) (l2 : Int32) (σ : jM) : Option (Unit × jM) :=
  (if l2 < 0 then f_X11_takeBytes_49   σ else (if 300 ≤ (rI σ 262 1) then f_X11_takeBytes_49   σ else gd (inb (rI σ 262 1) 300) (rec3 l1 (l2 + (-8)) (wI (wI σ 263 (Int32.toNatClampNeg (rI σ 262 1)) ((jushr l1 l2) &&& 255)) 262 1 ((rI (wI σ 263 (Int32.toNatClampNeg (rI σ 262 1)) ((jushr l1 l2) &&& 255)) 262 1) + 1)))))
noncomputable def f_X11_takeBytes_3  (n : Nat) : Int32 → Int32 → jM → Option (Unit × jM) := Nat.rec (motive := fun _ => Int32 → Int32 → jM → Option (Unit × jM)) (fun _ _ _ => none) (fun _ q => s_X11_takeBytes_3  q) n
noncomputable def f_X11_takeBytes (a1 : Int32) (σ : jM) : Option (Unit × jM) :=
  f_X11_takeBytes_3  Fu a1 24 σ
set_option maxRecDepth 20000 in
set_option maxHeartbeats 4000000 in
theorem t_X11_takeBytes_49   (σ : jM) (r : Unit × jM)  (h : f_X11_takeBytes_49   σ = some r) : J mi_X11_takeBytes 1 0 0 (jqV r) 49 [] [] (ms σ) := by
  unfold f_X11_takeBytes_49 at h
  exact J_ret (v := none) rfl ⟨dX11_takeBytes_49, rfl⟩ (jqV_mk h)
set_option maxRecDepth 20000 in
set_option maxHeartbeats 4000000 in
theorem t_X11_takeBytes_3  : ∀ (n : Nat) (l1 : Int32) (l2 : Int32) (σ : jM) (r : Unit × jM), f_X11_takeBytes_3  n l1 l2 σ = some r → J mi_X11_takeBytes 1 0 0 (jqV r) 3 [(0, .ref 262), (1, .int l1), (2, .int l2)] [] (ms σ) := by
  intro n
  induction n with
  | zero =>
    intro l1 l2 σ r  h
    have h : (none : Option (Unit × jM)) = some r := h
    cases h
  | succ n ih =>
    intro l1 l2 σ r  h
    have h : s_X11_takeBytes_3  (f_X11_takeBytes_3  n) l1 l2 σ = some r := h
    unfold s_X11_takeBytes_3 at h
    refine J_iload_n 2 dX11_takeBytes_3 rfl ?_
    refine J_if_lt (tgt := 49) dX11_takeBytes_4 (by decide) (fun c5 => ?_) (fun c5 => ?_)
    · have h := (if_pos c5).symm.trans h
      refine J_pick [] rfl ?_
      exact t_X11_takeBytes_49   _ _  h
    · have h := (if_neg c5).symm.trans h
      refine J_aload_n 0 dX11_takeBytes_7 rfl ?_
      refine M_getI gf_X11_19_10 dX11_takeBytes_8 k_262 n_262 ?_
      refine J_sipush (v := 300) dX11_takeBytes_11 (by decide) ?_
      refine J_icmp_ge (tgt := 49) dX11_takeBytes_14 (by decide) (fun c6 => ?_) (fun c6 => ?_)
      · have h := (if_pos c6).symm.trans h
        refine J_pick [] rfl ?_
        exact t_X11_takeBytes_49   _ _  h
      · have h := (if_neg c6).symm.trans h
        refine J_aload_n 0 dX11_takeBytes_17 rfl ?_
        refine M_getR gf_X11_9_10 dX11_takeBytes_18 (g_262_0 _) k_262 n_262 ?_
        refine J_aload_n 0 dX11_takeBytes_21 rfl ?_
        refine M_getI gf_X11_19_10 dX11_takeBytes_22 k_262 n_262 ?_
        refine J_iload_n 1 dX11_takeBytes_25 rfl ?_
        refine J_iload_n 2 dX11_takeBytes_26 rfl ?_
        refine J_iushr dX11_takeBytes_27 ?_
        refine J_sipush (v := 255) dX11_takeBytes_28 (by decide) ?_
        refine J_iand dX11_takeBytes_31 ?_
        obtain ⟨g7, h⟩ := gd_inv h
        refine M_iast dX11_takeBytes_32 a_263 n_263 g7 ?_
        refine J_aload_n 0 dX11_takeBytes_33 rfl ?_
        refine J_dup dX11_takeBytes_34 rfl ?_
        refine M_getI gf_X11_19_10 dX11_takeBytes_35 k_262 n_262 ?_
        refine J_iconst (v := 1) dX11_takeBytes_38 (by decide) ?_
        refine J_iadd dX11_takeBytes_39 ?_
        refine M_putI pf_X11_19_10 dX11_takeBytes_40 k_262 n_262 ⟨rfl, rfl⟩ ?_
        refine J_iinc (v := (l2 + (-8))) (ls' := [(2, .int (l2 + (-8))), (0, .ref 262), (1, .int l1)]) 2 dX11_takeBytes_43 rfl rfl (by decide) rfl ?_
        refine J_goto (tgt := 3) dX11_takeBytes_46 (by decide) ?_
        refine J_pick [1, 2, 0] rfl ?_
        exact ih _ _ _ _  h
set_option maxRecDepth 20000 in
set_option maxHeartbeats 4000000 in
theorem t_X11_takeBytes {a1 : Int32} {σ : jM} {r : Unit × jM}  (h : f_X11_takeBytes a1 σ = some r) : J mi_X11_takeBytes 1 0 0 (jqV r) 0 [(0, .ref 262), (1, .int a1)] [] (ms σ) := by
  unfold f_X11_takeBytes at h
  refine J_bipush (v := 24) dX11_takeBytes_0 (by decide) ?_
  refine J_istore_n (i := 2) (ls' := [(2, .int 24), (0, .ref 262), (1, .int a1)]) dX11_takeBytes_2 rfl (by decide) rfl ?_
  refine J_pick [1, 2, 0] rfl ?_
  exact t_X11_takeBytes_3  _ _ _ _ _  h
theorem dX11_isByte_0 : decode cX11_isByte 0 = .ok (.aload_n 0, 1) := by decide +kernel
theorem dX11_isByte_1 : decode cX11_isByte 1 = .ok (.getfield 29, 3) := by decide +kernel
theorem dX11_isByte_4 : decode cX11_isByte 4 = .ok (.iconst 3, 1) := by decide +kernel
theorem dX11_isByte_5 : decode cX11_isByte 5 = .ok (.if_icmp .ne 15, 3) := by decide +kernel
theorem dX11_isByte_8 : decode cX11_isByte 8 = .ok (.aload_n 0, 1) := by decide +kernel
theorem dX11_isByte_9 : decode cX11_isByte 9 = .ok (.getfield 57, 3) := by decide +kernel
theorem dX11_isByte_12 : decode cX11_isByte 12 = .ok (.iload_n 1, 1) := by decide +kernel
theorem dX11_isByte_13 : decode cX11_isByte 13 = .ok (.if_icmp .ne 7, 3) := by decide +kernel
theorem dX11_isByte_16 : decode cX11_isByte 16 = .ok (.iconst 1, 1) := by decide +kernel
theorem dX11_isByte_17 : decode cX11_isByte 17 = .ok (.goto 4, 3) := by decide +kernel
theorem dX11_isByte_20 : decode cX11_isByte 20 = .ok (.iconst 0, 1) := by decide +kernel
theorem dX11_isByte_21 : decode cX11_isByte 21 = .ok (.ireturn, 1) := by decide +kernel
noncomputable def f_X11_isByte_21  (s0 : Int32) (σ : jM) : Option (Int32 × jM) :=
  gd (s0 = 0 ∨ s0 = 1) (some (s0, σ))
noncomputable def f_X11_isByte_20   (σ : jM) : Option (Int32 × jM) :=
  f_X11_isByte_21  0 σ
noncomputable def f_X11_isByte (a1 : Int32) (σ : jM) : Option (Int32 × jM) :=
  (if (rI σ 262 4) = 3 then (if (rI σ 262 7) = a1 then f_X11_isByte_21  1 σ else f_X11_isByte_20   σ) else f_X11_isByte_20   σ)
set_option maxRecDepth 20000 in
set_option maxHeartbeats 4000000 in
theorem t_X11_isByte_21  (s0 : Int32) (σ : jM) (r : Int32 × jM)  (h : f_X11_isByte_21  s0 σ = some r) : J mi_X11_isByte 1 0 0 (jqI r) 21 [] [.int s0] (ms σ) := by
  unfold f_X11_isByte_21 at h
  obtain ⟨g2, h⟩ := gd_inv h
  exact J_ret (v := some (.int s0)) rfl ⟨dX11_isByte_21, Or.inr (Or.inl ⟨rfl, g2⟩)⟩ (jqI_mk h)
set_option maxRecDepth 20000 in
set_option maxHeartbeats 4000000 in
theorem t_X11_isByte_20   (σ : jM) (r : Int32 × jM)  (h : f_X11_isByte_20   σ = some r) : J mi_X11_isByte 1 0 0 (jqI r) 20 [] [] (ms σ) := by
  unfold f_X11_isByte_20 at h
  refine J_iconst (v := 0) dX11_isByte_20 (by decide) ?_
  exact t_X11_isByte_21  _ _ _  h
set_option maxRecDepth 20000 in
set_option maxHeartbeats 4000000 in
theorem t_X11_isByte {a1 : Int32} {σ : jM} {r : Int32 × jM}  (h : f_X11_isByte a1 σ = some r) : J mi_X11_isByte 1 0 0 (jqI r) 0 [(0, .ref 262), (1, .int a1)] [] (ms σ) := by
  unfold f_X11_isByte at h
  refine J_aload_n 0 dX11_isByte_0 rfl ?_
  refine M_getI gf_X11_29_10 dX11_isByte_1 k_262 n_262 ?_
  refine J_iconst (v := 3) dX11_isByte_4 (by decide) ?_
  refine J_icmp_ne (tgt := 20) dX11_isByte_5 (by decide) (fun c3 => ?_) (fun c3 => ?_)
  · have h := (if_neg c3).symm.trans h
    refine J_pick [] rfl ?_
    exact t_X11_isByte_20   _ _  h
  · have h := (if_pos c3).symm.trans h
    refine J_aload_n 0 dX11_isByte_8 rfl ?_
    refine M_getI gf_X11_57_10 dX11_isByte_9 k_262 n_262 ?_
    refine J_iload_n 1 dX11_isByte_12 rfl ?_
    refine J_icmp_ne (tgt := 20) dX11_isByte_13 (by decide) (fun c4 => ?_) (fun c4 => ?_)
    · have h := (if_neg c4).symm.trans h
      refine J_pick [] rfl ?_
      exact t_X11_isByte_20   _ _  h
    · have h := (if_pos c4).symm.trans h
      refine J_iconst (v := 1) dX11_isByte_16 (by decide) ?_
      refine J_goto (tgt := 21) dX11_isByte_17 (by decide) ?_
      refine J_pick [] rfl ?_
      exact t_X11_isByte_21  _ _ _  h
theorem dX11_isLetter_0 : decode cX11_isLetter 0 = .ok (.aload_n 0, 1) := by decide +kernel
theorem dX11_isLetter_1 : decode cX11_isLetter 1 = .ok (.getfield 29, 3) := by decide +kernel
theorem dX11_isLetter_4 : decode cX11_isLetter 4 = .ok (.iconst 1, 1) := by decide +kernel
theorem dX11_isLetter_5 : decode cX11_isLetter 5 = .ok (.if_icmp .ne 20, 3) := by decide +kernel
theorem dX11_isLetter_8 : decode cX11_isLetter 8 = .ok (.aload_n 0, 1) := by decide +kernel
theorem dX11_isLetter_9 : decode cX11_isLetter 9 = .ok (.getfield 148, 3) := by decide +kernel
theorem dX11_isLetter_12 : decode cX11_isLetter 12 = .ok (.aload_n 0, 1) := by decide +kernel
theorem dX11_isLetter_13 : decode cX11_isLetter 13 = .ok (.getfield 137, 3) := by decide +kernel
theorem dX11_isLetter_16 : decode cX11_isLetter 16 = .ok (.isub, 1) := by decide +kernel
theorem dX11_isLetter_17 : decode cX11_isLetter 17 = .ok (.iconst 1, 1) := by decide +kernel
theorem dX11_isLetter_18 : decode cX11_isLetter 18 = .ok (.if_icmp .ne 7, 3) := by decide +kernel
theorem dX11_isLetter_21 : decode cX11_isLetter 21 = .ok (.iconst 1, 1) := by decide +kernel
theorem dX11_isLetter_22 : decode cX11_isLetter 22 = .ok (.goto 4, 3) := by decide +kernel
theorem dX11_isLetter_25 : decode cX11_isLetter 25 = .ok (.iconst 0, 1) := by decide +kernel
theorem dX11_isLetter_26 : decode cX11_isLetter 26 = .ok (.ireturn, 1) := by decide +kernel
noncomputable def f_X11_isLetter_26  (s0 : Int32) (σ : jM) : Option (Int32 × jM) :=
  gd (s0 = 0 ∨ s0 = 1) (some (s0, σ))
noncomputable def f_X11_isLetter_25   (σ : jM) : Option (Int32 × jM) :=
  f_X11_isLetter_26  0 σ
noncomputable def f_X11_isLetter  (σ : jM) : Option (Int32 × jM) :=
  (if (rI σ 262 4) = 1 then (if ((rI σ 262 6) - (rI σ 262 5)) = 1 then f_X11_isLetter_26  1 σ else f_X11_isLetter_25   σ) else f_X11_isLetter_25   σ)
set_option maxRecDepth 20000 in
set_option maxHeartbeats 4000000 in
theorem t_X11_isLetter_26  (s0 : Int32) (σ : jM) (r : Int32 × jM)  (h : f_X11_isLetter_26  s0 σ = some r) : J mi_X11_isLetter 1 0 0 (jqI r) 26 [] [.int s0] (ms σ) := by
  unfold f_X11_isLetter_26 at h
  obtain ⟨g2, h⟩ := gd_inv h
  exact J_ret (v := some (.int s0)) rfl ⟨dX11_isLetter_26, Or.inr (Or.inl ⟨rfl, g2⟩)⟩ (jqI_mk h)
set_option maxRecDepth 20000 in
set_option maxHeartbeats 4000000 in
theorem t_X11_isLetter_25   (σ : jM) (r : Int32 × jM)  (h : f_X11_isLetter_25   σ = some r) : J mi_X11_isLetter 1 0 0 (jqI r) 25 [] [] (ms σ) := by
  unfold f_X11_isLetter_25 at h
  refine J_iconst (v := 0) dX11_isLetter_25 (by decide) ?_
  exact t_X11_isLetter_26  _ _ _  h
set_option maxRecDepth 20000 in
set_option maxHeartbeats 4000000 in
theorem t_X11_isLetter  {σ : jM} {r : Int32 × jM}  (h : f_X11_isLetter  σ = some r) : J mi_X11_isLetter 1 0 0 (jqI r) 0 [(0, .ref 262)] [] (ms σ) := by
  unfold f_X11_isLetter at h
  refine J_aload_n 0 dX11_isLetter_0 rfl ?_
  refine M_getI gf_X11_29_10 dX11_isLetter_1 k_262 n_262 ?_
  refine J_iconst (v := 1) dX11_isLetter_4 (by decide) ?_
  refine J_icmp_ne (tgt := 25) dX11_isLetter_5 (by decide) (fun c3 => ?_) (fun c3 => ?_)
  · have h := (if_neg c3).symm.trans h
    refine J_pick [] rfl ?_
    exact t_X11_isLetter_25   _ _  h
  · have h := (if_pos c3).symm.trans h
    refine J_aload_n 0 dX11_isLetter_8 rfl ?_
    refine M_getI gf_X11_148_10 dX11_isLetter_9 k_262 n_262 ?_
    refine J_aload_n 0 dX11_isLetter_12 rfl ?_
    refine M_getI gf_X11_137_10 dX11_isLetter_13 k_262 n_262 ?_
    refine J_isub dX11_isLetter_16 ?_
    refine J_iconst (v := 1) dX11_isLetter_17 (by decide) ?_
    refine J_icmp_ne (tgt := 25) dX11_isLetter_18 (by decide) (fun c4 => ?_) (fun c4 => ?_)
    · have h := (if_neg c4).symm.trans h
      refine J_pick [] rfl ?_
      exact t_X11_isLetter_25   _ _  h
    · have h := (if_pos c4).symm.trans h
      refine J_iconst (v := 1) dX11_isLetter_21 (by decide) ?_
      refine J_goto (tgt := 26) dX11_isLetter_22 (by decide) ?_
      refine J_pick [] rfl ?_
      exact t_X11_isLetter_26  _ _ _  h
theorem dX11_isWord_0 : decode cX11_isWord 0 = .ok (.aload_n 0, 1) := by decide +kernel
theorem dX11_isWord_1 : decode cX11_isWord 1 = .ok (.getfield 29, 3) := by decide +kernel
theorem dX11_isWord_4 : decode cX11_isWord 4 = .ok (.iconst 1, 1) := by decide +kernel
theorem dX11_isWord_5 : decode cX11_isWord 5 = .ok (.if_icmp .ne 19, 3) := by decide +kernel
theorem dX11_isWord_8 : decode cX11_isWord 8 = .ok (.aload_n 0, 1) := by decide +kernel
theorem dX11_isWord_9 : decode cX11_isWord 9 = .ok (.getfield 148, 3) := by decide +kernel
theorem dX11_isWord_12 : decode cX11_isWord 12 = .ok (.aload_n 0, 1) := by decide +kernel
theorem dX11_isWord_13 : decode cX11_isWord 13 = .ok (.getfield 137, 3) := by decide +kernel
theorem dX11_isWord_16 : decode cX11_isWord 16 = .ok (.isub, 1) := by decide +kernel
theorem dX11_isWord_17 : decode cX11_isWord 17 = .ok (.aload_n 1, 1) := by decide +kernel
theorem dX11_isWord_18 : decode cX11_isWord 18 = .ok (.invokevirtual 151, 3) := by decide +kernel
theorem dX11_isWord_21 : decode cX11_isWord 21 = .ok (.if_icmp .eq 5, 3) := by decide +kernel
theorem dX11_isWord_24 : decode cX11_isWord 24 = .ok (.iconst 0, 1) := by decide +kernel
theorem dX11_isWord_25 : decode cX11_isWord 25 = .ok (.ireturn, 1) := by decide +kernel
theorem dX11_isWord_26 : decode cX11_isWord 26 = .ok (.iconst 0, 1) := by decide +kernel
theorem dX11_isWord_27 : decode cX11_isWord 27 = .ok (.istore_n 2, 1) := by decide +kernel
theorem dX11_isWord_28 : decode cX11_isWord 28 = .ok (.iload_n 2, 1) := by decide +kernel
theorem dX11_isWord_29 : decode cX11_isWord 29 = .ok (.aload_n 1, 1) := by decide +kernel
theorem dX11_isWord_30 : decode cX11_isWord 30 = .ok (.invokevirtual 151, 3) := by decide +kernel
theorem dX11_isWord_33 : decode cX11_isWord 33 = .ok (.if_icmp .ge 30, 3) := by decide +kernel
theorem dX11_isWord_36 : decode cX11_isWord 36 = .ok (.aload_n 0, 1) := by decide +kernel
theorem dX11_isWord_37 : decode cX11_isWord 37 = .ok (.getfield 9, 3) := by decide +kernel
theorem dX11_isWord_40 : decode cX11_isWord 40 = .ok (.aload_n 0, 1) := by decide +kernel
theorem dX11_isWord_41 : decode cX11_isWord 41 = .ok (.getfield 137, 3) := by decide +kernel
theorem dX11_isWord_44 : decode cX11_isWord 44 = .ok (.iload_n 2, 1) := by decide +kernel
theorem dX11_isWord_45 : decode cX11_isWord 45 = .ok (.iadd, 1) := by decide +kernel
theorem dX11_isWord_46 : decode cX11_isWord 46 = .ok (.iaload, 1) := by decide +kernel
theorem dX11_isWord_47 : decode cX11_isWord 47 = .ok (.aload_n 1, 1) := by decide +kernel
theorem dX11_isWord_48 : decode cX11_isWord 48 = .ok (.iload_n 2, 1) := by decide +kernel
theorem dX11_isWord_49 : decode cX11_isWord 49 = .ok (.invokevirtual 155, 3) := by decide +kernel
theorem dX11_isWord_52 : decode cX11_isWord 52 = .ok (.if_icmp .eq 5, 3) := by decide +kernel
theorem dX11_isWord_55 : decode cX11_isWord 55 = .ok (.iconst 0, 1) := by decide +kernel
theorem dX11_isWord_56 : decode cX11_isWord 56 = .ok (.ireturn, 1) := by decide +kernel
theorem dX11_isWord_57 : decode cX11_isWord 57 = .ok (.iinc 2 1, 3) := by decide +kernel
theorem dX11_isWord_60 : decode cX11_isWord 60 = .ok (.goto (-32), 3) := by decide +kernel
theorem dX11_isWord_63 : decode cX11_isWord 63 = .ok (.iconst 1, 1) := by decide +kernel
theorem dX11_isWord_64 : decode cX11_isWord 64 = .ok (.ireturn, 1) := by decide +kernel
noncomputable def f_X11_isWord_24   (σ : jM) : Option (Int32 × jM) :=
  some (0, σ)
noncomputable def s_X11_isWord_28  (rec28 : Nat → Int32 → jM → Option (Int32 × jM)) (l1 : Nat) (l2 : Int32) (σ : jM) : Option (Int32 × jM) :=
  (if (strLen l1) ≤ l2 then some (1, σ) else gd (inb ((rI σ 262 5) + l2) 300) (gd (inb l2 (jslen.getD l1 0)) ((if (rI σ 263 (Int32.toNatClampNeg ((rI σ 262 5) + l2))) = (strAt l1 l2) then rec28 l1 (l2 + 1) σ else some (0, σ)))))
noncomputable def f_X11_isWord_28  (n : Nat) : Nat → Int32 → jM → Option (Int32 × jM) := Nat.rec (motive := fun _ => Nat → Int32 → jM → Option (Int32 × jM)) (fun _ _ _ => none) (fun _ q => s_X11_isWord_28  q) n
noncomputable def f_X11_isWord (a1 : Nat) (σ : jM) : Option (Int32 × jM) :=
  (if (rI σ 262 4) = 1 then (if ((rI σ 262 6) - (rI σ 262 5)) = (strLen a1) then f_X11_isWord_28  Fu a1 0 σ else f_X11_isWord_24   σ) else f_X11_isWord_24   σ)
set_option maxRecDepth 20000 in
set_option maxHeartbeats 4000000 in
theorem t_X11_isWord_24   (σ : jM) (r : Int32 × jM)  (h : f_X11_isWord_24   σ = some r) : J mi_X11_isWord 6 0 0 (jqI r) 24 [] [] (ms σ) := by
  unfold f_X11_isWord_24 at h
  refine J_iconst (v := 0) dX11_isWord_24 (by decide) ?_
  exact J_ret (v := some (.int 0)) rfl ⟨dX11_isWord_25, Or.inr (Or.inl ⟨rfl, Or.inl rfl⟩)⟩ (jqI_mk h)
set_option maxRecDepth 20000 in
set_option maxHeartbeats 4000000 in
theorem t_X11_isWord_28  : ∀ (n : Nat) (l1 : Nat) (l2 : Int32) (σ : jM) (r : Int32 × jM), l1 < 12 → f_X11_isWord_28  n l1 l2 σ = some r → J mi_X11_isWord 6 0 0 (jqI r) 28 [(0, .ref 262), (1, .ref (1000000 + l1)), (2, .int l2)] [] (ms σ) := by
  intro n
  induction n with
  | zero =>
    intro l1 l2 σ r hl1 h
    have h : (none : Option (Int32 × jM)) = some r := h
    cases h
  | succ n ih =>
    intro l1 l2 σ r hl1 h
    have h : s_X11_isWord_28  (f_X11_isWord_28  n) l1 l2 σ = some r := h
    unfold s_X11_isWord_28 at h
    refine J_iload_n 2 dX11_isWord_28 rfl ?_
    refine J_aload_n 1 dX11_isWord_29 rfl ?_
    refine M_strlen sl_X11_151 dX11_isWord_30 hl1 (Nat.le_of_ble_eq_true rfl) (by decide) ?_
    refine J_icmp_ge (tgt := 63) dX11_isWord_33 (by decide) (fun c7 => ?_) (fun c7 => ?_)
    · have h := (if_pos c7).symm.trans h
      refine J_iconst (v := 1) dX11_isWord_63 (by decide) ?_
      exact J_ret (v := some (.int 1)) rfl ⟨dX11_isWord_64, Or.inr (Or.inl ⟨rfl, Or.inr rfl⟩)⟩ (jqI_mk h)
    · have h := (if_neg c7).symm.trans h
      refine J_aload_n 0 dX11_isWord_36 rfl ?_
      refine M_getR gf_X11_9_10 dX11_isWord_37 (g_262_0 _) k_262 n_262 ?_
      refine J_aload_n 0 dX11_isWord_40 rfl ?_
      refine M_getI gf_X11_137_10 dX11_isWord_41 k_262 n_262 ?_
      refine J_iload_n 2 dX11_isWord_44 rfl ?_
      refine J_iadd dX11_isWord_45 ?_
      obtain ⟨g8, h⟩ := gd_inv h
      refine M_iald dX11_isWord_46 a_263 n_263 g8 ?_
      refine J_aload_n 1 dX11_isWord_47 rfl ?_
      refine J_iload_n 2 dX11_isWord_48 rfl ?_
      obtain ⟨g9, h⟩ := gd_inv h
      refine M_strat sc_X11_155 dX11_isWord_49 hl1 g9 (Nat.le_of_ble_eq_true rfl) (by decide) ?_
      refine J_icmp_eq (tgt := 57) dX11_isWord_52 (by decide) (fun c10 => ?_) (fun c10 => ?_)
      · have h := (if_pos c10).symm.trans h
        refine J_iinc (v := (l2 + 1)) (ls' := [(2, .int (l2 + 1)), (0, .ref 262), (1, .ref (1000000 + l1))]) 2 dX11_isWord_57 rfl rfl (by decide) rfl ?_
        refine J_goto (tgt := 28) dX11_isWord_60 (by decide) ?_
        refine J_pick [1, 2, 0] rfl ?_
        exact ih _ _ _ _ hl1 h
      · have h := (if_neg c10).symm.trans h
        refine J_iconst (v := 0) dX11_isWord_55 (by decide) ?_
        exact J_ret (v := some (.int 0)) rfl ⟨dX11_isWord_56, Or.inr (Or.inl ⟨rfl, Or.inl rfl⟩)⟩ (jqI_mk h)
set_option maxRecDepth 20000 in
set_option maxHeartbeats 4000000 in
theorem t_X11_isWord {a1 : Nat} {σ : jM} {r : Int32 × jM} (ha1 : a1 < 12) (h : f_X11_isWord a1 σ = some r) : J mi_X11_isWord 6 0 0 (jqI r) 0 [(0, .ref 262), (1, .ref (1000000 + a1))] [] (ms σ) := by
  unfold f_X11_isWord at h
  refine J_aload_n 0 dX11_isWord_0 rfl ?_
  refine M_getI gf_X11_29_10 dX11_isWord_1 k_262 n_262 ?_
  refine J_iconst (v := 1) dX11_isWord_4 (by decide) ?_
  refine J_icmp_ne (tgt := 24) dX11_isWord_5 (by decide) (fun c11 => ?_) (fun c11 => ?_)
  · have h := (if_neg c11).symm.trans h
    refine J_pick [] rfl ?_
    exact t_X11_isWord_24   _ _  h
  · have h := (if_pos c11).symm.trans h
    refine J_aload_n 0 dX11_isWord_8 rfl ?_
    refine M_getI gf_X11_148_10 dX11_isWord_9 k_262 n_262 ?_
    refine J_aload_n 0 dX11_isWord_12 rfl ?_
    refine M_getI gf_X11_137_10 dX11_isWord_13 k_262 n_262 ?_
    refine J_isub dX11_isWord_16 ?_
    refine J_aload_n 1 dX11_isWord_17 rfl ?_
    refine M_strlen sl_X11_151 dX11_isWord_18 ha1 (Nat.le_of_ble_eq_true rfl) (by decide) ?_
    refine J_icmp_eq (tgt := 26) dX11_isWord_21 (by decide) (fun c12 => ?_) (fun c12 => ?_)
    · have h := (if_pos c12).symm.trans h
      refine J_iconst (v := 0) dX11_isWord_26 (by decide) ?_
      refine J_istore_n (i := 2) (ls' := [(2, .int 0), (0, .ref 262), (1, .ref (1000000 + a1))]) dX11_isWord_27 rfl (by decide) rfl ?_
      refine J_pick [1, 2, 0] rfl ?_
      exact t_X11_isWord_28  _ _ _ _ _ ha1 h
    · have h := (if_neg c12).symm.trans h
      refine J_pick [] rfl ?_
      exact t_X11_isWord_24   _ _  h
theorem dX11_fault_0 : decode cX11_fault 0 = .ok (.aload_n 0, 1) := by decide +kernel
theorem dX11_fault_1 : decode cX11_fault 1 = .ok (.iload_n 1, 1) := by decide +kernel
theorem dX11_fault_2 : decode cX11_fault 2 = .ok (.putfield 159, 3) := by decide +kernel
theorem dX11_fault_5 : decode cX11_fault 5 = .ok (.aload_n 0, 1) := by decide +kernel
theorem dX11_fault_6 : decode cX11_fault 6 = .ok (.aload_n 0, 1) := by decide +kernel
theorem dX11_fault_7 : decode cX11_fault 7 = .ok (.getfield 137, 3) := by decide +kernel
theorem dX11_fault_10 : decode cX11_fault 10 = .ok (.putfield 15, 3) := by decide +kernel
theorem dX11_fault_13 : decode cX11_fault 13 = .ok (.iconst 0, 1) := by decide +kernel
theorem dX11_fault_14 : decode cX11_fault 14 = .ok (.ireturn, 1) := by decide +kernel
noncomputable def f_X11_fault (a1 : Int32) (σ : jM) : Option (Int32 × jM) :=
  some (0, wI (wI σ 262 2 a1) 262 3 (rI (wI σ 262 2 a1) 262 5))
set_option maxRecDepth 20000 in
set_option maxHeartbeats 4000000 in
theorem t_X11_fault {a1 : Int32} {σ : jM} {r : Int32 × jM}  (h : f_X11_fault a1 σ = some r) : J mi_X11_fault 1 0 0 (jqI r) 0 [(0, .ref 262), (1, .int a1)] [] (ms σ) := by
  unfold f_X11_fault at h
  refine J_aload_n 0 dX11_fault_0 rfl ?_
  refine J_iload_n 1 dX11_fault_1 rfl ?_
  refine M_putI pf_X11_159_10 dX11_fault_2 k_262 n_262 ⟨rfl, rfl⟩ ?_
  refine J_aload_n 0 dX11_fault_5 rfl ?_
  refine J_aload_n 0 dX11_fault_6 rfl ?_
  refine M_getI gf_X11_137_10 dX11_fault_7 k_262 n_262 ?_
  refine M_putI pf_X11_15_10 dX11_fault_10 k_262 n_262 ⟨rfl, rfl⟩ ?_
  refine J_iconst (v := 0) dX11_fault_13 (by decide) ?_
  exact J_ret (v := some (.int 0)) rfl ⟨dX11_fault_14, Or.inr (Or.inl ⟨rfl, Or.inl rfl⟩)⟩ (jqI_mk h)
theorem dX11_isLetterAt_0 : decode cX11_isLetterAt 0 = .ok (.aload_n 0, 1) := by decide +kernel
theorem dX11_isLetterAt_1 : decode cX11_isLetterAt 1 = .ok (.getfield 9, 3) := by decide +kernel
theorem dX11_isLetterAt_4 : decode cX11_isLetterAt 4 = .ok (.iload_n 1, 1) := by decide +kernel
theorem dX11_isLetterAt_5 : decode cX11_isLetterAt 5 = .ok (.iaload, 1) := by decide +kernel
theorem dX11_isLetterAt_6 : decode cX11_isLetterAt 6 = .ok (.bipush 97, 2) := by decide +kernel
theorem dX11_isLetterAt_8 : decode cX11_isLetterAt 8 = .ok (.if_icmp .lt 18, 3) := by decide +kernel
theorem dX11_isLetterAt_11 : decode cX11_isLetterAt 11 = .ok (.aload_n 0, 1) := by decide +kernel
theorem dX11_isLetterAt_12 : decode cX11_isLetterAt 12 = .ok (.getfield 9, 3) := by decide +kernel
theorem dX11_isLetterAt_15 : decode cX11_isLetterAt 15 = .ok (.iload_n 1, 1) := by decide +kernel
theorem dX11_isLetterAt_16 : decode cX11_isLetterAt 16 = .ok (.iaload, 1) := by decide +kernel
theorem dX11_isLetterAt_17 : decode cX11_isLetterAt 17 = .ok (.bipush 122, 2) := by decide +kernel
theorem dX11_isLetterAt_19 : decode cX11_isLetterAt 19 = .ok (.if_icmp .gt 7, 3) := by decide +kernel
theorem dX11_isLetterAt_22 : decode cX11_isLetterAt 22 = .ok (.iconst 1, 1) := by decide +kernel
theorem dX11_isLetterAt_23 : decode cX11_isLetterAt 23 = .ok (.goto 4, 3) := by decide +kernel
theorem dX11_isLetterAt_26 : decode cX11_isLetterAt 26 = .ok (.iconst 0, 1) := by decide +kernel
theorem dX11_isLetterAt_27 : decode cX11_isLetterAt 27 = .ok (.ireturn, 1) := by decide +kernel
noncomputable def f_X11_isLetterAt_27  (s0 : Int32) (σ : jM) : Option (Int32 × jM) :=
  gd (s0 = 0 ∨ s0 = 1) (some (s0, σ))
noncomputable def f_X11_isLetterAt_26   (σ : jM) : Option (Int32 × jM) :=
  f_X11_isLetterAt_27  0 σ
noncomputable def f_X11_isLetterAt (a1 : Int32) (σ : jM) : Option (Int32 × jM) :=
  gd (inb a1 300) ((if (rI σ 263 (Int32.toNatClampNeg a1)) < 97 then f_X11_isLetterAt_26   σ else gd (inb a1 300) ((if 122 < (rI σ 263 (Int32.toNatClampNeg a1)) then f_X11_isLetterAt_26   σ else f_X11_isLetterAt_27  1 σ))))
set_option maxRecDepth 20000 in
set_option maxHeartbeats 4000000 in
theorem t_X11_isLetterAt_27  (s0 : Int32) (σ : jM) (r : Int32 × jM)  (h : f_X11_isLetterAt_27  s0 σ = some r) : J mi_X11_isLetterAt 1 0 0 (jqI r) 27 [] [.int s0] (ms σ) := by
  unfold f_X11_isLetterAt_27 at h
  obtain ⟨g4, h⟩ := gd_inv h
  exact J_ret (v := some (.int s0)) rfl ⟨dX11_isLetterAt_27, Or.inr (Or.inl ⟨rfl, g4⟩)⟩ (jqI_mk h)
set_option maxRecDepth 20000 in
set_option maxHeartbeats 4000000 in
theorem t_X11_isLetterAt_26   (σ : jM) (r : Int32 × jM)  (h : f_X11_isLetterAt_26   σ = some r) : J mi_X11_isLetterAt 1 0 0 (jqI r) 26 [] [] (ms σ) := by
  unfold f_X11_isLetterAt_26 at h
  refine J_iconst (v := 0) dX11_isLetterAt_26 (by decide) ?_
  exact t_X11_isLetterAt_27  _ _ _  h
set_option maxRecDepth 20000 in
set_option maxHeartbeats 4000000 in
theorem t_X11_isLetterAt {a1 : Int32} {σ : jM} {r : Int32 × jM}  (h : f_X11_isLetterAt a1 σ = some r) : J mi_X11_isLetterAt 1 0 0 (jqI r) 0 [(0, .ref 262), (1, .int a1)] [] (ms σ) := by
  unfold f_X11_isLetterAt at h
  refine J_aload_n 0 dX11_isLetterAt_0 rfl ?_
  refine M_getR gf_X11_9_10 dX11_isLetterAt_1 (g_262_0 _) k_262 n_262 ?_
  refine J_iload_n 1 dX11_isLetterAt_4 rfl ?_
  obtain ⟨g5, h⟩ := gd_inv h
  refine M_iald dX11_isLetterAt_5 a_263 n_263 g5 ?_
  refine J_bipush (v := 97) dX11_isLetterAt_6 (by decide) ?_
  refine J_icmp_lt (tgt := 26) dX11_isLetterAt_8 (by decide) (fun c6 => ?_) (fun c6 => ?_)
  · have h := (if_pos c6).symm.trans h
    refine J_pick [] rfl ?_
    exact t_X11_isLetterAt_26   _ _  h
  · have h := (if_neg c6).symm.trans h
    refine J_aload_n 0 dX11_isLetterAt_11 rfl ?_
    refine M_getR gf_X11_9_10 dX11_isLetterAt_12 (g_262_0 _) k_262 n_262 ?_
    refine J_iload_n 1 dX11_isLetterAt_15 rfl ?_
    obtain ⟨g7, h⟩ := gd_inv h
    refine M_iald dX11_isLetterAt_16 a_263 n_263 g7 ?_
    refine J_bipush (v := 122) dX11_isLetterAt_17 (by decide) ?_
    refine J_icmp_gt (tgt := 26) dX11_isLetterAt_19 (by decide) (fun c8 => ?_) (fun c8 => ?_)
    · have h := (if_pos c8).symm.trans h
      refine J_pick [] rfl ?_
      exact t_X11_isLetterAt_26   _ _  h
    · have h := (if_neg c8).symm.trans h
      refine J_iconst (v := 1) dX11_isLetterAt_22 (by decide) ?_
      refine J_goto (tgt := 27) dX11_isLetterAt_23 (by decide) ?_
      refine J_pick [] rfl ?_
      exact t_X11_isLetterAt_27  _ _ _  h
theorem dX11_isFigureAt_0 : decode cX11_isFigureAt 0 = .ok (.aload_n 0, 1) := by decide +kernel
theorem dX11_isFigureAt_1 : decode cX11_isFigureAt 1 = .ok (.getfield 9, 3) := by decide +kernel
theorem dX11_isFigureAt_4 : decode cX11_isFigureAt 4 = .ok (.iload_n 1, 1) := by decide +kernel
theorem dX11_isFigureAt_5 : decode cX11_isFigureAt 5 = .ok (.iaload, 1) := by decide +kernel
theorem dX11_isFigureAt_6 : decode cX11_isFigureAt 6 = .ok (.bipush 48, 2) := by decide +kernel
theorem dX11_isFigureAt_8 : decode cX11_isFigureAt 8 = .ok (.if_icmp .lt 18, 3) := by decide +kernel
theorem dX11_isFigureAt_11 : decode cX11_isFigureAt 11 = .ok (.aload_n 0, 1) := by decide +kernel
theorem dX11_isFigureAt_12 : decode cX11_isFigureAt 12 = .ok (.getfield 9, 3) := by decide +kernel
theorem dX11_isFigureAt_15 : decode cX11_isFigureAt 15 = .ok (.iload_n 1, 1) := by decide +kernel
theorem dX11_isFigureAt_16 : decode cX11_isFigureAt 16 = .ok (.iaload, 1) := by decide +kernel
theorem dX11_isFigureAt_17 : decode cX11_isFigureAt 17 = .ok (.bipush 57, 2) := by decide +kernel
theorem dX11_isFigureAt_19 : decode cX11_isFigureAt 19 = .ok (.if_icmp .gt 7, 3) := by decide +kernel
theorem dX11_isFigureAt_22 : decode cX11_isFigureAt 22 = .ok (.iconst 1, 1) := by decide +kernel
theorem dX11_isFigureAt_23 : decode cX11_isFigureAt 23 = .ok (.goto 4, 3) := by decide +kernel
theorem dX11_isFigureAt_26 : decode cX11_isFigureAt 26 = .ok (.iconst 0, 1) := by decide +kernel
theorem dX11_isFigureAt_27 : decode cX11_isFigureAt 27 = .ok (.ireturn, 1) := by decide +kernel
noncomputable def f_X11_isFigureAt_27  (s0 : Int32) (σ : jM) : Option (Int32 × jM) :=
  gd (s0 = 0 ∨ s0 = 1) (some (s0, σ))
noncomputable def f_X11_isFigureAt_26   (σ : jM) : Option (Int32 × jM) :=
  f_X11_isFigureAt_27  0 σ
noncomputable def f_X11_isFigureAt (a1 : Int32) (σ : jM) : Option (Int32 × jM) :=
  gd (inb a1 300) ((if (rI σ 263 (Int32.toNatClampNeg a1)) < 48 then f_X11_isFigureAt_26   σ else gd (inb a1 300) ((if 57 < (rI σ 263 (Int32.toNatClampNeg a1)) then f_X11_isFigureAt_26   σ else f_X11_isFigureAt_27  1 σ))))
set_option maxRecDepth 20000 in
set_option maxHeartbeats 4000000 in
theorem t_X11_isFigureAt_27  (s0 : Int32) (σ : jM) (r : Int32 × jM)  (h : f_X11_isFigureAt_27  s0 σ = some r) : J mi_X11_isFigureAt 1 0 0 (jqI r) 27 [] [.int s0] (ms σ) := by
  unfold f_X11_isFigureAt_27 at h
  obtain ⟨g4, h⟩ := gd_inv h
  exact J_ret (v := some (.int s0)) rfl ⟨dX11_isFigureAt_27, Or.inr (Or.inl ⟨rfl, g4⟩)⟩ (jqI_mk h)
set_option maxRecDepth 20000 in
set_option maxHeartbeats 4000000 in
theorem t_X11_isFigureAt_26   (σ : jM) (r : Int32 × jM)  (h : f_X11_isFigureAt_26   σ = some r) : J mi_X11_isFigureAt 1 0 0 (jqI r) 26 [] [] (ms σ) := by
  unfold f_X11_isFigureAt_26 at h
  refine J_iconst (v := 0) dX11_isFigureAt_26 (by decide) ?_
  exact t_X11_isFigureAt_27  _ _ _  h
set_option maxRecDepth 20000 in
set_option maxHeartbeats 4000000 in
theorem t_X11_isFigureAt {a1 : Int32} {σ : jM} {r : Int32 × jM}  (h : f_X11_isFigureAt a1 σ = some r) : J mi_X11_isFigureAt 1 0 0 (jqI r) 0 [(0, .ref 262), (1, .int a1)] [] (ms σ) := by
  unfold f_X11_isFigureAt at h
  refine J_aload_n 0 dX11_isFigureAt_0 rfl ?_
  refine M_getR gf_X11_9_10 dX11_isFigureAt_1 (g_262_0 _) k_262 n_262 ?_
  refine J_iload_n 1 dX11_isFigureAt_4 rfl ?_
  obtain ⟨g5, h⟩ := gd_inv h
  refine M_iald dX11_isFigureAt_5 a_263 n_263 g5 ?_
  refine J_bipush (v := 48) dX11_isFigureAt_6 (by decide) ?_
  refine J_icmp_lt (tgt := 26) dX11_isFigureAt_8 (by decide) (fun c6 => ?_) (fun c6 => ?_)
  · have h := (if_pos c6).symm.trans h
    refine J_pick [] rfl ?_
    exact t_X11_isFigureAt_26   _ _  h
  · have h := (if_neg c6).symm.trans h
    refine J_aload_n 0 dX11_isFigureAt_11 rfl ?_
    refine M_getR gf_X11_9_10 dX11_isFigureAt_12 (g_262_0 _) k_262 n_262 ?_
    refine J_iload_n 1 dX11_isFigureAt_15 rfl ?_
    obtain ⟨g7, h⟩ := gd_inv h
    refine M_iald dX11_isFigureAt_16 a_263 n_263 g7 ?_
    refine J_bipush (v := 57) dX11_isFigureAt_17 (by decide) ?_
    refine J_icmp_gt (tgt := 26) dX11_isFigureAt_19 (by decide) (fun c8 => ?_) (fun c8 => ?_)
    · have h := (if_pos c8).symm.trans h
      refine J_pick [] rfl ?_
      exact t_X11_isFigureAt_26   _ _  h
    · have h := (if_neg c8).symm.trans h
      refine J_iconst (v := 1) dX11_isFigureAt_22 (by decide) ?_
      refine J_goto (tgt := 27) dX11_isFigureAt_23 (by decide) ?_
      refine J_pick [] rfl ?_
      exact t_X11_isFigureAt_27  _ _ _  h
theorem dX12_day_0 : decode cX12_day 0 = .ok (.iload_n 1, 1) := by decide +kernel
theorem dX12_day_1 : decode cX12_day 1 = .ok (.ifCond .lt 24, 3) := by decide +kernel
theorem dX12_day_4 : decode cX12_day 4 = .ok (.iload_n 1, 1) := by decide +kernel
theorem dX12_day_5 : decode cX12_day 5 = .ok (.sipush 1000, 3) := by decide +kernel
theorem dX12_day_8 : decode cX12_day 8 = .ok (.if_icmp .gt 17, 3) := by decide +kernel
theorem dX12_day_11 : decode cX12_day 11 = .ok (.aload_n 0, 1) := by decide +kernel
theorem dX12_day_12 : decode cX12_day 12 = .ok (.getfield 19, 3) := by decide +kernel
theorem dX12_day_15 : decode cX12_day 15 = .ok (.getfield 66, 3) := by decide +kernel
theorem dX12_day_18 : decode cX12_day 18 = .ok (.iload_n 1, 1) := by decide +kernel
theorem dX12_day_19 : decode cX12_day 19 = .ok (.iadd, 1) := by decide +kernel
theorem dX12_day_20 : decode cX12_day 20 = .ok (.ldc 70, 2) := by decide +kernel
theorem dX12_day_22 : decode cX12_day 22 = .ok (.if_icmp .le 5, 3) := by decide +kernel
theorem dX12_day_25 : decode cX12_day 25 = .ok (.iconst (-1), 1) := by decide +kernel
theorem dX12_day_26 : decode cX12_day 26 = .ok (.ireturn, 1) := by decide +kernel
theorem dX12_day_27 : decode cX12_day 27 = .ok (.aload_n 0, 1) := by decide +kernel
theorem dX12_day_28 : decode cX12_day 28 = .ok (.getfield 19, 3) := by decide +kernel
theorem dX12_day_31 : decode cX12_day 31 = .ok (.dup, 1) := by decide +kernel
theorem dX12_day_32 : decode cX12_day 32 = .ok (.getfield 66, 3) := by decide +kernel
theorem dX12_day_35 : decode cX12_day 35 = .ok (.iload_n 1, 1) := by decide +kernel
theorem dX12_day_36 : decode cX12_day 36 = .ok (.iadd, 1) := by decide +kernel
theorem dX12_day_37 : decode cX12_day 37 = .ok (.putfield 66, 3) := by decide +kernel
theorem dX12_day_40 : decode cX12_day 40 = .ok (.aload_n 0, 1) := by decide +kernel
theorem dX12_day_41 : decode cX12_day 41 = .ok (.getfield 19, 3) := by decide +kernel
theorem dX12_day_44 : decode cX12_day 44 = .ok (.getfield 66, 3) := by decide +kernel
theorem dX12_day_47 : decode cX12_day 47 = .ok (.ireturn, 1) := by decide +kernel
noncomputable def f_X12_day_25   (σ : jM) : Option (Int32 × jM) :=
  some ((-1), σ)
noncomputable def f_X12_day (a1 : Int32) (σ : jM) : Option (Int32 × jM) :=
  (if a1 < 0 then f_X12_day_25   σ else (if 1000 < a1 then f_X12_day_25   σ else (if ((rI σ 3 0) + a1) ≤ 100000 then some ((rI (wI σ 3 0 ((rI σ 3 0) + a1)) 3 0), wI σ 3 0 ((rI σ 3 0) + a1)) else f_X12_day_25   σ)))
set_option maxRecDepth 20000 in
set_option maxHeartbeats 4000000 in
theorem t_X12_day_25   (σ : jM) (r : Int32 × jM)  (h : f_X12_day_25   σ = some r) : J mi_X12_day 1 0 0 (jqI r) 25 [] [] (ms σ) := by
  unfold f_X12_day_25 at h
  refine J_iconst (v := (-1)) dX12_day_25 (by decide) ?_
  exact J_ret (v := some (.int (-1))) rfl ⟨dX12_day_26, Or.inl rfl⟩ (jqI_mk h)
set_option maxRecDepth 20000 in
set_option maxHeartbeats 4000000 in
theorem t_X12_day {a1 : Int32} {σ : jM} {r : Int32 × jM}  (h : f_X12_day a1 σ = some r) : J mi_X12_day 1 0 0 (jqI r) 0 [(0, .ref 0), (1, .int a1)] [] (ms σ) := by
  unfold f_X12_day at h
  refine J_iload_n 1 dX12_day_0 rfl ?_
  refine J_if_lt (tgt := 25) dX12_day_1 (by decide) (fun c1 => ?_) (fun c1 => ?_)
  · have h := (if_pos c1).symm.trans h
    refine J_pick [] rfl ?_
    exact t_X12_day_25   _ _  h
  · have h := (if_neg c1).symm.trans h
    refine J_iload_n 1 dX12_day_4 rfl ?_
    refine J_sipush (v := 1000) dX12_day_5 (by decide) ?_
    refine J_icmp_gt (tgt := 25) dX12_day_8 (by decide) (fun c2 => ?_) (fun c2 => ?_)
    · have h := (if_pos c2).symm.trans h
      refine J_pick [] rfl ?_
      exact t_X12_day_25   _ _  h
    · have h := (if_neg c2).symm.trans h
      refine J_aload_n 0 dX12_day_11 rfl ?_
      refine M_getR gf_X12_19_11 dX12_day_12 (g_0_0 _) k_0 n_0 ?_
      refine M_getI gf_X12_66_0 dX12_day_15 k_3 n_3 ?_
      refine J_iload_n 1 dX12_day_18 rfl ?_
      refine J_iadd dX12_day_19 ?_
      refine J_ldc dX12_day_20 ct_X12_70 ?_
      refine J_icmp_le (tgt := 27) dX12_day_22 (by decide) (fun c3 => ?_) (fun c3 => ?_)
      · have h := (if_pos c3).symm.trans h
        refine J_aload_n 0 dX12_day_27 rfl ?_
        refine M_getR gf_X12_19_11 dX12_day_28 (g_0_0 _) k_0 n_0 ?_
        refine J_dup dX12_day_31 rfl ?_
        refine M_getI gf_X12_66_0 dX12_day_32 k_3 n_3 ?_
        refine J_iload_n 1 dX12_day_35 rfl ?_
        refine J_iadd dX12_day_36 ?_
        refine M_putI pf_X12_66_0 dX12_day_37 k_3 n_3 ⟨rfl, rfl⟩ ?_
        refine J_aload_n 0 dX12_day_40 rfl ?_
        refine M_getR gf_X12_19_11 dX12_day_41 (g_0_0 _) k_0 n_0 ?_
        refine M_getI gf_X12_66_0 dX12_day_44 k_3 n_3 ?_
        exact J_ret (v := some (.int (rI (wI σ 3 0 ((rI σ 3 0) + a1)) 3 0))) rfl ⟨dX12_day_47, Or.inl rfl⟩ (jqI_mk h)
      · have h := (if_neg c3).symm.trans h
        refine J_pick [] rfl ?_
        exact t_X12_day_25   _ _  h
theorem dX12_feed_0 : decode cX12_feed 0 = .ok (.aload_n 0, 1) := by decide +kernel
theorem dX12_feed_1 : decode cX12_feed 1 = .ok (.getfield 26, 3) := by decide +kernel
theorem dX12_feed_4 : decode cX12_feed 4 = .ok (.getfield 71, 3) := by decide +kernel
theorem dX12_feed_7 : decode cX12_feed 7 = .ok (.bipush 20, 2) := by decide +kernel
theorem dX12_feed_9 : decode cX12_feed 9 = .ok (.iadd, 1) := by decide +kernel
theorem dX12_feed_10 : decode cX12_feed 10 = .ok (.sipush 300, 3) := by decide +kernel
theorem dX12_feed_13 : decode cX12_feed 13 = .ok (.if_icmp .le 5, 3) := by decide +kernel
theorem dX12_feed_16 : decode cX12_feed 16 = .ok (.iconst (-1), 1) := by decide +kernel
theorem dX12_feed_17 : decode cX12_feed 17 = .ok (.ireturn, 1) := by decide +kernel
theorem dX12_feed_18 : decode cX12_feed 18 = .ok (.aload_n 0, 1) := by decide +kernel
theorem dX12_feed_19 : decode cX12_feed 19 = .ok (.getfield 26, 3) := by decide +kernel
theorem dX12_feed_22 : decode cX12_feed 22 = .ok (.iload_n 1, 1) := by decide +kernel
theorem dX12_feed_23 : decode cX12_feed 23 = .ok (.invokevirtual 74, 3) := by decide +kernel
theorem dX12_feed_26 : decode cX12_feed 26 = .ok (.aload_n 0, 1) := by decide +kernel
theorem dX12_feed_27 : decode cX12_feed 27 = .ok (.getfield 26, 3) := by decide +kernel
theorem dX12_feed_30 : decode cX12_feed 30 = .ok (.iload_n 2, 1) := by decide +kernel
theorem dX12_feed_31 : decode cX12_feed 31 = .ok (.invokevirtual 74, 3) := by decide +kernel
theorem dX12_feed_34 : decode cX12_feed 34 = .ok (.aload_n 0, 1) := by decide +kernel
theorem dX12_feed_35 : decode cX12_feed 35 = .ok (.getfield 26, 3) := by decide +kernel
theorem dX12_feed_38 : decode cX12_feed 38 = .ok (.iload_n 3, 1) := by decide +kernel
theorem dX12_feed_39 : decode cX12_feed 39 = .ok (.invokevirtual 74, 3) := by decide +kernel
theorem dX12_feed_42 : decode cX12_feed 42 = .ok (.aload_n 0, 1) := by decide +kernel
theorem dX12_feed_43 : decode cX12_feed 43 = .ok (.getfield 26, 3) := by decide +kernel
theorem dX12_feed_46 : decode cX12_feed 46 = .ok (.iload 4, 2) := by decide +kernel
theorem dX12_feed_48 : decode cX12_feed 48 = .ok (.invokevirtual 74, 3) := by decide +kernel
theorem dX12_feed_51 : decode cX12_feed 51 = .ok (.aload_n 0, 1) := by decide +kernel
theorem dX12_feed_52 : decode cX12_feed 52 = .ok (.getfield 26, 3) := by decide +kernel
theorem dX12_feed_55 : decode cX12_feed 55 = .ok (.iload 5, 2) := by decide +kernel
theorem dX12_feed_57 : decode cX12_feed 57 = .ok (.invokevirtual 74, 3) := by decide +kernel
theorem dX12_feed_60 : decode cX12_feed 60 = .ok (.aload_n 0, 1) := by decide +kernel
theorem dX12_feed_61 : decode cX12_feed 61 = .ok (.getfield 26, 3) := by decide +kernel
theorem dX12_feed_64 : decode cX12_feed 64 = .ok (.getfield 71, 3) := by decide +kernel
theorem dX12_feed_67 : decode cX12_feed 67 = .ok (.ireturn, 1) := by decide +kernel
noncomputable def f_X12_feed (a1 : Int32) (a2 : Int32) (a3 : Int32) (a4 : Int32) (a5 : Int32) (σ : jM) : Option (Int32 × jM) :=
  (if ((rI σ 262 1) + 20) ≤ 300 then bd (f_X11_takeBytes a1 σ) (fun _ σ3 => bd (f_X11_takeBytes a2 σ3) (fun _ σ6 => bd (f_X11_takeBytes a3 σ6) (fun _ σ9 => bd (f_X11_takeBytes a4 σ9) (fun _ σ12 => bd (f_X11_takeBytes a5 σ12) (fun _ σ15 => some ((rI σ15 262 1), σ15)))))) else some ((-1), σ))
set_option maxRecDepth 20000 in
set_option maxHeartbeats 4000000 in
theorem t_X12_feed {a1 : Int32} {a2 : Int32} {a3 : Int32} {a4 : Int32} {a5 : Int32} {σ : jM} {r : Int32 × jM}  (h : f_X12_feed a1 a2 a3 a4 a5 σ = some r) : J mi_X12_feed 2 0 0 (jqI r) 0 [(0, .ref 0), (1, .int a1), (2, .int a2), (3, .int a3), (4, .int a4), (5, .int a5)] [] (ms σ) := by
  unfold f_X12_feed at h
  refine J_aload_n 0 dX12_feed_0 rfl ?_
  refine M_getR gf_X12_26_11 dX12_feed_1 (g_0_1 _) k_0 n_0 ?_
  refine M_getI gf_X12_71_10 dX12_feed_4 k_262 n_262 ?_
  refine J_bipush (v := 20) dX12_feed_7 (by decide) ?_
  refine J_iadd dX12_feed_9 ?_
  refine J_sipush (v := 300) dX12_feed_10 (by decide) ?_
  refine J_icmp_le (tgt := 18) dX12_feed_13 (by decide) (fun c1 => ?_) (fun c1 => ?_)
  · have h := (if_pos c1).symm.trans h
    refine J_aload_n 0 dX12_feed_18 rfl ?_
    refine M_getR gf_X12_26_11 dX12_feed_19 (g_0_1 _) k_0 n_0 ?_
    refine J_iload_n 1 dX12_feed_22 rfl ?_
    obtain ⟨_, σ3, h4, h⟩ := bd_inv h
    refine M_callVV (d' := 1) (k := 262) (As := [.int a1]) (st := []) cv_X12_74 dX12_feed_23 rfl (by decide) rfl (Nat.le_of_ble_eq_true rfl) (Nat.le_of_ble_eq_true rfl) (by decide) n_262 k_262 rfl rfl (t_X11_takeBytes  h4) ?_
    refine J_aload_n 0 dX12_feed_26 rfl ?_
    refine M_getR gf_X12_26_11 dX12_feed_27 (g_0_1 _) k_0 n_0 ?_
    refine J_iload_n 2 dX12_feed_30 rfl ?_
    obtain ⟨_, σ6, h7, h⟩ := bd_inv h
    refine M_callVV (d' := 1) (k := 262) (As := [.int a2]) (st := []) cv_X12_74 dX12_feed_31 rfl (by decide) rfl (Nat.le_of_ble_eq_true rfl) (Nat.le_of_ble_eq_true rfl) (by decide) n_262 k_262 rfl rfl (t_X11_takeBytes  h7) ?_
    refine J_aload_n 0 dX12_feed_34 rfl ?_
    refine M_getR gf_X12_26_11 dX12_feed_35 (g_0_1 _) k_0 n_0 ?_
    refine J_iload_n 3 dX12_feed_38 rfl ?_
    obtain ⟨_, σ9, h10, h⟩ := bd_inv h
    refine M_callVV (d' := 1) (k := 262) (As := [.int a3]) (st := []) cv_X12_74 dX12_feed_39 rfl (by decide) rfl (Nat.le_of_ble_eq_true rfl) (Nat.le_of_ble_eq_true rfl) (by decide) n_262 k_262 rfl rfl (t_X11_takeBytes  h10) ?_
    refine J_aload_n 0 dX12_feed_42 rfl ?_
    refine M_getR gf_X12_26_11 dX12_feed_43 (g_0_1 _) k_0 n_0 ?_
    refine J_iload 4 dX12_feed_46 rfl ?_
    obtain ⟨_, σ12, h13, h⟩ := bd_inv h
    refine M_callVV (d' := 1) (k := 262) (As := [.int a4]) (st := []) cv_X12_74 dX12_feed_48 rfl (by decide) rfl (Nat.le_of_ble_eq_true rfl) (Nat.le_of_ble_eq_true rfl) (by decide) n_262 k_262 rfl rfl (t_X11_takeBytes  h13) ?_
    refine J_aload_n 0 dX12_feed_51 rfl ?_
    refine M_getR gf_X12_26_11 dX12_feed_52 (g_0_1 _) k_0 n_0 ?_
    refine J_iload 5 dX12_feed_55 rfl ?_
    obtain ⟨_, σ15, h16, h⟩ := bd_inv h
    refine M_callVV (d' := 1) (k := 262) (As := [.int a5]) (st := []) cv_X12_74 dX12_feed_57 rfl (by decide) rfl (Nat.le_of_ble_eq_true rfl) (Nat.le_of_ble_eq_true rfl) (by decide) n_262 k_262 rfl rfl (t_X11_takeBytes  h16) ?_
    refine J_aload_n 0 dX12_feed_60 rfl ?_
    refine M_getR gf_X12_26_11 dX12_feed_61 (g_0_1 _) k_0 n_0 ?_
    refine M_getI gf_X12_71_10 dX12_feed_64 k_262 n_262 ?_
    exact J_ret (v := some (.int (rI σ15 262 1))) rfl ⟨dX12_feed_67, Or.inl rfl⟩ (jqI_mk h)
  · have h := (if_neg c1).symm.trans h
    refine J_iconst (v := (-1)) dX12_feed_16 (by decide) ?_
    exact J_ret (v := some (.int (-1))) rfl ⟨dX12_feed_17, Or.inl rfl⟩ (jqI_mk h)
theorem dX12_end_0 : decode cX12_end 0 = .ok (.iload_n 1, 1) := by decide +kernel
theorem dX12_end_1 : decode cX12_end 1 = .ok (.ifCond .lt 14, 3) := by decide +kernel
theorem dX12_end_4 : decode cX12_end 4 = .ok (.iload_n 1, 1) := by decide +kernel
theorem dX12_end_5 : decode cX12_end 5 = .ok (.aload_n 0, 1) := by decide +kernel
theorem dX12_end_6 : decode cX12_end 6 = .ok (.getfield 26, 3) := by decide +kernel
theorem dX12_end_9 : decode cX12_end 9 = .ok (.getfield 71, 3) := by decide +kernel
theorem dX12_end_12 : decode cX12_end 12 = .ok (.if_icmp .le 5, 3) := by decide +kernel
theorem dX12_end_15 : decode cX12_end 15 = .ok (.iconst (-1), 1) := by decide +kernel
theorem dX12_end_16 : decode cX12_end 16 = .ok (.ireturn, 1) := by decide +kernel
theorem dX12_end_17 : decode cX12_end 17 = .ok (.aload_n 0, 1) := by decide +kernel
theorem dX12_end_18 : decode cX12_end 18 = .ok (.getfield 26, 3) := by decide +kernel
theorem dX12_end_21 : decode cX12_end 21 = .ok (.iload_n 1, 1) := by decide +kernel
theorem dX12_end_22 : decode cX12_end 22 = .ok (.putfield 71, 3) := by decide +kernel
theorem dX12_end_25 : decode cX12_end 25 = .ok (.iload_n 1, 1) := by decide +kernel
theorem dX12_end_26 : decode cX12_end 26 = .ok (.ireturn, 1) := by decide +kernel
noncomputable def f_X12_end_15   (σ : jM) : Option (Int32 × jM) :=
  some ((-1), σ)
noncomputable def f_X12_end (a1 : Int32) (σ : jM) : Option (Int32 × jM) :=
  (if a1 < 0 then f_X12_end_15   σ else (if a1 ≤ (rI σ 262 1) then some (a1, wI σ 262 1 a1) else f_X12_end_15   σ))
set_option maxRecDepth 20000 in
set_option maxHeartbeats 4000000 in
theorem t_X12_end_15   (σ : jM) (r : Int32 × jM)  (h : f_X12_end_15   σ = some r) : J mi_X12_end 1 0 0 (jqI r) 15 [] [] (ms σ) := by
  unfold f_X12_end_15 at h
  refine J_iconst (v := (-1)) dX12_end_15 (by decide) ?_
  exact J_ret (v := some (.int (-1))) rfl ⟨dX12_end_16, Or.inl rfl⟩ (jqI_mk h)
set_option maxRecDepth 20000 in
set_option maxHeartbeats 4000000 in
theorem t_X12_end {a1 : Int32} {σ : jM} {r : Int32 × jM}  (h : f_X12_end a1 σ = some r) : J mi_X12_end 1 0 0 (jqI r) 0 [(0, .ref 0), (1, .int a1)] [] (ms σ) := by
  unfold f_X12_end at h
  refine J_iload_n 1 dX12_end_0 rfl ?_
  refine J_if_lt (tgt := 15) dX12_end_1 (by decide) (fun c1 => ?_) (fun c1 => ?_)
  · have h := (if_pos c1).symm.trans h
    refine J_pick [] rfl ?_
    exact t_X12_end_15   _ _  h
  · have h := (if_neg c1).symm.trans h
    refine J_iload_n 1 dX12_end_4 rfl ?_
    refine J_aload_n 0 dX12_end_5 rfl ?_
    refine M_getR gf_X12_26_11 dX12_end_6 (g_0_1 _) k_0 n_0 ?_
    refine M_getI gf_X12_71_10 dX12_end_9 k_262 n_262 ?_
    refine J_icmp_le (tgt := 17) dX12_end_12 (by decide) (fun c2 => ?_) (fun c2 => ?_)
    · have h := (if_pos c2).symm.trans h
      refine J_aload_n 0 dX12_end_17 rfl ?_
      refine M_getR gf_X12_26_11 dX12_end_18 (g_0_1 _) k_0 n_0 ?_
      refine J_iload_n 1 dX12_end_21 rfl ?_
      refine M_putI pf_X12_71_10 dX12_end_22 k_262 n_262 ⟨rfl, rfl⟩ ?_
      refine J_iload_n 1 dX12_end_25 rfl ?_
      exact J_ret (v := some (.int a1)) rfl ⟨dX12_end_26, Or.inl rfl⟩ (jqI_mk h)
    · have h := (if_neg c2).symm.trans h
      refine J_pick [] rfl ?_
      exact t_X12_end_15   _ _  h
theorem dX12_place_0 : decode cX12_place 0 = .ok (.aload_n 0, 1) := by decide +kernel
theorem dX12_place_1 : decode cX12_place 1 = .ok (.getfield 26, 3) := by decide +kernel
theorem dX12_place_4 : decode cX12_place 4 = .ok (.getfield 119, 3) := by decide +kernel
theorem dX12_place_7 : decode cX12_place 7 = .ok (.ireturn, 1) := by decide +kernel
noncomputable def f_X12_place  (σ : jM) : Option (Int32 × jM) :=
  some ((rI σ 262 3), σ)
set_option maxRecDepth 20000 in
set_option maxHeartbeats 4000000 in
theorem t_X12_place  {σ : jM} {r : Int32 × jM}  (h : f_X12_place  σ = some r) : J mi_X12_place 1 0 0 (jqI r) 0 [(0, .ref 0)] [] (ms σ) := by
  unfold f_X12_place at h
  refine J_aload_n 0 dX12_place_0 rfl ?_
  refine M_getR gf_X12_26_11 dX12_place_1 (g_0_1 _) k_0 n_0 ?_
  refine M_getI gf_X12_119_10 dX12_place_4 k_262 n_262 ?_
  exact J_ret (v := some (.int (rI σ 262 3))) rfl ⟨dX12_place_7, Or.inl rfl⟩ (jqI_mk h)
theorem dX12_letter_0 : decode cX12_letter 0 = .ok (.iload_n 1, 1) := by decide +kernel
theorem dX12_letter_1 : decode cX12_letter 1 = .ok (.ifCond .lt 20, 3) := by decide +kernel
theorem dX12_letter_4 : decode cX12_letter 4 = .ok (.iload_n 1, 1) := by decide +kernel
theorem dX12_letter_5 : decode cX12_letter 5 = .ok (.aload_n 0, 1) := by decide +kernel
theorem dX12_letter_6 : decode cX12_letter 6 = .ok (.getfield 309, 3) := by decide +kernel
theorem dX12_letter_9 : decode cX12_letter 9 = .ok (.if_icmp .ge 12, 3) := by decide +kernel
theorem dX12_letter_12 : decode cX12_letter 12 = .ok (.aload_n 0, 1) := by decide +kernel
theorem dX12_letter_13 : decode cX12_letter 13 = .ok (.getfield 9, 3) := by decide +kernel
theorem dX12_letter_16 : decode cX12_letter 16 = .ok (.iload_n 1, 1) := by decide +kernel
theorem dX12_letter_17 : decode cX12_letter 17 = .ok (.iaload, 1) := by decide +kernel
theorem dX12_letter_18 : decode cX12_letter 18 = .ok (.goto 4, 3) := by decide +kernel
theorem dX12_letter_21 : decode cX12_letter 21 = .ok (.iconst (-1), 1) := by decide +kernel
theorem dX12_letter_22 : decode cX12_letter 22 = .ok (.ireturn, 1) := by decide +kernel
noncomputable def f_X12_letter_22  (s0 : Int32) (σ : jM) : Option (Int32 × jM) :=
  some (s0, σ)
noncomputable def f_X12_letter_21   (σ : jM) : Option (Int32 × jM) :=
  f_X12_letter_22  (-1) σ
noncomputable def f_X12_letter (a1 : Int32) (σ : jM) : Option (Int32 × jM) :=
  (if a1 < 0 then f_X12_letter_21   σ else (if (rI σ 0 7) ≤ a1 then f_X12_letter_21   σ else gd (inb a1 12) (f_X12_letter_22  (rI σ 1 (Int32.toNatClampNeg a1)) σ)))
set_option maxRecDepth 20000 in
set_option maxHeartbeats 4000000 in
theorem t_X12_letter_22  (s0 : Int32) (σ : jM) (r : Int32 × jM)  (h : f_X12_letter_22  s0 σ = some r) : J mi_X12_letter 1 0 0 (jqI r) 22 [] [.int s0] (ms σ) := by
  unfold f_X12_letter_22 at h
  exact J_ret (v := some (.int s0)) rfl ⟨dX12_letter_22, Or.inl rfl⟩ (jqI_mk h)
set_option maxRecDepth 20000 in
set_option maxHeartbeats 4000000 in
theorem t_X12_letter_21   (σ : jM) (r : Int32 × jM)  (h : f_X12_letter_21   σ = some r) : J mi_X12_letter 1 0 0 (jqI r) 21 [] [] (ms σ) := by
  unfold f_X12_letter_21 at h
  refine J_iconst (v := (-1)) dX12_letter_21 (by decide) ?_
  exact t_X12_letter_22  _ _ _  h
set_option maxRecDepth 20000 in
set_option maxHeartbeats 4000000 in
theorem t_X12_letter {a1 : Int32} {σ : jM} {r : Int32 × jM}  (h : f_X12_letter a1 σ = some r) : J mi_X12_letter 1 0 0 (jqI r) 0 [(0, .ref 0), (1, .int a1)] [] (ms σ) := by
  unfold f_X12_letter at h
  refine J_iload_n 1 dX12_letter_0 rfl ?_
  refine J_if_lt (tgt := 21) dX12_letter_1 (by decide) (fun c2 => ?_) (fun c2 => ?_)
  · have h := (if_pos c2).symm.trans h
    refine J_pick [] rfl ?_
    exact t_X12_letter_21   _ _  h
  · have h := (if_neg c2).symm.trans h
    refine J_iload_n 1 dX12_letter_4 rfl ?_
    refine J_aload_n 0 dX12_letter_5 rfl ?_
    refine M_getI gf_X12_309_11 dX12_letter_6 k_0 n_0 ?_
    refine J_icmp_ge (tgt := 21) dX12_letter_9 (by decide) (fun c3 => ?_) (fun c3 => ?_)
    · have h := (if_pos c3).symm.trans h
      refine J_pick [] rfl ?_
      exact t_X12_letter_21   _ _  h
    · have h := (if_neg c3).symm.trans h
      refine J_aload_n 0 dX12_letter_12 rfl ?_
      refine M_getR gf_X12_9_11 dX12_letter_13 (g_0_6 _) k_0 n_0 ?_
      refine J_iload_n 1 dX12_letter_16 rfl ?_
      obtain ⟨g4, h⟩ := gd_inv h
      refine M_iald dX12_letter_17 a_1 n_1 g4 ?_
      refine J_goto (tgt := 22) dX12_letter_18 (by decide) ?_
      refine J_pick [] rfl ?_
      exact t_X12_letter_22  _ _ _  h
theorem dX12_count_0 : decode cX12_count 0 = .ok (.iload_n 1, 1) := by decide +kernel
theorem dX12_count_1 : decode cX12_count 1 = .ok (.tableswitch 157 0 9 #[55, 63, 71, 79, 87, 95, 106, 114, 119, 138], 55) := by decide +kernel
theorem dX12_count_56 : decode cX12_count 56 = .ok (.aload_n 0, 1) := by decide +kernel
theorem dX12_count_57 : decode cX12_count 57 = .ok (.getfield 19, 3) := by decide +kernel
theorem dX12_count_60 : decode cX12_count 60 = .ok (.getfield 66, 3) := by decide +kernel
theorem dX12_count_63 : decode cX12_count 63 = .ok (.ireturn, 1) := by decide +kernel
theorem dX12_count_64 : decode cX12_count 64 = .ok (.aload_n 0, 1) := by decide +kernel
theorem dX12_count_65 : decode cX12_count 65 = .ok (.getfield 19, 3) := by decide +kernel
theorem dX12_count_68 : decode cX12_count 68 = .ok (.getfield 78, 3) := by decide +kernel
theorem dX12_count_71 : decode cX12_count 71 = .ok (.ireturn, 1) := by decide +kernel
theorem dX12_count_72 : decode cX12_count 72 = .ok (.aload_n 0, 1) := by decide +kernel
theorem dX12_count_73 : decode cX12_count 73 = .ok (.getfield 19, 3) := by decide +kernel
theorem dX12_count_76 : decode cX12_count 76 = .ok (.getfield 100, 3) := by decide +kernel
theorem dX12_count_79 : decode cX12_count 79 = .ok (.ireturn, 1) := by decide +kernel
theorem dX12_count_80 : decode cX12_count 80 = .ok (.aload_n 0, 1) := by decide +kernel
theorem dX12_count_81 : decode cX12_count 81 = .ok (.getfield 19, 3) := by decide +kernel
theorem dX12_count_84 : decode cX12_count 84 = .ok (.getfield 152, 3) := by decide +kernel
theorem dX12_count_87 : decode cX12_count 87 = .ok (.ireturn, 1) := by decide +kernel
theorem dX12_count_88 : decode cX12_count 88 = .ok (.aload_n 0, 1) := by decide +kernel
theorem dX12_count_89 : decode cX12_count 89 = .ok (.getfield 19, 3) := by decide +kernel
theorem dX12_count_92 : decode cX12_count 92 = .ok (.getfield 169, 3) := by decide +kernel
theorem dX12_count_95 : decode cX12_count 95 = .ok (.ireturn, 1) := by decide +kernel
theorem dX12_count_96 : decode cX12_count 96 = .ok (.aload_n 0, 1) := by decide +kernel
theorem dX12_count_97 : decode cX12_count 97 = .ok (.getfield 19, 3) := by decide +kernel
theorem dX12_count_100 : decode cX12_count 100 = .ok (.getfield 135, 3) := by decide +kernel
theorem dX12_count_103 : decode cX12_count 103 = .ok (.getfield 147, 3) := by decide +kernel
theorem dX12_count_106 : decode cX12_count 106 = .ok (.ireturn, 1) := by decide +kernel
theorem dX12_count_107 : decode cX12_count 107 = .ok (.aload_n 0, 1) := by decide +kernel
theorem dX12_count_108 : decode cX12_count 108 = .ok (.getfield 26, 3) := by decide +kernel
theorem dX12_count_111 : decode cX12_count 111 = .ok (.getfield 71, 3) := by decide +kernel
theorem dX12_count_114 : decode cX12_count 114 = .ok (.ireturn, 1) := by decide +kernel
theorem dX12_count_115 : decode cX12_count 115 = .ok (.aload_n 0, 1) := by decide +kernel
theorem dX12_count_116 : decode cX12_count 116 = .ok (.getfield 309, 3) := by decide +kernel
theorem dX12_count_119 : decode cX12_count 119 = .ok (.ireturn, 1) := by decide +kernel
theorem dX12_count_120 : decode cX12_count 120 = .ok (.aload_n 0, 1) := by decide +kernel
theorem dX12_count_121 : decode cX12_count 121 = .ok (.aload_n 0, 1) := by decide +kernel
theorem dX12_count_122 : decode cX12_count 122 = .ok (.getfield 19, 3) := by decide +kernel
theorem dX12_count_125 : decode cX12_count 125 = .ok (.getfield 81, 3) := by decide +kernel
theorem dX12_count_128 : decode cX12_count 128 = .ok (.aload_n 0, 1) := by decide +kernel
theorem dX12_count_129 : decode cX12_count 129 = .ok (.getfield 19, 3) := by decide +kernel
theorem dX12_count_132 : decode cX12_count 132 = .ok (.getfield 78, 3) := by decide +kernel
theorem dX12_count_135 : decode cX12_count 135 = .ok (.invokevirtual 371, 3) := by decide +kernel
theorem dX12_count_138 : decode cX12_count 138 = .ok (.ireturn, 1) := by decide +kernel
theorem dX12_count_139 : decode cX12_count 139 = .ok (.aload_n 0, 1) := by decide +kernel
theorem dX12_count_140 : decode cX12_count 140 = .ok (.aload_n 0, 1) := by decide +kernel
theorem dX12_count_141 : decode cX12_count 141 = .ok (.getfield 19, 3) := by decide +kernel
theorem dX12_count_144 : decode cX12_count 144 = .ok (.getfield 179, 3) := by decide +kernel
theorem dX12_count_147 : decode cX12_count 147 = .ok (.aload_n 0, 1) := by decide +kernel
theorem dX12_count_148 : decode cX12_count 148 = .ok (.getfield 19, 3) := by decide +kernel
theorem dX12_count_151 : decode cX12_count 151 = .ok (.getfield 169, 3) := by decide +kernel
theorem dX12_count_154 : decode cX12_count 154 = .ok (.invokevirtual 371, 3) := by decide +kernel
theorem dX12_count_157 : decode cX12_count 157 = .ok (.ireturn, 1) := by decide +kernel
theorem dX12_count_158 : decode cX12_count 158 = .ok (.iconst (-1), 1) := by decide +kernel
theorem dX12_count_159 : decode cX12_count 159 = .ok (.ireturn, 1) := by decide +kernel
noncomputable def f_X12_count (a1 : Int32) (σ : jM) : Option (Int32 × jM) :=
  (if a1 = 0 then some ((rI σ 3 0), σ) else (if a1 = 1 then some ((rI σ 3 2), σ) else (if a1 = 2 then some ((rI σ 3 4), σ) else (if a1 = 3 then some ((rI σ 3 6), σ) else (if a1 = 4 then some ((rI σ 3 8), σ) else (if a1 = 5 then some ((rI σ 8 1), σ) else (if a1 = 6 then some ((rI σ 262 1), σ) else (if a1 = 7 then some ((rI σ 0 7), σ) else (if a1 = 8 then bd (f_X12_countingToday_4 (rI σ 3 2) σ) (fun r11 σ12 => some (r11, σ12)) else (if a1 = 9 then bd (f_X12_countingToday_7 (rI σ 3 8) σ) (fun r15 σ16 => some (r15, σ16)) else some ((-1), σ)))))))))))
set_option maxRecDepth 20000 in
set_option maxHeartbeats 4000000 in
theorem t_X12_count {a1 : Int32} {σ : jM} {r : Int32 × jM}  (h : f_X12_count a1 σ = some r) : J mi_X12_count 3 0 0 (jqI r) 0 [(0, .ref 0), (1, .int a1)] [] (ms σ) := by
  unfold f_X12_count at h
  refine J_iload_n 1 dX12_count_0 rfl ?_
  by_cases c2 : a1 = 0
  · have h := (if_pos c2).symm.trans h
    refine J_tableIn (off := 55) (tgt := 56) dX12_count_1 (by rw [c2]; decide) (by rw [c2]; decide) (by rw [c2]; decide) (by decide) ?_
    refine J_aload_n 0 dX12_count_56 rfl ?_
    refine M_getR gf_X12_19_11 dX12_count_57 (g_0_0 _) k_0 n_0 ?_
    refine M_getI gf_X12_66_0 dX12_count_60 k_3 n_3 ?_
    exact J_ret (v := some (.int (rI σ 3 0))) rfl ⟨dX12_count_63, Or.inl rfl⟩ (jqI_mk h)
  · have h := (if_neg c2).symm.trans h
    by_cases c3 : a1 = 1
    · have h := (if_pos c3).symm.trans h
      refine J_tableIn (off := 63) (tgt := 64) dX12_count_1 (by rw [c3]; decide) (by rw [c3]; decide) (by rw [c3]; decide) (by decide) ?_
      refine J_aload_n 0 dX12_count_64 rfl ?_
      refine M_getR gf_X12_19_11 dX12_count_65 (g_0_0 _) k_0 n_0 ?_
      refine M_getI gf_X12_78_0 dX12_count_68 k_3 n_3 ?_
      exact J_ret (v := some (.int (rI σ 3 2))) rfl ⟨dX12_count_71, Or.inl rfl⟩ (jqI_mk h)
    · have h := (if_neg c3).symm.trans h
      by_cases c4 : a1 = 2
      · have h := (if_pos c4).symm.trans h
        refine J_tableIn (off := 71) (tgt := 72) dX12_count_1 (by rw [c4]; decide) (by rw [c4]; decide) (by rw [c4]; decide) (by decide) ?_
        refine J_aload_n 0 dX12_count_72 rfl ?_
        refine M_getR gf_X12_19_11 dX12_count_73 (g_0_0 _) k_0 n_0 ?_
        refine M_getI gf_X12_100_0 dX12_count_76 k_3 n_3 ?_
        exact J_ret (v := some (.int (rI σ 3 4))) rfl ⟨dX12_count_79, Or.inl rfl⟩ (jqI_mk h)
      · have h := (if_neg c4).symm.trans h
        by_cases c5 : a1 = 3
        · have h := (if_pos c5).symm.trans h
          refine J_tableIn (off := 79) (tgt := 80) dX12_count_1 (by rw [c5]; decide) (by rw [c5]; decide) (by rw [c5]; decide) (by decide) ?_
          refine J_aload_n 0 dX12_count_80 rfl ?_
          refine M_getR gf_X12_19_11 dX12_count_81 (g_0_0 _) k_0 n_0 ?_
          refine M_getI gf_X12_152_0 dX12_count_84 k_3 n_3 ?_
          exact J_ret (v := some (.int (rI σ 3 6))) rfl ⟨dX12_count_87, Or.inl rfl⟩ (jqI_mk h)
        · have h := (if_neg c5).symm.trans h
          by_cases c6 : a1 = 4
          · have h := (if_pos c6).symm.trans h
            refine J_tableIn (off := 87) (tgt := 88) dX12_count_1 (by rw [c6]; decide) (by rw [c6]; decide) (by rw [c6]; decide) (by decide) ?_
            refine J_aload_n 0 dX12_count_88 rfl ?_
            refine M_getR gf_X12_19_11 dX12_count_89 (g_0_0 _) k_0 n_0 ?_
            refine M_getI gf_X12_169_0 dX12_count_92 k_3 n_3 ?_
            exact J_ret (v := some (.int (rI σ 3 8))) rfl ⟨dX12_count_95, Or.inl rfl⟩ (jqI_mk h)
          · have h := (if_neg c6).symm.trans h
            by_cases c7 : a1 = 5
            · have h := (if_pos c7).symm.trans h
              refine J_tableIn (off := 95) (tgt := 96) dX12_count_1 (by rw [c7]; decide) (by rw [c7]; decide) (by rw [c7]; decide) (by decide) ?_
              refine J_aload_n 0 dX12_count_96 rfl ?_
              refine M_getR gf_X12_19_11 dX12_count_97 (g_0_0 _) k_0 n_0 ?_
              refine M_getR gf_X12_135_0 dX12_count_100 (g_3_9 _) k_3 n_3 ?_
              refine M_getI gf_X12_147_4 dX12_count_103 k_8 n_8 ?_
              exact J_ret (v := some (.int (rI σ 8 1))) rfl ⟨dX12_count_106, Or.inl rfl⟩ (jqI_mk h)
            · have h := (if_neg c7).symm.trans h
              by_cases c8 : a1 = 6
              · have h := (if_pos c8).symm.trans h
                refine J_tableIn (off := 106) (tgt := 107) dX12_count_1 (by rw [c8]; decide) (by rw [c8]; decide) (by rw [c8]; decide) (by decide) ?_
                refine J_aload_n 0 dX12_count_107 rfl ?_
                refine M_getR gf_X12_26_11 dX12_count_108 (g_0_1 _) k_0 n_0 ?_
                refine M_getI gf_X12_71_10 dX12_count_111 k_262 n_262 ?_
                exact J_ret (v := some (.int (rI σ 262 1))) rfl ⟨dX12_count_114, Or.inl rfl⟩ (jqI_mk h)
              · have h := (if_neg c8).symm.trans h
                by_cases c9 : a1 = 7
                · have h := (if_pos c9).symm.trans h
                  refine J_tableIn (off := 114) (tgt := 115) dX12_count_1 (by rw [c9]; decide) (by rw [c9]; decide) (by rw [c9]; decide) (by decide) ?_
                  refine J_aload_n 0 dX12_count_115 rfl ?_
                  refine M_getI gf_X12_309_11 dX12_count_116 k_0 n_0 ?_
                  exact J_ret (v := some (.int (rI σ 0 7))) rfl ⟨dX12_count_119, Or.inl rfl⟩ (jqI_mk h)
                · have h := (if_neg c9).symm.trans h
                  by_cases c10 : a1 = 8
                  · have h := (if_pos c10).symm.trans h
                    refine J_tableIn (off := 119) (tgt := 120) dX12_count_1 (by rw [c10]; decide) (by rw [c10]; decide) (by rw [c10]; decide) (by decide) ?_
                    refine J_aload_n 0 dX12_count_120 rfl ?_
                    refine J_aload_n 0 dX12_count_121 rfl ?_
                    refine M_getR gf_X12_19_11 dX12_count_122 (g_0_0 _) k_0 n_0 ?_
                    refine M_getR gf_X12_81_0 dX12_count_125 (g_3_1 _) k_3 n_3 ?_
                    refine J_aload_n 0 dX12_count_128 rfl ?_
                    refine M_getR gf_X12_19_11 dX12_count_129 (g_0_0 _) k_0 n_0 ?_
                    refine M_getI gf_X12_78_0 dX12_count_132 k_3 n_3 ?_
                    obtain ⟨r11, σ12, h13, h⟩ := bd_inv h
                    refine M_callVI (d' := 2) (k := 0) (As := [.ref 4, .int (rI σ 3 2)]) (st := []) cv_X12_371 dX12_count_135 rfl (by decide) rfl (Nat.le_of_ble_eq_true rfl) (Nat.le_of_ble_eq_true rfl) (by decide) n_0 k_0 rfl rfl (t_X12_countingToday_4  h13) ?_
                    exact J_ret (v := some (.int r11)) rfl ⟨dX12_count_138, Or.inl rfl⟩ (jqI_mk h)
                  · have h := (if_neg c10).symm.trans h
                    by_cases c14 : a1 = 9
                    · have h := (if_pos c14).symm.trans h
                      refine J_tableIn (off := 138) (tgt := 139) dX12_count_1 (by rw [c14]; decide) (by rw [c14]; decide) (by rw [c14]; decide) (by decide) ?_
                      refine J_aload_n 0 dX12_count_139 rfl ?_
                      refine J_aload_n 0 dX12_count_140 rfl ?_
                      refine M_getR gf_X12_19_11 dX12_count_141 (g_0_0 _) k_0 n_0 ?_
                      refine M_getR gf_X12_179_0 dX12_count_144 (g_3_7 _) k_3 n_3 ?_
                      refine J_aload_n 0 dX12_count_147 rfl ?_
                      refine M_getR gf_X12_19_11 dX12_count_148 (g_0_0 _) k_0 n_0 ?_
                      refine M_getI gf_X12_169_0 dX12_count_151 k_3 n_3 ?_
                      obtain ⟨r15, σ16, h17, h⟩ := bd_inv h
                      refine M_callVI (d' := 2) (k := 0) (As := [.ref 7, .int (rI σ 3 8)]) (st := []) cv_X12_371 dX12_count_154 rfl (by decide) rfl (Nat.le_of_ble_eq_true rfl) (Nat.le_of_ble_eq_true rfl) (by decide) n_0 k_0 rfl rfl (t_X12_countingToday_7  h17) ?_
                      exact J_ret (v := some (.int r15)) rfl ⟨dX12_count_157, Or.inl rfl⟩ (jqI_mk h)
                    · have h := (if_neg c14).symm.trans h
                      refine J_tableOut (tgt := 158) dX12_count_1 (sw_out 0 9 (by decide) (fun v hv1 hv2 => ?_)) (by decide) ?_
                      · rcases (by omega : v = 0 ∨ v = 1 ∨ v = 2 ∨ v = 3 ∨ v = 4 ∨ v = 5 ∨ v = 6 ∨ v = 7 ∨ v = 8 ∨ v = 9) with rfl | rfl | rfl | rfl | rfl | rfl | rfl | rfl | rfl | rfl
                        · exact c2
                        · exact c3
                        · exact c4
                        · exact c5
                        · exact c6
                        · exact c7
                        · exact c8
                        · exact c9
                        · exact c10
                        · exact c14
                      · refine J_iconst (v := (-1)) dX12_count_158 (by decide) ?_
                        exact J_ret (v := some (.int (-1))) rfl ⟨dX12_count_159, Or.inl rfl⟩ (jqI_mk h)
theorem dX12_forgetView_0 : decode cX12_forgetView 0 = .ok (.aload_n 0, 1) := by decide +kernel
theorem dX12_forgetView_1 : decode cX12_forgetView 1 = .ok (.getfield 19, 3) := by decide +kernel
theorem dX12_forgetView_4 : decode cX12_forgetView 4 = .ok (.iconst (-1), 1) := by decide +kernel
theorem dX12_forgetView_5 : decode cX12_forgetView 5 = .ok (.putfield 376, 3) := by decide +kernel
theorem dX12_forgetView_8 : decode cX12_forgetView 8 = .ok (.return_, 1) := by decide +kernel
noncomputable def f_X12_forgetView  (σ : jM) : Option (Unit × jM) :=
  some ((), wI σ 3 10 (-1))
set_option maxRecDepth 20000 in
set_option maxHeartbeats 4000000 in
theorem t_X12_forgetView  {σ : jM} {r : Unit × jM}  (h : f_X12_forgetView  σ = some r) : J mi_X12_forgetView 1 0 0 (jqV r) 0 [(0, .ref 0)] [] (ms σ) := by
  unfold f_X12_forgetView at h
  refine J_aload_n 0 dX12_forgetView_0 rfl ?_
  refine M_getR gf_X12_19_11 dX12_forgetView_1 (g_0_0 _) k_0 n_0 ?_
  refine J_iconst (v := (-1)) dX12_forgetView_4 (by decide) ?_
  refine M_putI pf_X12_376_0 dX12_forgetView_5 k_3 n_3 ⟨rfl, rfl⟩ ?_
  exact J_ret (v := none) rfl ⟨dX12_forgetView_8, rfl⟩ (jqV_mk h)
theorem dX12_writeByte_0 : decode cX12_writeByte 0 = .ok (.aload_n 0, 1) := by decide +kernel
theorem dX12_writeByte_1 : decode cX12_writeByte 1 = .ok (.getfield 309, 3) := by decide +kernel
theorem dX12_writeByte_4 : decode cX12_writeByte 4 = .ok (.aload_n 0, 1) := by decide +kernel
theorem dX12_writeByte_5 : decode cX12_writeByte 5 = .ok (.getfield 9, 3) := by decide +kernel
theorem dX12_writeByte_8 : decode cX12_writeByte 8 = .ok (.arraylength, 1) := by decide +kernel
theorem dX12_writeByte_9 : decode cX12_writeByte 9 = .ok (.if_icmp .ge 23, 3) := by decide +kernel
theorem dX12_writeByte_12 : decode cX12_writeByte 12 = .ok (.aload_n 0, 1) := by decide +kernel
theorem dX12_writeByte_13 : decode cX12_writeByte 13 = .ok (.getfield 9, 3) := by decide +kernel
theorem dX12_writeByte_16 : decode cX12_writeByte 16 = .ok (.aload_n 0, 1) := by decide +kernel
theorem dX12_writeByte_17 : decode cX12_writeByte 17 = .ok (.getfield 309, 3) := by decide +kernel
theorem dX12_writeByte_20 : decode cX12_writeByte 20 = .ok (.iload_n 1, 1) := by decide +kernel
theorem dX12_writeByte_21 : decode cX12_writeByte 21 = .ok (.iastore, 1) := by decide +kernel
theorem dX12_writeByte_22 : decode cX12_writeByte 22 = .ok (.aload_n 0, 1) := by decide +kernel
theorem dX12_writeByte_23 : decode cX12_writeByte 23 = .ok (.dup, 1) := by decide +kernel
theorem dX12_writeByte_24 : decode cX12_writeByte 24 = .ok (.getfield 309, 3) := by decide +kernel
theorem dX12_writeByte_27 : decode cX12_writeByte 27 = .ok (.iconst 1, 1) := by decide +kernel
theorem dX12_writeByte_28 : decode cX12_writeByte 28 = .ok (.iadd, 1) := by decide +kernel
theorem dX12_writeByte_29 : decode cX12_writeByte 29 = .ok (.putfield 309, 3) := by decide +kernel
theorem dX12_writeByte_32 : decode cX12_writeByte 32 = .ok (.return_, 1) := by decide +kernel
noncomputable def f_X12_writeByte_32   (σ : jM) : Option (Unit × jM) :=
  some ((), σ)
noncomputable def f_X12_writeByte (a1 : Int32) (σ : jM) : Option (Unit × jM) :=
  (if (Int32.ofNat 12) ≤ (rI σ 0 7) then f_X12_writeByte_32   σ else gd (inb (rI σ 0 7) 12) (f_X12_writeByte_32   (wI (wI σ 1 (Int32.toNatClampNeg (rI σ 0 7)) a1) 0 7 ((rI (wI σ 1 (Int32.toNatClampNeg (rI σ 0 7)) a1) 0 7) + 1))))
set_option maxRecDepth 20000 in
set_option maxHeartbeats 4000000 in
theorem t_X12_writeByte_32   (σ : jM) (r : Unit × jM)  (h : f_X12_writeByte_32   σ = some r) : J mi_X12_writeByte 1 0 0 (jqV r) 32 [] [] (ms σ) := by
  unfold f_X12_writeByte_32 at h
  exact J_ret (v := none) rfl ⟨dX12_writeByte_32, rfl⟩ (jqV_mk h)
set_option maxRecDepth 20000 in
set_option maxHeartbeats 4000000 in
theorem t_X12_writeByte {a1 : Int32} {σ : jM} {r : Unit × jM}  (h : f_X12_writeByte a1 σ = some r) : J mi_X12_writeByte 1 0 0 (jqV r) 0 [(0, .ref 0), (1, .int a1)] [] (ms σ) := by
  unfold f_X12_writeByte at h
  refine J_aload_n 0 dX12_writeByte_0 rfl ?_
  refine M_getI gf_X12_309_11 dX12_writeByte_1 k_0 n_0 ?_
  refine J_aload_n 0 dX12_writeByte_4 rfl ?_
  refine M_getR gf_X12_9_11 dX12_writeByte_5 (g_0_6 _) k_0 n_0 ?_
  refine M_alen dX12_writeByte_8 a_1 (by decide) n_1 ?_
  refine J_icmp_ge (tgt := 32) dX12_writeByte_9 (by decide) (fun c2 => ?_) (fun c2 => ?_)
  · have h := (if_pos c2).symm.trans h
    refine J_pick [] rfl ?_
    exact t_X12_writeByte_32   _ _  h
  · have h := (if_neg c2).symm.trans h
    refine J_aload_n 0 dX12_writeByte_12 rfl ?_
    refine M_getR gf_X12_9_11 dX12_writeByte_13 (g_0_6 _) k_0 n_0 ?_
    refine J_aload_n 0 dX12_writeByte_16 rfl ?_
    refine M_getI gf_X12_309_11 dX12_writeByte_17 k_0 n_0 ?_
    refine J_iload_n 1 dX12_writeByte_20 rfl ?_
    obtain ⟨g3, h⟩ := gd_inv h
    refine M_iast dX12_writeByte_21 a_1 n_1 g3 ?_
    refine J_aload_n 0 dX12_writeByte_22 rfl ?_
    refine J_dup dX12_writeByte_23 rfl ?_
    refine M_getI gf_X12_309_11 dX12_writeByte_24 k_0 n_0 ?_
    refine J_iconst (v := 1) dX12_writeByte_27 (by decide) ?_
    refine J_iadd dX12_writeByte_28 ?_
    refine M_putI pf_X12_309_11 dX12_writeByte_29 k_0 n_0 ⟨rfl, rfl⟩ ?_
    refine J_pick [] rfl ?_
    exact t_X12_writeByte_32   _ _  h
theorem dX12_isSign_0 : decode cX12_isSign 0 = .ok (.iload_n 0, 1) := by decide +kernel
theorem dX12_isSign_1 : decode cX12_isSign 1 = .ok (.ifCond .lt 13, 3) := by decide +kernel
theorem dX12_isSign_4 : decode cX12_isSign 4 = .ok (.iload_n 0, 1) := by decide +kernel
theorem dX12_isSign_5 : decode cX12_isSign 5 = .ok (.bipush 40, 2) := by decide +kernel
theorem dX12_isSign_7 : decode cX12_isSign 7 = .ok (.if_icmp .ge 7, 3) := by decide +kernel
theorem dX12_isSign_10 : decode cX12_isSign 10 = .ok (.iconst 1, 1) := by decide +kernel
theorem dX12_isSign_11 : decode cX12_isSign 11 = .ok (.goto 4, 3) := by decide +kernel
theorem dX12_isSign_14 : decode cX12_isSign 14 = .ok (.iconst 0, 1) := by decide +kernel
theorem dX12_isSign_15 : decode cX12_isSign 15 = .ok (.ireturn, 1) := by decide +kernel
noncomputable def f_X12_isSign_15  (s0 : Int32) (σ : jM) : Option (Int32 × jM) :=
  gd (s0 = 0 ∨ s0 = 1) (some (s0, σ))
noncomputable def f_X12_isSign_14   (σ : jM) : Option (Int32 × jM) :=
  f_X12_isSign_15  0 σ
noncomputable def f_X12_isSign (a0 : Int32) (σ : jM) : Option (Int32 × jM) :=
  (if a0 < 0 then f_X12_isSign_14   σ else (if 40 ≤ a0 then f_X12_isSign_14   σ else f_X12_isSign_15  1 σ))
set_option maxRecDepth 20000 in
set_option maxHeartbeats 4000000 in
theorem t_X12_isSign_15  (s0 : Int32) (σ : jM) (r : Int32 × jM)  (h : f_X12_isSign_15  s0 σ = some r) : J mi_X12_isSign 1 0 0 (jqI r) 15 [] [.int s0] (ms σ) := by
  unfold f_X12_isSign_15 at h
  obtain ⟨g2, h⟩ := gd_inv h
  exact J_ret (v := some (.int s0)) rfl ⟨dX12_isSign_15, Or.inr (Or.inl ⟨rfl, g2⟩)⟩ (jqI_mk h)
set_option maxRecDepth 20000 in
set_option maxHeartbeats 4000000 in
theorem t_X12_isSign_14   (σ : jM) (r : Int32 × jM)  (h : f_X12_isSign_14   σ = some r) : J mi_X12_isSign 1 0 0 (jqI r) 14 [] [] (ms σ) := by
  unfold f_X12_isSign_14 at h
  refine J_iconst (v := 0) dX12_isSign_14 (by decide) ?_
  exact t_X12_isSign_15  _ _ _  h
set_option maxRecDepth 20000 in
set_option maxHeartbeats 4000000 in
theorem t_X12_isSign {a0 : Int32} {σ : jM} {r : Int32 × jM}  (h : f_X12_isSign a0 σ = some r) : J mi_X12_isSign 1 0 0 (jqI r) 0 [(0, .int a0)] [] (ms σ) := by
  unfold f_X12_isSign at h
  refine J_iload_n 0 dX12_isSign_0 rfl ?_
  refine J_if_lt (tgt := 14) dX12_isSign_1 (by decide) (fun c3 => ?_) (fun c3 => ?_)
  · have h := (if_pos c3).symm.trans h
    refine J_pick [] rfl ?_
    exact t_X12_isSign_14   _ _  h
  · have h := (if_neg c3).symm.trans h
    refine J_iload_n 0 dX12_isSign_4 rfl ?_
    refine J_bipush (v := 40) dX12_isSign_5 (by decide) ?_
    refine J_icmp_ge (tgt := 14) dX12_isSign_7 (by decide) (fun c4 => ?_) (fun c4 => ?_)
    · have h := (if_pos c4).symm.trans h
      refine J_pick [] rfl ?_
      exact t_X12_isSign_14   _ _  h
    · have h := (if_neg c4).symm.trans h
      refine J_iconst (v := 1) dX12_isSign_10 (by decide) ?_
      refine J_goto (tgt := 15) dX12_isSign_11 (by decide) ?_
      refine J_pick [] rfl ?_
      exact t_X12_isSign_15  _ _ _  h
theorem dX12_isSort_0 : decode cX12_isSort 0 = .ok (.iload_n 0, 1) := by decide +kernel
theorem dX12_isSort_1 : decode cX12_isSort 1 = .ok (.ifCond .eq 8, 3) := by decide +kernel
theorem dX12_isSort_4 : decode cX12_isSort 4 = .ok (.iload_n 0, 1) := by decide +kernel
theorem dX12_isSort_5 : decode cX12_isSort 5 = .ok (.iconst 1, 1) := by decide +kernel
theorem dX12_isSort_6 : decode cX12_isSort 6 = .ok (.if_icmp .ne 7, 3) := by decide +kernel
theorem dX12_isSort_9 : decode cX12_isSort 9 = .ok (.iconst 1, 1) := by decide +kernel
theorem dX12_isSort_10 : decode cX12_isSort 10 = .ok (.goto 4, 3) := by decide +kernel
theorem dX12_isSort_13 : decode cX12_isSort 13 = .ok (.iconst 0, 1) := by decide +kernel
theorem dX12_isSort_14 : decode cX12_isSort 14 = .ok (.ireturn, 1) := by decide +kernel
noncomputable def f_X12_isSort_14  (s0 : Int32) (σ : jM) : Option (Int32 × jM) :=
  gd (s0 = 0 ∨ s0 = 1) (some (s0, σ))
noncomputable def f_X12_isSort_9   (σ : jM) : Option (Int32 × jM) :=
  f_X12_isSort_14  1 σ
noncomputable def f_X12_isSort (a0 : Int32) (σ : jM) : Option (Int32 × jM) :=
  (if a0 = 0 then f_X12_isSort_9   σ else (if a0 = 1 then f_X12_isSort_9   σ else f_X12_isSort_14  0 σ))
set_option maxRecDepth 20000 in
set_option maxHeartbeats 4000000 in
theorem t_X12_isSort_14  (s0 : Int32) (σ : jM) (r : Int32 × jM)  (h : f_X12_isSort_14  s0 σ = some r) : J mi_X12_isSort 1 0 0 (jqI r) 14 [] [.int s0] (ms σ) := by
  unfold f_X12_isSort_14 at h
  obtain ⟨g2, h⟩ := gd_inv h
  exact J_ret (v := some (.int s0)) rfl ⟨dX12_isSort_14, Or.inr (Or.inl ⟨rfl, g2⟩)⟩ (jqI_mk h)
set_option maxRecDepth 20000 in
set_option maxHeartbeats 4000000 in
theorem t_X12_isSort_9   (σ : jM) (r : Int32 × jM)  (h : f_X12_isSort_9   σ = some r) : J mi_X12_isSort 1 0 0 (jqI r) 9 [] [] (ms σ) := by
  unfold f_X12_isSort_9 at h
  refine J_iconst (v := 1) dX12_isSort_9 (by decide) ?_
  refine J_goto (tgt := 14) dX12_isSort_10 (by decide) ?_
  exact t_X12_isSort_14  _ _ _  h
set_option maxRecDepth 20000 in
set_option maxHeartbeats 4000000 in
theorem t_X12_isSort {a0 : Int32} {σ : jM} {r : Int32 × jM}  (h : f_X12_isSort a0 σ = some r) : J mi_X12_isSort 1 0 0 (jqI r) 0 [(0, .int a0)] [] (ms σ) := by
  unfold f_X12_isSort at h
  refine J_iload_n 0 dX12_isSort_0 rfl ?_
  refine J_if_eq (tgt := 9) dX12_isSort_1 (by decide) (fun c3 => ?_) (fun c3 => ?_)
  · have h := (if_pos c3).symm.trans h
    refine J_pick [] rfl ?_
    exact t_X12_isSort_9   _ _  h
  · have h := (if_neg c3).symm.trans h
    refine J_iload_n 0 dX12_isSort_4 rfl ?_
    refine J_iconst (v := 1) dX12_isSort_5 (by decide) ?_
    refine J_icmp_ne (tgt := 13) dX12_isSort_6 (by decide) (fun c4 => ?_) (fun c4 => ?_)
    · have h := (if_neg c4).symm.trans h
      refine J_iconst (v := 0) dX12_isSort_13 (by decide) ?_
      refine J_pick [] rfl ?_
      exact t_X12_isSort_14  _ _ _  h
    · have h := (if_pos c4).symm.trans h
      refine J_pick [] rfl ?_
      exact t_X12_isSort_9   _ _  h
theorem dX12_isHand_0 : decode cX12_isHand 0 = .ok (.iload_n 0, 1) := by decide +kernel
theorem dX12_isHand_1 : decode cX12_isHand 1 = .ok (.ifCond .lt 12, 3) := by decide +kernel
theorem dX12_isHand_4 : decode cX12_isHand 4 = .ok (.iload_n 0, 1) := by decide +kernel
theorem dX12_isHand_5 : decode cX12_isHand 5 = .ok (.iconst 4, 1) := by decide +kernel
theorem dX12_isHand_6 : decode cX12_isHand 6 = .ok (.if_icmp .ge 7, 3) := by decide +kernel
theorem dX12_isHand_9 : decode cX12_isHand 9 = .ok (.iconst 1, 1) := by decide +kernel
theorem dX12_isHand_10 : decode cX12_isHand 10 = .ok (.goto 4, 3) := by decide +kernel
theorem dX12_isHand_13 : decode cX12_isHand 13 = .ok (.iconst 0, 1) := by decide +kernel
theorem dX12_isHand_14 : decode cX12_isHand 14 = .ok (.ireturn, 1) := by decide +kernel
noncomputable def f_X12_isHand_14  (s0 : Int32) (σ : jM) : Option (Int32 × jM) :=
  gd (s0 = 0 ∨ s0 = 1) (some (s0, σ))
noncomputable def f_X12_isHand_13   (σ : jM) : Option (Int32 × jM) :=
  f_X12_isHand_14  0 σ
noncomputable def f_X12_isHand (a0 : Int32) (σ : jM) : Option (Int32 × jM) :=
  (if a0 < 0 then f_X12_isHand_13   σ else (if 4 ≤ a0 then f_X12_isHand_13   σ else f_X12_isHand_14  1 σ))
set_option maxRecDepth 20000 in
set_option maxHeartbeats 4000000 in
theorem t_X12_isHand_14  (s0 : Int32) (σ : jM) (r : Int32 × jM)  (h : f_X12_isHand_14  s0 σ = some r) : J mi_X12_isHand 1 0 0 (jqI r) 14 [] [.int s0] (ms σ) := by
  unfold f_X12_isHand_14 at h
  obtain ⟨g2, h⟩ := gd_inv h
  exact J_ret (v := some (.int s0)) rfl ⟨dX12_isHand_14, Or.inr (Or.inl ⟨rfl, g2⟩)⟩ (jqI_mk h)
set_option maxRecDepth 20000 in
set_option maxHeartbeats 4000000 in
theorem t_X12_isHand_13   (σ : jM) (r : Int32 × jM)  (h : f_X12_isHand_13   σ = some r) : J mi_X12_isHand 1 0 0 (jqI r) 13 [] [] (ms σ) := by
  unfold f_X12_isHand_13 at h
  refine J_iconst (v := 0) dX12_isHand_13 (by decide) ?_
  exact t_X12_isHand_14  _ _ _  h
set_option maxRecDepth 20000 in
set_option maxHeartbeats 4000000 in
theorem t_X12_isHand {a0 : Int32} {σ : jM} {r : Int32 × jM}  (h : f_X12_isHand a0 σ = some r) : J mi_X12_isHand 1 0 0 (jqI r) 0 [(0, .int a0)] [] (ms σ) := by
  unfold f_X12_isHand at h
  refine J_iload_n 0 dX12_isHand_0 rfl ?_
  refine J_if_lt (tgt := 13) dX12_isHand_1 (by decide) (fun c3 => ?_) (fun c3 => ?_)
  · have h := (if_pos c3).symm.trans h
    refine J_pick [] rfl ?_
    exact t_X12_isHand_13   _ _  h
  · have h := (if_neg c3).symm.trans h
    refine J_iload_n 0 dX12_isHand_4 rfl ?_
    refine J_iconst (v := 4) dX12_isHand_5 (by decide) ?_
    refine J_icmp_ge (tgt := 13) dX12_isHand_6 (by decide) (fun c4 => ?_) (fun c4 => ?_)
    · have h := (if_pos c4).symm.trans h
      refine J_pick [] rfl ?_
      exact t_X12_isHand_13   _ _  h
    · have h := (if_neg c4).symm.trans h
      refine J_iconst (v := 1) dX12_isHand_9 (by decide) ?_
      refine J_goto (tgt := 14) dX12_isHand_10 (by decide) ?_
      refine J_pick [] rfl ?_
      exact t_X12_isHand_14  _ _ _  h
theorem dX12_pairOf_0 : decode cX12_pairOf 0 = .ok (.iload_n 0, 1) := by decide +kernel
theorem dX12_pairOf_1 : decode cX12_pairOf 1 = .ok (.iload_n 1, 1) := by decide +kernel
theorem dX12_pairOf_2 : decode cX12_pairOf 2 = .ok (.invokestatic 402, 3) := by decide +kernel
theorem dX12_pairOf_5 : decode cX12_pairOf 5 = .ok (.istore_n 2, 1) := by decide +kernel
theorem dX12_pairOf_6 : decode cX12_pairOf 6 = .ok (.iload_n 0, 1) := by decide +kernel
theorem dX12_pairOf_7 : decode cX12_pairOf 7 = .ok (.iload_n 1, 1) := by decide +kernel
theorem dX12_pairOf_8 : decode cX12_pairOf 8 = .ok (.invokestatic 407, 3) := by decide +kernel
theorem dX12_pairOf_11 : decode cX12_pairOf 11 = .ok (.istore_n 3, 1) := by decide +kernel
theorem dX12_pairOf_12 : decode cX12_pairOf 12 = .ok (.iload_n 3, 1) := by decide +kernel
theorem dX12_pairOf_13 : decode cX12_pairOf 13 = .ok (.iload_n 3, 1) := by decide +kernel
theorem dX12_pairOf_14 : decode cX12_pairOf 14 = .ok (.iconst 1, 1) := by decide +kernel
theorem dX12_pairOf_15 : decode cX12_pairOf 15 = .ok (.isub, 1) := by decide +kernel
theorem dX12_pairOf_16 : decode cX12_pairOf 16 = .ok (.imul, 1) := by decide +kernel
theorem dX12_pairOf_17 : decode cX12_pairOf 17 = .ok (.iconst 2, 1) := by decide +kernel
theorem dX12_pairOf_18 : decode cX12_pairOf 18 = .ok (.idiv, 1) := by decide +kernel
theorem dX12_pairOf_19 : decode cX12_pairOf 19 = .ok (.iload_n 2, 1) := by decide +kernel
theorem dX12_pairOf_20 : decode cX12_pairOf 20 = .ok (.iadd, 1) := by decide +kernel
theorem dX12_pairOf_21 : decode cX12_pairOf 21 = .ok (.ireturn, 1) := by decide +kernel
noncomputable def f_X12_pairOf (a0 : Int32) (a1 : Int32) (σ : jM) : Option (Int32 × jM) :=
  some (((((if a0 < a1 then a1 else a0) * ((if a0 < a1 then a1 else a0) - 1)) / 2) + (if a1 < a0 then a1 else a0)), σ)
set_option maxRecDepth 20000 in
set_option maxHeartbeats 4000000 in
theorem t_X12_pairOf {a0 : Int32} {a1 : Int32} {σ : jM} {r : Int32 × jM}  (h : f_X12_pairOf a0 a1 σ = some r) : J mi_X12_pairOf 2 0 0 (jqI r) 0 [(0, .int a0), (1, .int a1)] [] (ms σ) := by
  unfold f_X12_pairOf at h
  refine J_iload_n 0 dX12_pairOf_0 rfl ?_
  refine J_iload_n 1 dX12_pairOf_1 rfl ?_
  refine J_min mm_X12_402 dX12_pairOf_2 (Nat.le_of_ble_eq_true rfl) (by decide) ?_
  refine J_istore_n (i := 2) (ls' := [(2, .int (if a1 < a0 then a1 else a0)), (0, .int a0), (1, .int a1)]) dX12_pairOf_5 rfl (by decide) rfl ?_
  refine J_iload_n 1 dX12_pairOf_6 rfl ?_
  refine J_iload_n 2 dX12_pairOf_7 rfl ?_
  refine J_max mm_X12_407 dX12_pairOf_8 (Nat.le_of_ble_eq_true rfl) (by decide) ?_
  refine J_istore_n (i := 3) (ls' := [(3, .int (if a0 < a1 then a1 else a0)), (2, .int (if a1 < a0 then a1 else a0)), (0, .int a0), (1, .int a1)]) dX12_pairOf_11 rfl (by decide) rfl ?_
  refine J_iload_n 0 dX12_pairOf_12 rfl ?_
  refine J_iload_n 0 dX12_pairOf_13 rfl ?_
  refine J_iconst (v := 1) dX12_pairOf_14 (by decide) ?_
  refine J_isub dX12_pairOf_15 ?_
  refine J_imul dX12_pairOf_16 ?_
  refine J_iconst (v := 2) dX12_pairOf_17 (by decide) ?_
  refine J_idiv dX12_pairOf_18 (by decide) ?_
  refine J_iload_n 1 dX12_pairOf_19 rfl ?_
  refine J_iadd dX12_pairOf_20 ?_
  exact J_ret (v := some (.int ((((if a0 < a1 then a1 else a0) * ((if a0 < a1 then a1 else a0) - 1)) / 2) + (if a1 < a0 then a1 else a0)))) rfl ⟨dX12_pairOf_21, Or.inl rfl⟩ (jqI_mk h)
