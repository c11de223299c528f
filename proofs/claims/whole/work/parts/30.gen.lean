theorem dX8_lay_0 : decode cX8_lay 0 = .ok (.aload_n 0, 1) := by decide +kernel
theorem dX8_lay_1 : decode cX8_lay 1 = .ok (.getfield 48, 3) := by decide +kernel
theorem dX8_lay_4 : decode cX8_lay 4 = .ok (.getfield 136, 3) := by decide +kernel
theorem dX8_lay_7 : decode cX8_lay 7 = .ok (.aload_n 0, 1) := by decide +kernel
theorem dX8_lay_8 : decode cX8_lay 8 = .ok (.getfield 21, 3) := by decide +kernel
theorem dX8_lay_11 : decode cX8_lay 11 = .ok (.iload_n 1, 1) := by decide +kernel
theorem dX8_lay_12 : decode cX8_lay 12 = .ok (.iaload, 1) := by decide +kernel
theorem dX8_lay_13 : decode cX8_lay 13 = .ok (.aaload, 1) := by decide +kernel
theorem dX8_lay_14 : decode cX8_lay 14 = .ok (.astore_n 3, 1) := by decide +kernel
theorem dX8_lay_15 : decode cX8_lay 15 = .ok (.aload_n 0, 1) := by decide +kernel
theorem dX8_lay_16 : decode cX8_lay 16 = .ok (.getfield 32, 3) := by decide +kernel
theorem dX8_lay_19 : decode cX8_lay 19 = .ok (.iload_n 1, 1) := by decide +kernel
theorem dX8_lay_20 : decode cX8_lay 20 = .ok (.iload_n 2, 1) := by decide +kernel
theorem dX8_lay_21 : decode cX8_lay 21 = .ok (.iastore, 1) := by decide +kernel
theorem dX8_lay_22 : decode cX8_lay 22 = .ok (.aload_n 0, 1) := by decide +kernel
theorem dX8_lay_23 : decode cX8_lay 23 = .ok (.getfield 38, 3) := by decide +kernel
theorem dX8_lay_26 : decode cX8_lay 26 = .ok (.iload_n 1, 1) := by decide +kernel
theorem dX8_lay_27 : decode cX8_lay 27 = .ok (.iconst 0, 1) := by decide +kernel
theorem dX8_lay_28 : decode cX8_lay 28 = .ok (.iastore, 1) := by decide +kernel
theorem dX8_lay_29 : decode cX8_lay 29 = .ok (.iconst 0, 1) := by decide +kernel
theorem dX8_lay_30 : decode cX8_lay 30 = .ok (.istore 4, 2) := by decide +kernel
theorem dX8_lay_32 : decode cX8_lay 32 = .ok (.iload 4, 2) := by decide +kernel
theorem dX8_lay_34 : decode cX8_lay 34 = .ok (.aload_n 3, 1) := by decide +kernel
theorem dX8_lay_35 : decode cX8_lay 35 = .ok (.getfield 168, 3) := by decide +kernel
theorem dX8_lay_38 : decode cX8_lay 38 = .ok (.iload_n 2, 1) := by decide +kernel
theorem dX8_lay_39 : decode cX8_lay 39 = .ok (.iaload, 1) := by decide +kernel
theorem dX8_lay_40 : decode cX8_lay 40 = .ok (.if_icmp .ge 107, 3) := by decide +kernel
theorem dX8_lay_43 : decode cX8_lay 43 = .ok (.aload_n 3, 1) := by decide +kernel
theorem dX8_lay_44 : decode cX8_lay 44 = .ok (.iload_n 2, 1) := by decide +kernel
theorem dX8_lay_45 : decode cX8_lay 45 = .ok (.iload 4, 2) := by decide +kernel
theorem dX8_lay_47 : decode cX8_lay 47 = .ok (.invokevirtual 178, 3) := by decide +kernel
theorem dX8_lay_50 : decode cX8_lay 50 = .ok (.istore 5, 2) := by decide +kernel
theorem dX8_lay_52 : decode cX8_lay 52 = .ok (.iload 5, 2) := by decide +kernel
theorem dX8_lay_54 : decode cX8_lay 54 = .ok (.iconst (-1), 1) := by decide +kernel
theorem dX8_lay_55 : decode cX8_lay 55 = .ok (.if_icmp .ne 6, 3) := by decide +kernel
theorem dX8_lay_58 : decode cX8_lay 58 = .ok (.goto 83, 3) := by decide +kernel
theorem dX8_lay_61 : decode cX8_lay 61 = .ok (.aload_n 0, 1) := by decide +kernel
theorem dX8_lay_62 : decode cX8_lay 62 = .ok (.getfield 48, 3) := by decide +kernel
theorem dX8_lay_65 : decode cX8_lay 65 = .ok (.getfield 181, 3) := by decide +kernel
theorem dX8_lay_68 : decode cX8_lay 68 = .ok (.iload 5, 2) := by decide +kernel
theorem dX8_lay_70 : decode cX8_lay 70 = .ok (.iaload, 1) := by decide +kernel
theorem dX8_lay_71 : decode cX8_lay 71 = .ok (.istore 6, 2) := by decide +kernel
theorem dX8_lay_73 : decode cX8_lay 73 = .ok (.aload_n 0, 1) := by decide +kernel
theorem dX8_lay_74 : decode cX8_lay 74 = .ok (.getfield 29, 3) := by decide +kernel
theorem dX8_lay_77 : decode cX8_lay 77 = .ok (.iload_n 1, 1) := by decide +kernel
theorem dX8_lay_78 : decode cX8_lay 78 = .ok (.aaload, 1) := by decide +kernel
theorem dX8_lay_79 : decode cX8_lay 79 = .ok (.iload 4, 2) := by decide +kernel
theorem dX8_lay_81 : decode cX8_lay 81 = .ok (.iaload, 1) := by decide +kernel
theorem dX8_lay_82 : decode cX8_lay 82 = .ok (.istore 7, 2) := by decide +kernel
theorem dX8_lay_84 : decode cX8_lay 84 = .ok (.aload_n 0, 1) := by decide +kernel
theorem dX8_lay_85 : decode cX8_lay 85 = .ok (.iload 6, 2) := by decide +kernel
theorem dX8_lay_87 : decode cX8_lay 87 = .ok (.iload 7, 2) := by decide +kernel
theorem dX8_lay_89 : decode cX8_lay 89 = .ok (.invokevirtual 184, 3) := by decide +kernel
theorem dX8_lay_92 : decode cX8_lay 92 = .ok (.ifCond .ne 5, 3) := by decide +kernel
theorem dX8_lay_95 : decode cX8_lay 95 = .ok (.iconst 0, 1) := by decide +kernel
theorem dX8_lay_96 : decode cX8_lay 96 = .ok (.ireturn, 1) := by decide +kernel
theorem dX8_lay_97 : decode cX8_lay 97 = .ok (.aload_n 0, 1) := by decide +kernel
theorem dX8_lay_98 : decode cX8_lay 98 = .ok (.getfield 15, 3) := by decide +kernel
theorem dX8_lay_101 : decode cX8_lay 101 = .ok (.iload 6, 2) := by decide +kernel
theorem dX8_lay_103 : decode cX8_lay 103 = .ok (.iaload, 1) := by decide +kernel
theorem dX8_lay_104 : decode cX8_lay 104 = .ok (.iconst (-1), 1) := by decide +kernel
theorem dX8_lay_105 : decode cX8_lay 105 = .ok (.if_icmp .ne 36, 3) := by decide +kernel
theorem dX8_lay_108 : decode cX8_lay 108 = .ok (.aload_n 0, 1) := by decide +kernel
theorem dX8_lay_109 : decode cX8_lay 109 = .ok (.iload 6, 2) := by decide +kernel
theorem dX8_lay_111 : decode cX8_lay 111 = .ok (.iload 7, 2) := by decide +kernel
theorem dX8_lay_113 : decode cX8_lay 113 = .ok (.invokevirtual 187, 3) := by decide +kernel
theorem dX8_lay_116 : decode cX8_lay 116 = .ok (.aload_n 0, 1) := by decide +kernel
theorem dX8_lay_117 : decode cX8_lay 117 = .ok (.getfield 35, 3) := by decide +kernel
theorem dX8_lay_120 : decode cX8_lay 120 = .ok (.iload_n 1, 1) := by decide +kernel
theorem dX8_lay_121 : decode cX8_lay 121 = .ok (.aaload, 1) := by decide +kernel
theorem dX8_lay_122 : decode cX8_lay 122 = .ok (.aload_n 0, 1) := by decide +kernel
theorem dX8_lay_123 : decode cX8_lay 123 = .ok (.getfield 38, 3) := by decide +kernel
theorem dX8_lay_126 : decode cX8_lay 126 = .ok (.iload_n 1, 1) := by decide +kernel
theorem dX8_lay_127 : decode cX8_lay 127 = .ok (.iaload, 1) := by decide +kernel
theorem dX8_lay_128 : decode cX8_lay 128 = .ok (.iload 6, 2) := by decide +kernel
theorem dX8_lay_130 : decode cX8_lay 130 = .ok (.iastore, 1) := by decide +kernel
theorem dX8_lay_131 : decode cX8_lay 131 = .ok (.aload_n 0, 1) := by decide +kernel
theorem dX8_lay_132 : decode cX8_lay 132 = .ok (.getfield 38, 3) := by decide +kernel
theorem dX8_lay_135 : decode cX8_lay 135 = .ok (.iload_n 1, 1) := by decide +kernel
theorem dX8_lay_136 : decode cX8_lay 136 = .ok (.dup2, 1) := by decide +kernel
theorem dX8_lay_137 : decode cX8_lay 137 = .ok (.iaload, 1) := by decide +kernel
theorem dX8_lay_138 : decode cX8_lay 138 = .ok (.iconst 1, 1) := by decide +kernel
theorem dX8_lay_139 : decode cX8_lay 139 = .ok (.iadd, 1) := by decide +kernel
theorem dX8_lay_140 : decode cX8_lay 140 = .ok (.iastore, 1) := by decide +kernel
theorem dX8_lay_141 : decode cX8_lay 141 = .ok (.iinc 4 1, 3) := by decide +kernel
theorem dX8_lay_144 : decode cX8_lay 144 = .ok (.goto (-112), 3) := by decide +kernel
theorem dX8_lay_147 : decode cX8_lay 147 = .ok (.iconst 1, 1) := by decide +kernel
theorem dX8_lay_148 : decode cX8_lay 148 = .ok (.ireturn, 1) := by decide +kernel
noncomputable def f_X8_lay_141 (rec32 : Int32 → Int32 → Nat → Int32 → jM → Option (Int32 × jM)) (l1 : Int32) (l2 : Int32) (l3 : Nat) (l4 : Int32) (σ : jM) : Option (Int32 × jM) :=
  rec32 l1 l2 l3 (l4 + 1) σ
noncomputable def s_X8_lay_32  (rec32 : Int32 → Int32 → Nat → Int32 → jM → Option (Int32 × jM)) (l1 : Int32) (l2 : Int32) (l3 : Nat) (l4 : Int32) (σ : jM) : Option (Int32 × jM) :=
  gd (inb l2 8) ((if (rI σ (tabX l3 + 1) (Int32.toNatClampNeg l2)) ≤ l4 then some (1, σ) else bd (f_X10_signAt l3 l2 l4 σ) (fun r17 σ18 => (if r17 = (-1) then f_X8_lay_141 rec32 l1 l2 l3 l4 σ18 else gd (inb r17 40) (gd (inb l1 7) (gd (inb l4 8) (bd (f_X8_agrees (rI σ18 18 (Int32.toNatClampNeg r17)) (rI σ18 (303 + (Int32.toNatClampNeg l1)) (Int32.toNatClampNeg l4)) σ18) (fun r24 σ25 => (if r24 = 0 then some (0, σ25) else gd (inb (rI σ18 18 (Int32.toNatClampNeg r17)) 40) ((if (rI σ25 298 (Int32.toNatClampNeg (rI σ18 18 (Int32.toNatClampNeg r17)))) = (-1) then bd (f_X8_give (rI σ18 18 (Int32.toNatClampNeg r17)) (rI σ18 (303 + (Int32.toNatClampNeg l1)) (Int32.toNatClampNeg l4)) σ25) (fun _ σ31 => gd (inb l1 7) (gd (inb l1 7) (gd (inb (rI σ31 319 (Int32.toNatClampNeg l1)) 6) (gd (inb l1 7) (gd (inb l1 7) (f_X8_lay_141 rec32 l1 l2 l3 l4 (wI (wI σ31 (312 + (Int32.toNatClampNeg l1)) (Int32.toNatClampNeg (rI σ31 319 (Int32.toNatClampNeg l1))) (rI σ18 18 (Int32.toNatClampNeg r17))) 319 (Int32.toNatClampNeg l1) ((rI (wI σ31 (312 + (Int32.toNatClampNeg l1)) (Int32.toNatClampNeg (rI σ31 319 (Int32.toNatClampNeg l1))) (rI σ18 18 (Int32.toNatClampNeg r17))) 319 (Int32.toNatClampNeg l1)) + 1)))))))) else f_X8_lay_141 rec32 l1 l2 l3 l4 σ25)))))))))))
noncomputable def f_X8_lay_32  (n : Nat) : Int32 → Int32 → Nat → Int32 → jM → Option (Int32 × jM) := Nat.rec (motive := fun _ => Int32 → Int32 → Nat → Int32 → jM → Option (Int32 × jM)) (fun _ _ _ _ _ => none) (fun _ q => s_X8_lay_32  q) n
noncomputable def f_X8_lay (a1 : Int32) (a2 : Int32) (σ : jM) : Option (Int32 × jM) :=
  gd (inb a1 7) (gd (inb (rI σ 300 (Int32.toNatClampNeg a1)) 24) (gd (inb a1 7) (gd (inb a1 7) (f_X8_lay_32  Fu a1 a2 (Int32.toNatClampNeg (rI σ 300 (Int32.toNatClampNeg a1))) 0 (wI (wI σ 310 (Int32.toNatClampNeg a1) a2) 319 (Int32.toNatClampNeg a1) 0)))))
set_option maxRecDepth 20000 in
set_option maxHeartbeats 4000000 in
theorem t_X8_lay_141 {rec32 : Int32 → Int32 → Nat → Int32 → jM → Option (Int32 × jM)} (hrec32 : ∀ (l1 : Int32) (l2 : Int32) (l3 : Nat) (l4 : Int32) (σ : jM) (r : Int32 × jM), l3 < 24 → rec32 l1 l2 l3 l4 σ = some r → J mi_X8_lay 3 0 0 (jqI r) 32 [(0, .ref 296), (1, .int l1), (2, .int l2), (3, .ref (tabX l3)), (4, .int l4)] [] (ms σ)) (l1 : Int32) (l2 : Int32) (l3 : Nat) (l4 : Int32) (σ : jM) (r : Int32 × jM) (hl3 : l3 < 24) (h : f_X8_lay_141 rec32 l1 l2 l3 l4 σ = some r) : J mi_X8_lay 3 0 0 (jqI r) 141 [(0, .ref 296), (1, .int l1), (2, .int l2), (3, .ref (tabX l3)), (4, .int l4)] [] (ms σ) := by
  unfold f_X8_lay_141 at h
  refine J_iinc (v := (l4 + 1)) (ls' := [(4, .int (l4 + 1)), (0, .ref 296), (1, .int l1), (2, .int l2), (3, .ref (tabX l3))]) 4 dX8_lay_141 rfl rfl (by decide) rfl ?_
  refine J_goto (tgt := 32) dX8_lay_144 (by decide) ?_
  refine J_pick [1, 2, 3, 4, 0] rfl ?_
  exact hrec32 _ _ _ _ _ _ hl3 h
set_option maxRecDepth 20000 in
set_option maxHeartbeats 4000000 in
theorem t_X8_lay_32  : ∀ (n : Nat) (l1 : Int32) (l2 : Int32) (l3 : Nat) (l4 : Int32) (σ : jM) (r : Int32 × jM), l3 < 24 → f_X8_lay_32  n l1 l2 l3 l4 σ = some r → J mi_X8_lay 3 0 0 (jqI r) 32 [(0, .ref 296), (1, .int l1), (2, .int l2), (3, .ref (tabX l3)), (4, .int l4)] [] (ms σ) := by
  intro n
  induction n with
  | zero =>
    intro l1 l2 l3 l4 σ r hl3 h
    have h : (none : Option (Int32 × jM)) = some r := h
    cases h
  | succ n ih =>
    intro l1 l2 l3 l4 σ r hl3 h
    have h : s_X8_lay_32  (f_X8_lay_32  n) l1 l2 l3 l4 σ = some r := h
    unfold s_X8_lay_32 at h
    refine J_iload 4 dX8_lay_32 rfl ?_
    refine J_aload_n 3 dX8_lay_34 rfl ?_
    refine M_getR gf_X8_168_9 dX8_lay_35 (g_tab3 _ hl3) (k_tab hl3) (n_tab hl3) ?_
    refine J_iload_n 2 dX8_lay_38 rfl ?_
    obtain ⟨g38, h⟩ := gd_inv h
    refine M_iald dX8_lay_39 (a_tab3 hl3) (na_tab3 hl3) g38 ?_
    refine J_icmp_ge (tgt := 147) dX8_lay_40 (by decide) (fun c39 => ?_) (fun c39 => ?_)
    · have h := (if_pos c39).symm.trans h
      refine J_iconst (v := 1) dX8_lay_147 (by decide) ?_
      exact J_ret (v := some (.int 1)) rfl ⟨dX8_lay_148, Or.inr (Or.inl ⟨rfl, Or.inr rfl⟩)⟩ (jqI_mk h)
    · have h := (if_neg c39).symm.trans h
      refine J_aload_n 3 dX8_lay_43 rfl ?_
      refine J_iload_n 2 dX8_lay_44 rfl ?_
      refine J_iload 4 dX8_lay_45 rfl ?_
      obtain ⟨r40, σ41, h42, h⟩ := bd_inv h
      refine M_callVI (d' := 1) (k := (tabX l3)) (As := [.int l2, .int l4]) (st := []) cv_X8_178 dX8_lay_47 rfl (by decide) rfl (Nat.le_of_ble_eq_true rfl) (Nat.le_of_ble_eq_true rfl) (by decide) (n_tab hl3) (k_tab hl3) rfl rfl (t_X10_signAt hl3 h42) ?_
      refine J_istore (i := 5) (ls' := [(5, .int r40), (0, .ref 296), (1, .int l1), (2, .int l2), (3, .ref (tabX l3)), (4, .int l4)]) dX8_lay_50 (by decide) rfl ?_
      refine J_iload 0 dX8_lay_52 rfl ?_
      refine J_iconst (v := (-1)) dX8_lay_54 (by decide) ?_
      refine J_icmp_ne (tgt := 61) dX8_lay_55 (by decide) (fun c43 => ?_) (fun c43 => ?_)
      · have h := (if_neg c43).symm.trans h
        refine J_aload_n 1 dX8_lay_61 rfl ?_
        refine M_getR gf_X8_48_7 dX8_lay_62 (g_296_3 _) k_296 n_296 ?_
        refine M_getR gf_X8_181_0 dX8_lay_65 (g_3_11 _) k_3 n_3 ?_
        refine J_iload 0 dX8_lay_68 rfl ?_
        obtain ⟨g44, h⟩ := gd_inv h
        refine M_iald dX8_lay_70 a_18 n_18 g44 ?_
        refine J_istore (i := 6) (ls' := [(6, .int (rI σ41 18 (Int32.toNatClampNeg r40))), (5, .int r40), (0, .ref 296), (1, .int l1), (2, .int l2), (3, .ref (tabX l3)), (4, .int l4)]) dX8_lay_71 (by decide) rfl ?_
        refine J_aload_n 2 dX8_lay_73 rfl ?_
        refine M_getR gf_X8_29_7 dX8_lay_74 (g_296_9 _) k_296 n_296 ?_
        refine J_iload_n 3 dX8_lay_77 rfl ?_
        obtain ⟨g45, h⟩ := gd_inv h
        refine M_aald dX8_lay_78 a_302 (by decide) n_302 g45 (r_row302 _ g45.2) ?_
        refine J_iload 6 dX8_lay_79 rfl ?_
        obtain ⟨g46, h⟩ := gd_inv h
        refine M_iald dX8_lay_81 (a_row302 g45.2) (na_row302 g45.2) g46 ?_
        refine J_istore (i := 7) (ls' := [(7, .int (rI σ41 (303 + (Int32.toNatClampNeg l1)) (Int32.toNatClampNeg l4))), (6, .int (rI σ41 18 (Int32.toNatClampNeg r40))), (5, .int r40), (0, .ref 296), (1, .int l1), (2, .int l2), (3, .ref (tabX l3)), (4, .int l4)]) dX8_lay_82 (by decide) rfl ?_
        refine J_aload_n 3 dX8_lay_84 rfl ?_
        refine J_iload 1 dX8_lay_85 rfl ?_
        refine J_iload 0 dX8_lay_87 rfl ?_
        obtain ⟨r47, σ48, h49, h⟩ := bd_inv h
        refine M_callVI (d' := 2) (k := 296) (As := [.int (rI σ41 18 (Int32.toNatClampNeg r40)), .int (rI σ41 (303 + (Int32.toNatClampNeg l1)) (Int32.toNatClampNeg l4))]) (st := []) cv_X8_184 dX8_lay_89 rfl (by decide) rfl (Nat.le_of_ble_eq_true rfl) (Nat.le_of_ble_eq_true rfl) (by decide) n_296 k_296 rfl rfl (t_X8_agrees  h49) ?_
        refine J_if_ne (tgt := 97) dX8_lay_92 (by decide) (fun c50 => ?_) (fun c50 => ?_)
        · have h := (if_neg c50).symm.trans h
          refine J_aload_n 3 dX8_lay_97 rfl ?_
          refine M_getR gf_X8_15_7 dX8_lay_98 (g_296_2 _) k_296 n_296 ?_
          refine J_iload 1 dX8_lay_101 rfl ?_
          obtain ⟨g51, h⟩ := gd_inv h
          refine M_iald dX8_lay_103 a_298 n_298 g51 ?_
          refine J_iconst (v := (-1)) dX8_lay_104 (by decide) ?_
          refine J_icmp_ne (tgt := 141) dX8_lay_105 (by decide) (fun c52 => ?_) (fun c52 => ?_)
          · have h := (if_neg c52).symm.trans h
            refine J_pick [3, 4, 5, 6, 7] rfl ?_
            exact t_X8_lay_141 ih _ _ _ _ _ _ hl3 h
          · have h := (if_pos c52).symm.trans h
            refine J_aload_n 3 dX8_lay_108 rfl ?_
            refine J_iload 1 dX8_lay_109 rfl ?_
            refine J_iload 0 dX8_lay_111 rfl ?_
            obtain ⟨_, σ54, h55, h⟩ := bd_inv h
            refine M_callVV (d' := 1) (k := 296) (As := [.int (rI σ41 18 (Int32.toNatClampNeg r40)), .int (rI σ41 (303 + (Int32.toNatClampNeg l1)) (Int32.toNatClampNeg l4))]) (st := []) cv_X8_187 dX8_lay_113 rfl (by decide) rfl (Nat.le_of_ble_eq_true rfl) (Nat.le_of_ble_eq_true rfl) (by decide) n_296 k_296 rfl rfl (t_X8_give  h55) ?_
            refine J_aload_n 3 dX8_lay_116 rfl ?_
            refine M_getR gf_X8_35_7 dX8_lay_117 (g_296_11 _) k_296 n_296 ?_
            refine J_iload_n 4 dX8_lay_120 rfl ?_
            obtain ⟨g56, h⟩ := gd_inv h
            refine M_aald dX8_lay_121 a_311 (by decide) n_311 g56 (r_row311 _ g56.2) ?_
            refine J_aload_n 3 dX8_lay_122 rfl ?_
            refine M_getR gf_X8_38_7 dX8_lay_123 (g_296_12 _) k_296 n_296 ?_
            refine J_iload_n 4 dX8_lay_126 rfl ?_
            obtain ⟨g57, h⟩ := gd_inv h
            refine M_iald dX8_lay_127 a_319 n_319 g57 ?_
            refine J_iload 1 dX8_lay_128 rfl ?_
            obtain ⟨g58, h⟩ := gd_inv h
            refine M_iast dX8_lay_130 (a_row311 g56.2) (na_row311 g56.2) g58 ?_
            refine J_aload_n 3 dX8_lay_131 rfl ?_
            refine M_getR gf_X8_38_7 dX8_lay_132 (g_296_12 _) k_296 n_296 ?_
            refine J_iload_n 4 dX8_lay_135 rfl ?_
            refine J_dup2 dX8_lay_136 rfl rfl ?_
            obtain ⟨g59, h⟩ := gd_inv h
            refine M_iald dX8_lay_137 a_319 n_319 g59 ?_
            refine J_iconst (v := 1) dX8_lay_138 (by decide) ?_
            refine J_iadd dX8_lay_139 ?_
            obtain ⟨g60, h⟩ := gd_inv h
            refine M_iast dX8_lay_140 a_319 n_319 g60 ?_
            refine J_pick [3, 4, 5, 6, 7] rfl ?_
            exact t_X8_lay_141 ih _ _ _ _ _ _ hl3 h
        · have h := (if_pos c50).symm.trans h
          refine J_iconst (v := 0) dX8_lay_95 (by decide) ?_
          exact J_ret (v := some (.int 0)) rfl ⟨dX8_lay_96, Or.inr (Or.inl ⟨rfl, Or.inl rfl⟩)⟩ (jqI_mk h)
      · have h := (if_pos c43).symm.trans h
        refine J_goto (tgt := 141) dX8_lay_58 (by decide) ?_
        refine J_pick [1, 2, 3, 4, 5] rfl ?_
        exact t_X8_lay_141 ih _ _ _ _ _ _ hl3 h
set_option maxRecDepth 20000 in
set_option maxHeartbeats 4000000 in
theorem t_X8_lay {a1 : Int32} {a2 : Int32} {σ : jM} {r : Int32 × jM}  (h : f_X8_lay a1 a2 σ = some r) : J mi_X8_lay 3 0 0 (jqI r) 0 [(0, .ref 296), (1, .int a1), (2, .int a2)] [] (ms σ) := by
  unfold f_X8_lay at h
  refine J_aload_n 0 dX8_lay_0 rfl ?_
  refine M_getR gf_X8_48_7 dX8_lay_1 (g_296_3 _) k_296 n_296 ?_
  refine M_getR gf_X8_136_0 dX8_lay_4 (g_3_1 _) k_3 n_3 ?_
  refine J_aload_n 0 dX8_lay_7 rfl ?_
  refine M_getR gf_X8_21_7 dX8_lay_8 (g_296_7 _) k_296 n_296 ?_
  refine J_iload_n 1 dX8_lay_11 rfl ?_
  obtain ⟨g61, h⟩ := gd_inv h
  refine M_iald dX8_lay_12 a_300 n_300 g61 ?_
  obtain ⟨g62, h⟩ := gd_inv h
  refine M_aald dX8_lay_13 a_4 (by decide) n_4 g62 (r_tab _ g62.2) ?_
  refine J_astore_n (i := 3) (ls' := [(3, .ref (tabX (Int32.toNatClampNeg (rI σ 300 (Int32.toNatClampNeg a1))))), (0, .ref 296), (1, .int a1), (2, .int a2)]) dX8_lay_14 rfl (by decide) rfl ?_
  refine J_aload_n 1 dX8_lay_15 rfl ?_
  refine M_getR gf_X8_32_7 dX8_lay_16 (g_296_10 _) k_296 n_296 ?_
  refine J_iload_n 2 dX8_lay_19 rfl ?_
  refine J_iload_n 3 dX8_lay_20 rfl ?_
  obtain ⟨g63, h⟩ := gd_inv h
  refine M_iast dX8_lay_21 a_310 n_310 g63 ?_
  refine J_aload_n 1 dX8_lay_22 rfl ?_
  refine M_getR gf_X8_38_7 dX8_lay_23 (g_296_12 _) k_296 n_296 ?_
  refine J_iload_n 2 dX8_lay_26 rfl ?_
  refine J_iconst (v := 0) dX8_lay_27 (by decide) ?_
  obtain ⟨g64, h⟩ := gd_inv h
  refine M_iast dX8_lay_28 a_319 n_319 g64 ?_
  refine J_iconst (v := 0) dX8_lay_29 (by decide) ?_
  refine J_istore (i := 4) (ls' := [(4, .int 0), (3, .ref (tabX (Int32.toNatClampNeg (rI σ 300 (Int32.toNatClampNeg a1))))), (0, .ref 296), (1, .int a1), (2, .int a2)]) dX8_lay_30 (by decide) rfl ?_
  refine J_pick [2, 3, 4, 1, 0] rfl ?_
  exact t_X8_lay_32  _ _ _ _ _ _ _ g62.2 h
theorem dX11_advance_0 : decode cX11_advance 0 = .ok (.aload_n 0, 1) := by decide +kernel
theorem dX11_advance_1 : decode cX11_advance 1 = .ok (.aload_n 0, 1) := by decide +kernel
theorem dX11_advance_2 : decode cX11_advance 2 = .ok (.getfield 148, 3) := by decide +kernel
theorem dX11_advance_5 : decode cX11_advance 5 = .ok (.putfield 137, 3) := by decide +kernel
theorem dX11_advance_8 : decode cX11_advance 8 = .ok (.aload_n 0, 1) := by decide +kernel
theorem dX11_advance_9 : decode cX11_advance 9 = .ok (.getfield 137, 3) := by decide +kernel
theorem dX11_advance_12 : decode cX11_advance 12 = .ok (.aload_n 0, 1) := by decide +kernel
theorem dX11_advance_13 : decode cX11_advance 13 = .ok (.getfield 19, 3) := by decide +kernel
theorem dX11_advance_16 : decode cX11_advance 16 = .ok (.if_icmp .ge 44, 3) := by decide +kernel
theorem dX11_advance_19 : decode cX11_advance 19 = .ok (.aload_n 0, 1) := by decide +kernel
theorem dX11_advance_20 : decode cX11_advance 20 = .ok (.getfield 9, 3) := by decide +kernel
theorem dX11_advance_23 : decode cX11_advance 23 = .ok (.aload_n 0, 1) := by decide +kernel
theorem dX11_advance_24 : decode cX11_advance 24 = .ok (.getfield 137, 3) := by decide +kernel
theorem dX11_advance_27 : decode cX11_advance 27 = .ok (.iaload, 1) := by decide +kernel
theorem dX11_advance_28 : decode cX11_advance 28 = .ok (.bipush 32, 2) := by decide +kernel
theorem dX11_advance_30 : decode cX11_advance 30 = .ok (.if_icmp .eq 17, 3) := by decide +kernel
theorem dX11_advance_33 : decode cX11_advance 33 = .ok (.aload_n 0, 1) := by decide +kernel
theorem dX11_advance_34 : decode cX11_advance 34 = .ok (.getfield 9, 3) := by decide +kernel
theorem dX11_advance_37 : decode cX11_advance 37 = .ok (.aload_n 0, 1) := by decide +kernel
theorem dX11_advance_38 : decode cX11_advance 38 = .ok (.getfield 137, 3) := by decide +kernel
theorem dX11_advance_41 : decode cX11_advance 41 = .ok (.iaload, 1) := by decide +kernel
theorem dX11_advance_42 : decode cX11_advance 42 = .ok (.bipush 10, 2) := by decide +kernel
theorem dX11_advance_44 : decode cX11_advance 44 = .ok (.if_icmp .ne 16, 3) := by decide +kernel
theorem dX11_advance_47 : decode cX11_advance 47 = .ok (.aload_n 0, 1) := by decide +kernel
theorem dX11_advance_48 : decode cX11_advance 48 = .ok (.dup, 1) := by decide +kernel
theorem dX11_advance_49 : decode cX11_advance 49 = .ok (.getfield 137, 3) := by decide +kernel
theorem dX11_advance_52 : decode cX11_advance 52 = .ok (.iconst 1, 1) := by decide +kernel
theorem dX11_advance_53 : decode cX11_advance 53 = .ok (.iadd, 1) := by decide +kernel
theorem dX11_advance_54 : decode cX11_advance 54 = .ok (.putfield 137, 3) := by decide +kernel
theorem dX11_advance_57 : decode cX11_advance 57 = .ok (.goto (-49), 3) := by decide +kernel
theorem dX11_advance_60 : decode cX11_advance 60 = .ok (.aload_n 0, 1) := by decide +kernel
theorem dX11_advance_61 : decode cX11_advance 61 = .ok (.aload_n 0, 1) := by decide +kernel
theorem dX11_advance_62 : decode cX11_advance 62 = .ok (.getfield 137, 3) := by decide +kernel
theorem dX11_advance_65 : decode cX11_advance 65 = .ok (.putfield 148, 3) := by decide +kernel
theorem dX11_advance_68 : decode cX11_advance 68 = .ok (.aload_n 0, 1) := by decide +kernel
theorem dX11_advance_69 : decode cX11_advance 69 = .ok (.getfield 137, 3) := by decide +kernel
theorem dX11_advance_72 : decode cX11_advance 72 = .ok (.aload_n 0, 1) := by decide +kernel
theorem dX11_advance_73 : decode cX11_advance 73 = .ok (.getfield 19, 3) := by decide +kernel
theorem dX11_advance_76 : decode cX11_advance 76 = .ok (.if_icmp .lt 11, 3) := by decide +kernel
theorem dX11_advance_79 : decode cX11_advance 79 = .ok (.aload_n 0, 1) := by decide +kernel
theorem dX11_advance_80 : decode cX11_advance 80 = .ok (.iconst 0, 1) := by decide +kernel
theorem dX11_advance_81 : decode cX11_advance 81 = .ok (.putfield 29, 3) := by decide +kernel
theorem dX11_advance_84 : decode cX11_advance 84 = .ok (.goto 67, 3) := by decide +kernel
theorem dX11_advance_87 : decode cX11_advance 87 = .ok (.aload_n 0, 1) := by decide +kernel
theorem dX11_advance_88 : decode cX11_advance 88 = .ok (.aload_n 0, 1) := by decide +kernel
theorem dX11_advance_89 : decode cX11_advance 89 = .ok (.getfield 137, 3) := by decide +kernel
theorem dX11_advance_92 : decode cX11_advance 92 = .ok (.invokevirtual 22, 3) := by decide +kernel
theorem dX11_advance_95 : decode cX11_advance 95 = .ok (.ifCond .eq 10, 3) := by decide +kernel
theorem dX11_advance_98 : decode cX11_advance 98 = .ok (.aload_n 0, 1) := by decide +kernel
theorem dX11_advance_99 : decode cX11_advance 99 = .ok (.invokevirtual 162, 3) := by decide +kernel
theorem dX11_advance_102 : decode cX11_advance 102 = .ok (.goto 49, 3) := by decide +kernel
theorem dX11_advance_105 : decode cX11_advance 105 = .ok (.aload_n 0, 1) := by decide +kernel
theorem dX11_advance_106 : decode cX11_advance 106 = .ok (.aload_n 0, 1) := by decide +kernel
theorem dX11_advance_107 : decode cX11_advance 107 = .ok (.getfield 137, 3) := by decide +kernel
theorem dX11_advance_110 : decode cX11_advance 110 = .ok (.invokevirtual 165, 3) := by decide +kernel
theorem dX11_advance_113 : decode cX11_advance 113 = .ok (.ifCond .eq 10, 3) := by decide +kernel
theorem dX11_advance_116 : decode cX11_advance 116 = .ok (.aload_n 0, 1) := by decide +kernel
theorem dX11_advance_117 : decode cX11_advance 117 = .ok (.invokevirtual 168, 3) := by decide +kernel
theorem dX11_advance_120 : decode cX11_advance 120 = .ok (.goto 31, 3) := by decide +kernel
theorem dX11_advance_123 : decode cX11_advance 123 = .ok (.aload_n 0, 1) := by decide +kernel
theorem dX11_advance_124 : decode cX11_advance 124 = .ok (.iconst 3, 1) := by decide +kernel
theorem dX11_advance_125 : decode cX11_advance 125 = .ok (.putfield 29, 3) := by decide +kernel
theorem dX11_advance_128 : decode cX11_advance 128 = .ok (.aload_n 0, 1) := by decide +kernel
theorem dX11_advance_129 : decode cX11_advance 129 = .ok (.aload_n 0, 1) := by decide +kernel
theorem dX11_advance_130 : decode cX11_advance 130 = .ok (.getfield 9, 3) := by decide +kernel
theorem dX11_advance_133 : decode cX11_advance 133 = .ok (.aload_n 0, 1) := by decide +kernel
theorem dX11_advance_134 : decode cX11_advance 134 = .ok (.getfield 137, 3) := by decide +kernel
theorem dX11_advance_137 : decode cX11_advance 137 = .ok (.iaload, 1) := by decide +kernel
theorem dX11_advance_138 : decode cX11_advance 138 = .ok (.putfield 57, 3) := by decide +kernel
theorem dX11_advance_141 : decode cX11_advance 141 = .ok (.aload_n 0, 1) := by decide +kernel
theorem dX11_advance_142 : decode cX11_advance 142 = .ok (.dup, 1) := by decide +kernel
theorem dX11_advance_143 : decode cX11_advance 143 = .ok (.getfield 148, 3) := by decide +kernel
theorem dX11_advance_146 : decode cX11_advance 146 = .ok (.iconst 1, 1) := by decide +kernel
theorem dX11_advance_147 : decode cX11_advance 147 = .ok (.iadd, 1) := by decide +kernel
theorem dX11_advance_148 : decode cX11_advance 148 = .ok (.putfield 148, 3) := by decide +kernel
theorem dX11_advance_151 : decode cX11_advance 151 = .ok (.return_, 1) := by decide +kernel
noncomputable def f_X11_advance_151   (σ : jM) : Option (Unit × jM) :=
  some ((), σ)
noncomputable def f_X11_advance_60   (σ : jM) : Option (Unit × jM) :=
  (if (rI (wI σ 262 6 (rI σ 262 5)) 262 5) < (rI (wI σ 262 6 (rI σ 262 5)) 262 1) then bd (f_X11_isLetterAt (rI (wI σ 262 6 (rI σ 262 5)) 262 5) (wI σ 262 6 (rI σ 262 5))) (fun r5 σ6 => (if r5 = 0 then bd (f_X11_isFigureAt (rI σ6 262 5) σ6) (fun r9 σ10 => (if r9 = 0 then gd (inb (rI (wI σ10 262 4 3) 262 5) 300) (f_X11_advance_151   (wI (wI (wI σ10 262 4 3) 262 7 (rI (wI σ10 262 4 3) 263 (Int32.toNatClampNeg (rI (wI σ10 262 4 3) 262 5)))) 262 6 ((rI (wI (wI σ10 262 4 3) 262 7 (rI (wI σ10 262 4 3) 263 (Int32.toNatClampNeg (rI (wI σ10 262 4 3) 262 5)))) 262 6) + 1))) else bd (f_X11_takeNumber  σ10) (fun _ σ15 => f_X11_advance_151   σ15))) else bd (f_X11_takeWord  σ6) (fun _ σ18 => f_X11_advance_151   σ18))) else f_X11_advance_151   (wI (wI σ 262 6 (rI σ 262 5)) 262 4 0))
noncomputable def f_X11_advance_47 (rec8 : jM → Option (Unit × jM))  (σ : jM) : Option (Unit × jM) :=
  rec8  (wI σ 262 5 ((rI σ 262 5) + 1))
noncomputable def s_X11_advance_8  (rec8 : jM → Option (Unit × jM))  (σ : jM) : Option (Unit × jM) :=
  (if (rI σ 262 1) ≤ (rI σ 262 5) then f_X11_advance_60   σ else gd (inb (rI σ 262 5) 300) ((if (rI σ 263 (Int32.toNatClampNeg (rI σ 262 5))) = 32 then f_X11_advance_47 rec8  σ else gd (inb (rI σ 262 5) 300) ((if (rI σ 263 (Int32.toNatClampNeg (rI σ 262 5))) = 10 then f_X11_advance_47 rec8  σ else f_X11_advance_60   σ)))))
noncomputable def f_X11_advance_8  (n : Nat) : jM → Option (Unit × jM) := Nat.rec (motive := fun _ => jM → Option (Unit × jM)) (fun  _ => none) (fun _ q => s_X11_advance_8  q) n
noncomputable def f_X11_advance  (σ : jM) : Option (Unit × jM) :=
  f_X11_advance_8  Fu  (wI σ 262 5 (rI σ 262 6))
set_option maxRecDepth 20000 in
set_option maxHeartbeats 4000000 in
theorem t_X11_advance_151   (σ : jM) (r : Unit × jM)  (h : f_X11_advance_151   σ = some r) : J mi_X11_advance 3 0 0 (jqV r) 151 [] [] (ms σ) := by
  unfold f_X11_advance_151 at h
  exact J_ret (v := none) rfl ⟨dX11_advance_151, rfl⟩ (jqV_mk h)
set_option maxRecDepth 20000 in
set_option maxHeartbeats 4000000 in
theorem t_X11_advance_60   (σ : jM) (r : Unit × jM)  (h : f_X11_advance_60   σ = some r) : J mi_X11_advance 3 0 0 (jqV r) 60 [(0, .ref 262)] [] (ms σ) := by
  unfold f_X11_advance_60 at h
  refine J_aload_n 0 dX11_advance_60 rfl ?_
  refine J_aload_n 0 dX11_advance_61 rfl ?_
  refine M_getI gf_X11_137_10 dX11_advance_62 k_262 n_262 ?_
  refine M_putI pf_X11_148_10 dX11_advance_65 k_262 n_262 ⟨rfl, rfl⟩ ?_
  refine J_aload_n 0 dX11_advance_68 rfl ?_
  refine M_getI gf_X11_137_10 dX11_advance_69 k_262 n_262 ?_
  refine J_aload_n 0 dX11_advance_72 rfl ?_
  refine M_getI gf_X11_19_10 dX11_advance_73 k_262 n_262 ?_
  refine J_icmp_lt (tgt := 87) dX11_advance_76 (by decide) (fun c20 => ?_) (fun c20 => ?_)
  · have h := (if_pos c20).symm.trans h
    refine J_aload_n 0 dX11_advance_87 rfl ?_
    refine J_aload_n 0 dX11_advance_88 rfl ?_
    refine M_getI gf_X11_137_10 dX11_advance_89 k_262 n_262 ?_
    obtain ⟨r21, σ22, h23, h⟩ := bd_inv h
    refine M_callVI (d' := 1) (k := 262) (As := [.int (rI (wI σ 262 6 (rI σ 262 5)) 262 5)]) (st := []) cv_X11_22 dX11_advance_92 rfl (by decide) rfl (Nat.le_of_ble_eq_true rfl) (Nat.le_of_ble_eq_true rfl) (by decide) n_262 k_262 rfl rfl (t_X11_isLetterAt  h23) ?_
    refine J_if_eq (tgt := 105) dX11_advance_95 (by decide) (fun c24 => ?_) (fun c24 => ?_)
    · have h := (if_pos c24).symm.trans h
      refine J_aload_n 0 dX11_advance_105 rfl ?_
      refine J_aload_n 0 dX11_advance_106 rfl ?_
      refine M_getI gf_X11_137_10 dX11_advance_107 k_262 n_262 ?_
      obtain ⟨r25, σ26, h27, h⟩ := bd_inv h
      refine M_callVI (d' := 1) (k := 262) (As := [.int (rI σ22 262 5)]) (st := []) cv_X11_165 dX11_advance_110 rfl (by decide) rfl (Nat.le_of_ble_eq_true rfl) (Nat.le_of_ble_eq_true rfl) (by decide) n_262 k_262 rfl rfl (t_X11_isFigureAt  h27) ?_
      refine J_if_eq (tgt := 123) dX11_advance_113 (by decide) (fun c28 => ?_) (fun c28 => ?_)
      · have h := (if_pos c28).symm.trans h
        refine J_aload_n 0 dX11_advance_123 rfl ?_
        refine J_iconst (v := 3) dX11_advance_124 (by decide) ?_
        refine M_putI pf_X11_29_10 dX11_advance_125 k_262 n_262 ⟨rfl, rfl⟩ ?_
        refine J_aload_n 0 dX11_advance_128 rfl ?_
        refine J_aload_n 0 dX11_advance_129 rfl ?_
        refine M_getR gf_X11_9_10 dX11_advance_130 (g_262_0 _) k_262 n_262 ?_
        refine J_aload_n 0 dX11_advance_133 rfl ?_
        refine M_getI gf_X11_137_10 dX11_advance_134 k_262 n_262 ?_
        obtain ⟨g29, h⟩ := gd_inv h
        refine M_iald dX11_advance_137 a_263 n_263 g29 ?_
        refine M_putI pf_X11_57_10 dX11_advance_138 k_262 n_262 ⟨rfl, rfl⟩ ?_
        refine J_aload_n 0 dX11_advance_141 rfl ?_
        refine J_dup dX11_advance_142 rfl ?_
        refine M_getI gf_X11_148_10 dX11_advance_143 k_262 n_262 ?_
        refine J_iconst (v := 1) dX11_advance_146 (by decide) ?_
        refine J_iadd dX11_advance_147 ?_
        refine M_putI pf_X11_148_10 dX11_advance_148 k_262 n_262 ⟨rfl, rfl⟩ ?_
        refine J_pick [] rfl ?_
        exact t_X11_advance_151   _ _  h
      · have h := (if_neg c28).symm.trans h
        refine J_aload_n 0 dX11_advance_116 rfl ?_
        obtain ⟨_, σ31, h32, h⟩ := bd_inv h
        refine M_callVV (d' := 2) (k := 262) (As := []) (st := []) cv_X11_168 dX11_advance_117 rfl (by decide) rfl (Nat.le_of_ble_eq_true rfl) (Nat.le_of_ble_eq_true rfl) (by decide) n_262 k_262 rfl rfl (t_X11_takeNumber  h32) ?_
        refine J_goto (tgt := 151) dX11_advance_120 (by decide) ?_
        refine J_pick [] rfl ?_
        exact t_X11_advance_151   _ _  h
    · have h := (if_neg c24).symm.trans h
      refine J_aload_n 0 dX11_advance_98 rfl ?_
      obtain ⟨_, σ34, h35, h⟩ := bd_inv h
      refine M_callVV (d' := 2) (k := 262) (As := []) (st := []) cv_X11_162 dX11_advance_99 rfl (by decide) rfl (Nat.le_of_ble_eq_true rfl) (Nat.le_of_ble_eq_true rfl) (by decide) n_262 k_262 rfl rfl (t_X11_takeWord  h35) ?_
      refine J_goto (tgt := 151) dX11_advance_102 (by decide) ?_
      refine J_pick [] rfl ?_
      exact t_X11_advance_151   _ _  h
  · have h := (if_neg c20).symm.trans h
    refine J_aload_n 0 dX11_advance_79 rfl ?_
    refine J_iconst (v := 0) dX11_advance_80 (by decide) ?_
    refine M_putI pf_X11_29_10 dX11_advance_81 k_262 n_262 ⟨rfl, rfl⟩ ?_
    refine J_goto (tgt := 151) dX11_advance_84 (by decide) ?_
    refine J_pick [] rfl ?_
    exact t_X11_advance_151   _ _  h
set_option maxRecDepth 20000 in
set_option maxHeartbeats 4000000 in
theorem t_X11_advance_47 {rec8 : jM → Option (Unit × jM)} (hrec8 : ∀  (σ : jM) (r : Unit × jM), rec8  σ = some r → J mi_X11_advance 3 0 0 (jqV r) 8 [(0, .ref 262)] [] (ms σ))  (σ : jM) (r : Unit × jM)  (h : f_X11_advance_47 rec8  σ = some r) : J mi_X11_advance 3 0 0 (jqV r) 47 [(0, .ref 262)] [] (ms σ) := by
  unfold f_X11_advance_47 at h
  refine J_aload_n 0 dX11_advance_47 rfl ?_
  refine J_dup dX11_advance_48 rfl ?_
  refine M_getI gf_X11_137_10 dX11_advance_49 k_262 n_262 ?_
  refine J_iconst (v := 1) dX11_advance_52 (by decide) ?_
  refine J_iadd dX11_advance_53 ?_
  refine M_putI pf_X11_137_10 dX11_advance_54 k_262 n_262 ⟨rfl, rfl⟩ ?_
  refine J_goto (tgt := 8) dX11_advance_57 (by decide) ?_
  exact hrec8  _ _  h
set_option maxRecDepth 20000 in
set_option maxHeartbeats 4000000 in
theorem t_X11_advance_8  : ∀ (n : Nat)  (σ : jM) (r : Unit × jM), f_X11_advance_8  n  σ = some r → J mi_X11_advance 3 0 0 (jqV r) 8 [(0, .ref 262)] [] (ms σ) := by
  intro n
  induction n with
  | zero =>
    intro  σ r  h
    have h : (none : Option (Unit × jM)) = some r := h
    cases h
  | succ n ih =>
    intro  σ r  h
    have h : s_X11_advance_8  (f_X11_advance_8  n)  σ = some r := h
    unfold s_X11_advance_8 at h
    refine J_aload_n 0 dX11_advance_8 rfl ?_
    refine M_getI gf_X11_137_10 dX11_advance_9 k_262 n_262 ?_
    refine J_aload_n 0 dX11_advance_12 rfl ?_
    refine M_getI gf_X11_19_10 dX11_advance_13 k_262 n_262 ?_
    refine J_icmp_ge (tgt := 60) dX11_advance_16 (by decide) (fun c41 => ?_) (fun c41 => ?_)
    · have h := (if_pos c41).symm.trans h
      exact t_X11_advance_60   _ _  h
    · have h := (if_neg c41).symm.trans h
      refine J_aload_n 0 dX11_advance_19 rfl ?_
      refine M_getR gf_X11_9_10 dX11_advance_20 (g_262_0 _) k_262 n_262 ?_
      refine J_aload_n 0 dX11_advance_23 rfl ?_
      refine M_getI gf_X11_137_10 dX11_advance_24 k_262 n_262 ?_
      obtain ⟨g42, h⟩ := gd_inv h
      refine M_iald dX11_advance_27 a_263 n_263 g42 ?_
      refine J_bipush (v := 32) dX11_advance_28 (by decide) ?_
      refine J_icmp_eq (tgt := 47) dX11_advance_30 (by decide) (fun c43 => ?_) (fun c43 => ?_)
      · have h := (if_pos c43).symm.trans h
        exact t_X11_advance_47 ih  _ _  h
      · have h := (if_neg c43).symm.trans h
        refine J_aload_n 0 dX11_advance_33 rfl ?_
        refine M_getR gf_X11_9_10 dX11_advance_34 (g_262_0 _) k_262 n_262 ?_
        refine J_aload_n 0 dX11_advance_37 rfl ?_
        refine M_getI gf_X11_137_10 dX11_advance_38 k_262 n_262 ?_
        obtain ⟨g44, h⟩ := gd_inv h
        refine M_iald dX11_advance_41 a_263 n_263 g44 ?_
        refine J_bipush (v := 10) dX11_advance_42 (by decide) ?_
        refine J_icmp_ne (tgt := 60) dX11_advance_44 (by decide) (fun c45 => ?_) (fun c45 => ?_)
        · have h := (if_neg c45).symm.trans h
          exact t_X11_advance_60   _ _  h
        · have h := (if_pos c45).symm.trans h
          exact t_X11_advance_47 ih  _ _  h
set_option maxRecDepth 20000 in
set_option maxHeartbeats 4000000 in
theorem t_X11_advance  {σ : jM} {r : Unit × jM}  (h : f_X11_advance  σ = some r) : J mi_X11_advance 3 0 0 (jqV r) 0 [(0, .ref 262)] [] (ms σ) := by
  unfold f_X11_advance at h
  refine J_aload_n 0 dX11_advance_0 rfl ?_
  refine J_aload_n 0 dX11_advance_1 rfl ?_
  refine M_getI gf_X11_148_10 dX11_advance_2 k_262 n_262 ?_
  refine M_putI pf_X11_137_10 dX11_advance_5 k_262 n_262 ⟨rfl, rfl⟩ ?_
  exact t_X11_advance_8  _  _ _  h
theorem dX12_spellName_0 : decode cX12_spellName 0 = .ok (.aload_n 0, 1) := by decide +kernel
theorem dX12_spellName_1 : decode cX12_spellName 1 = .ok (.getfield 19, 3) := by decide +kernel
theorem dX12_spellName_4 : decode cX12_spellName 4 = .ok (.getfield 179, 3) := by decide +kernel
theorem dX12_spellName_7 : decode cX12_spellName 7 = .ok (.iload_n 1, 1) := by decide +kernel
theorem dX12_spellName_8 : decode cX12_spellName 8 = .ok (.aaload, 1) := by decide +kernel
theorem dX12_spellName_9 : decode cX12_spellName 9 = .ok (.astore_n 2, 1) := by decide +kernel
theorem dX12_spellName_10 : decode cX12_spellName 10 = .ok (.aload_n 0, 1) := by decide +kernel
theorem dX12_spellName_11 : decode cX12_spellName 11 = .ok (.getfield 19, 3) := by decide +kernel
theorem dX12_spellName_14 : decode cX12_spellName 14 = .ok (.getfield 231, 3) := by decide +kernel
theorem dX12_spellName_17 : decode cX12_spellName 17 = .ok (.aload_n 2, 1) := by decide +kernel
theorem dX12_spellName_18 : decode cX12_spellName 18 = .ok (.getfield 186, 3) := by decide +kernel
theorem dX12_spellName_21 : decode cX12_spellName 21 = .ok (.aload_n 2, 1) := by decide +kernel
theorem dX12_spellName_22 : decode cX12_spellName 22 = .ok (.getfield 197, 3) := by decide +kernel
theorem dX12_spellName_25 : decode cX12_spellName 25 = .ok (.aload_n 0, 1) := by decide +kernel
theorem dX12_spellName_26 : decode cX12_spellName 26 = .ok (.getfield 13, 3) := by decide +kernel
theorem dX12_spellName_29 : decode cX12_spellName 29 = .ok (.invokevirtual 287, 3) := by decide +kernel
theorem dX12_spellName_32 : decode cX12_spellName 32 = .ok (.ireturn, 1) := by decide +kernel
noncomputable def f_X12_spellName (a1 : Int32) (σ : jM) : Option (Int32 × jM) :=
  gd (inb a1 6) (bd (f_X7_spell (σ.2.2) (namX (Int32.toNatClampNeg a1) + 1) (rI σ (namX (Int32.toNatClampNeg a1)) 3) 2 σ) (fun r3 σ4 => some (r3, σ4)))
set_option maxRecDepth 20000 in
set_option maxHeartbeats 4000000 in
theorem t_X12_spellName {a1 : Int32} {σ : jM} {r : Int32 × jM}  (h : f_X12_spellName a1 σ = some r) : J mi_X12_spellName 4 0 0 (jqI r) 0 [(0, .ref 0), (1, .int a1)] [] (ms σ) := by
  unfold f_X12_spellName at h
  refine J_aload_n 0 dX12_spellName_0 rfl ?_
  refine M_getR gf_X12_19_11 dX12_spellName_1 (g_0_0 _) k_0 n_0 ?_
  refine M_getR gf_X12_179_0 dX12_spellName_4 (g_3_7 _) k_3 n_3 ?_
  refine J_iload_n 1 dX12_spellName_7 rfl ?_
  obtain ⟨g2, h⟩ := gd_inv h
  refine M_aald dX12_spellName_8 a_7 (by decide) n_7 g2 (r_nam _ g2.2) ?_
  refine J_astore_n (i := 2) (ls' := [(2, .ref (namX (Int32.toNatClampNeg a1))), (0, .ref 0), (1, .int a1)]) dX12_spellName_9 rfl (by decide) rfl ?_
  refine J_aload_n 1 dX12_spellName_10 rfl ?_
  refine M_getR gf_X12_19_11 dX12_spellName_11 (g_0_0 _) k_0 n_0 ?_
  refine M_getR (q := rulX σ.2.2) gf_X12_231_0 dX12_spellName_14 rfl k_3 n_3 ?_
  refine J_aload_n 0 dX12_spellName_17 rfl ?_
  refine M_getR gf_X12_186_5 dX12_spellName_18 (g_nam2 _ g2.2) (k_nam g2.2) (n_nam g2.2) ?_
  refine J_aload_n 0 dX12_spellName_21 rfl ?_
  refine M_getI gf_X12_197_5 dX12_spellName_22 (k_nam g2.2) (n_nam g2.2) ?_
  refine J_aload_n 1 dX12_spellName_25 rfl ?_
  refine M_getR gf_X12_13_11 dX12_spellName_26 (g_0_8 _) k_0 n_0 ?_
  obtain ⟨r3, σ4, h5, h⟩ := bd_inv h
  refine M_callVI (d' := 3) (k := (rulX (σ.2.2))) (As := [.ref (namX (Int32.toNatClampNeg a1) + 1), .int (rI σ (namX (Int32.toNatClampNeg a1)) 3), .ref 2]) (st := []) cv_X12_287 dX12_spellName_29 rfl (by decide) rfl (Nat.le_of_ble_eq_true rfl) (Nat.le_of_ble_eq_true rfl) (by decide) (nn_rul (σ.2.2)) (kk_rul (σ.2.2)) rfl rfl (t_X7_spell ⟨congrArg Prod.fst (a_nam2 g2.2), (na_nam2 g2.2)⟩ ⟨congrArg Prod.fst a_2, n_2⟩ h5) ?_
  exact J_ret (v := some (.int r3)) rfl ⟨dX12_spellName_32, Or.inl rfl⟩ (jqI_mk h)
theorem dX13_meets_0 : decode cX13_meets 0 = .ok (.aload_n 0, 1) := by decide +kernel
theorem dX13_meets_1 : decode cX13_meets 1 = .ok (.dup, 1) := by decide +kernel
theorem dX13_meets_2 : decode cX13_meets 2 = .ok (.getfield 411, 3) := by decide +kernel
theorem dX13_meets_5 : decode cX13_meets 5 = .ok (.iconst 1, 1) := by decide +kernel
theorem dX13_meets_6 : decode cX13_meets 6 = .ok (.iadd, 1) := by decide +kernel
theorem dX13_meets_7 : decode cX13_meets 7 = .ok (.putfield 411, 3) := by decide +kernel
theorem dX13_meets_10 : decode cX13_meets 10 = .ok (.bipush 40, 2) := by decide +kernel
theorem dX13_meets_12 : decode cX13_meets 12 = .ok (.aload_n 0, 1) := by decide +kernel
theorem dX13_meets_13 : decode cX13_meets 13 = .ok (.getfield 414, 3) := by decide +kernel
theorem dX13_meets_16 : decode cX13_meets 16 = .ok (.imul, 1) := by decide +kernel
theorem dX13_meets_17 : decode cX13_meets 17 = .ok (.istore_n 3, 1) := by decide +kernel
theorem dX13_meets_18 : decode cX13_meets 18 = .ok (.iload_n 1, 1) := by decide +kernel
theorem dX13_meets_19 : decode cX13_meets 19 = .ok (.ifCond .ne 66, 3) := by decide +kernel
theorem dX13_meets_22 : decode cX13_meets 22 = .ok (.iconst 0, 1) := by decide +kernel
theorem dX13_meets_23 : decode cX13_meets 23 = .ok (.istore 4, 2) := by decide +kernel
theorem dX13_meets_25 : decode cX13_meets 25 = .ok (.iload 4, 2) := by decide +kernel
theorem dX13_meets_27 : decode cX13_meets 27 = .ok (.bipush 40, 2) := by decide +kernel
theorem dX13_meets_29 : decode cX13_meets 29 = .ok (.if_icmp .ge 53, 3) := by decide +kernel
theorem dX13_meets_32 : decode cX13_meets 32 = .ok (.aload_n 0, 1) := by decide +kernel
theorem dX13_meets_33 : decode cX13_meets 33 = .ok (.getfield 160, 3) := by decide +kernel
theorem dX13_meets_36 : decode cX13_meets 36 = .ok (.sipush 136, 3) := by decide +kernel
theorem dX13_meets_39 : decode cX13_meets 39 = .ok (.iload 4, 2) := by decide +kernel
theorem dX13_meets_41 : decode cX13_meets 41 = .ok (.imul, 1) := by decide +kernel
theorem dX13_meets_42 : decode cX13_meets 42 = .ok (.aload_n 0, 1) := by decide +kernel
theorem dX13_meets_43 : decode cX13_meets 43 = .ok (.getfield 151, 3) := by decide +kernel
theorem dX13_meets_46 : decode cX13_meets 46 = .ok (.iload_n 3, 1) := by decide +kernel
theorem dX13_meets_47 : decode cX13_meets 47 = .ok (.iload 4, 2) := by decide +kernel
theorem dX13_meets_49 : decode cX13_meets 49 = .ok (.iadd, 1) := by decide +kernel
theorem dX13_meets_50 : decode cX13_meets 50 = .ok (.iaload, 1) := by decide +kernel
theorem dX13_meets_51 : decode cX13_meets 51 = .ok (.iconst (-1), 1) := by decide +kernel
theorem dX13_meets_52 : decode cX13_meets 52 = .ok (.if_icmp .ne 9, 3) := by decide +kernel
theorem dX13_meets_55 : decode cX13_meets 55 = .ok (.sipush 135, 3) := by decide +kernel
theorem dX13_meets_58 : decode cX13_meets 58 = .ok (.goto 12, 3) := by decide +kernel
theorem dX13_meets_61 : decode cX13_meets 61 = .ok (.aload_n 0, 1) := by decide +kernel
theorem dX13_meets_62 : decode cX13_meets 62 = .ok (.getfield 151, 3) := by decide +kernel
theorem dX13_meets_65 : decode cX13_meets 65 = .ok (.iload_n 3, 1) := by decide +kernel
theorem dX13_meets_66 : decode cX13_meets 66 = .ok (.iload 4, 2) := by decide +kernel
theorem dX13_meets_68 : decode cX13_meets 68 = .ok (.iadd, 1) := by decide +kernel
theorem dX13_meets_69 : decode cX13_meets 69 = .ok (.iaload, 1) := by decide +kernel
theorem dX13_meets_70 : decode cX13_meets 70 = .ok (.iadd, 1) := by decide +kernel
theorem dX13_meets_71 : decode cX13_meets 71 = .ok (.dup2, 1) := by decide +kernel
theorem dX13_meets_72 : decode cX13_meets 72 = .ok (.iaload, 1) := by decide +kernel
theorem dX13_meets_73 : decode cX13_meets 73 = .ok (.iconst 1, 1) := by decide +kernel
theorem dX13_meets_74 : decode cX13_meets 74 = .ok (.iadd, 1) := by decide +kernel
theorem dX13_meets_75 : decode cX13_meets 75 = .ok (.iastore, 1) := by decide +kernel
theorem dX13_meets_76 : decode cX13_meets 76 = .ok (.iinc 4 1, 3) := by decide +kernel
theorem dX13_meets_79 : decode cX13_meets 79 = .ok (.goto (-54), 3) := by decide +kernel
theorem dX13_meets_82 : decode cX13_meets 82 = .ok (.goto 97, 3) := by decide +kernel
theorem dX13_meets_85 : decode cX13_meets 85 = .ok (.iload_n 1, 1) := by decide +kernel
theorem dX13_meets_86 : decode cX13_meets 86 = .ok (.iconst 2, 1) := by decide +kernel
theorem dX13_meets_87 : decode cX13_meets 87 = .ok (.if_icmp .ne 82, 3) := by decide +kernel
theorem dX13_meets_90 : decode cX13_meets 90 = .ok (.aload_n 0, 1) := by decide +kernel
theorem dX13_meets_91 : decode cX13_meets 91 = .ok (.getfield 411, 3) := by decide +kernel
theorem dX13_meets_94 : decode cX13_meets 94 = .ok (.iconst 1, 1) := by decide +kernel
theorem dX13_meets_95 : decode cX13_meets 95 = .ok (.isub, 1) := by decide +kernel
theorem dX13_meets_96 : decode cX13_meets 96 = .ok (.aload_n 0, 1) := by decide +kernel
theorem dX13_meets_97 : decode cX13_meets 97 = .ok (.getfield 417, 3) := by decide +kernel
theorem dX13_meets_100 : decode cX13_meets 100 = .ok (.if_icmp .ne 69, 3) := by decide +kernel
theorem dX13_meets_103 : decode cX13_meets 103 = .ok (.iconst 0, 1) := by decide +kernel
theorem dX13_meets_104 : decode cX13_meets 104 = .ok (.istore 4, 2) := by decide +kernel
theorem dX13_meets_106 : decode cX13_meets 106 = .ok (.iload 4, 2) := by decide +kernel
theorem dX13_meets_108 : decode cX13_meets 108 = .ok (.bipush 40, 2) := by decide +kernel
theorem dX13_meets_110 : decode cX13_meets 110 = .ok (.if_icmp .ge 25, 3) := by decide +kernel
theorem dX13_meets_113 : decode cX13_meets 113 = .ok (.aload_n 0, 1) := by decide +kernel
theorem dX13_meets_114 : decode cX13_meets 114 = .ok (.getfield 157, 3) := by decide +kernel
theorem dX13_meets_117 : decode cX13_meets 117 = .ok (.iload 4, 2) := by decide +kernel
theorem dX13_meets_119 : decode cX13_meets 119 = .ok (.aload_n 0, 1) := by decide +kernel
theorem dX13_meets_120 : decode cX13_meets 120 = .ok (.getfield 151, 3) := by decide +kernel
theorem dX13_meets_123 : decode cX13_meets 123 = .ok (.iload_n 3, 1) := by decide +kernel
theorem dX13_meets_124 : decode cX13_meets 124 = .ok (.iload 4, 2) := by decide +kernel
theorem dX13_meets_126 : decode cX13_meets 126 = .ok (.iadd, 1) := by decide +kernel
theorem dX13_meets_127 : decode cX13_meets 127 = .ok (.iaload, 1) := by decide +kernel
theorem dX13_meets_128 : decode cX13_meets 128 = .ok (.iastore, 1) := by decide +kernel
theorem dX13_meets_129 : decode cX13_meets 129 = .ok (.iinc 4 1, 3) := by decide +kernel
theorem dX13_meets_132 : decode cX13_meets 132 = .ok (.goto (-26), 3) := by decide +kernel
theorem dX13_meets_135 : decode cX13_meets 135 = .ok (.iconst 0, 1) := by decide +kernel
theorem dX13_meets_136 : decode cX13_meets 136 = .ok (.istore 4, 2) := by decide +kernel
theorem dX13_meets_138 : decode cX13_meets 138 = .ok (.iload 4, 2) := by decide +kernel
theorem dX13_meets_140 : decode cX13_meets 140 = .ok (.aload_n 0, 1) := by decide +kernel
theorem dX13_meets_141 : decode cX13_meets 141 = .ok (.getfield 414, 3) := by decide +kernel
theorem dX13_meets_144 : decode cX13_meets 144 = .ok (.if_icmp .ge 23, 3) := by decide +kernel
theorem dX13_meets_147 : decode cX13_meets 147 = .ok (.aload_n 0, 1) := by decide +kernel
theorem dX13_meets_148 : decode cX13_meets 148 = .ok (.getfield 154, 3) := by decide +kernel
theorem dX13_meets_151 : decode cX13_meets 151 = .ok (.iload 4, 2) := by decide +kernel
theorem dX13_meets_153 : decode cX13_meets 153 = .ok (.aload_n 0, 1) := by decide +kernel
theorem dX13_meets_154 : decode cX13_meets 154 = .ok (.getfield 148, 3) := by decide +kernel
theorem dX13_meets_157 : decode cX13_meets 157 = .ok (.iload 4, 2) := by decide +kernel
theorem dX13_meets_159 : decode cX13_meets 159 = .ok (.iaload, 1) := by decide +kernel
theorem dX13_meets_160 : decode cX13_meets 160 = .ok (.iastore, 1) := by decide +kernel
theorem dX13_meets_161 : decode cX13_meets 161 = .ok (.iinc 4 1, 3) := by decide +kernel
theorem dX13_meets_164 : decode cX13_meets 164 = .ok (.goto (-26), 3) := by decide +kernel
theorem dX13_meets_167 : decode cX13_meets 167 = .ok (.iconst 0, 1) := by decide +kernel
theorem dX13_meets_168 : decode cX13_meets 168 = .ok (.ireturn, 1) := by decide +kernel
theorem dX13_meets_169 : decode cX13_meets 169 = .ok (.iload_n 1, 1) := by decide +kernel
theorem dX13_meets_170 : decode cX13_meets 170 = .ok (.iconst 3, 1) := by decide +kernel
theorem dX13_meets_171 : decode cX13_meets 171 = .ok (.if_icmp .ne 8, 3) := by decide +kernel
theorem dX13_meets_174 : decode cX13_meets 174 = .ok (.aload_n 0, 1) := by decide +kernel
theorem dX13_meets_175 : decode cX13_meets 175 = .ok (.iload_n 2, 1) := by decide +kernel
theorem dX13_meets_176 : decode cX13_meets 176 = .ok (.invokevirtual 420, 3) := by decide +kernel
theorem dX13_meets_179 : decode cX13_meets 179 = .ok (.iload_n 1, 1) := by decide +kernel
theorem dX13_meets_180 : decode cX13_meets 180 = .ok (.iconst 1, 1) := by decide +kernel
theorem dX13_meets_181 : decode cX13_meets 181 = .ok (.if_icmp .eq 7, 3) := by decide +kernel
theorem dX13_meets_184 : decode cX13_meets 184 = .ok (.iconst 1, 1) := by decide +kernel
theorem dX13_meets_185 : decode cX13_meets 185 = .ok (.goto 4, 3) := by decide +kernel
theorem dX13_meets_188 : decode cX13_meets 188 = .ok (.iconst 0, 1) := by decide +kernel
theorem dX13_meets_189 : decode cX13_meets 189 = .ok (.ireturn, 1) := by decide +kernel
noncomputable def f_X13_meets_189  (s0 : Int32) (σ : jM) : Option (Int32 × jM) :=
  gd (s0 = 0 ∨ s0 = 1) (some (s0, σ))
noncomputable def f_X13_meets_179  (l1 : Int32) (σ : jM) : Option (Int32 × jM) :=
  (if l1 = 1 then f_X13_meets_189  0 σ else f_X13_meets_189  1 σ)
noncomputable def f_X13_meets_169  (l1 : Int32) (l2 : Int32) (σ : jM) : Option (Int32 × jM) :=
  (if l1 = 3 then bd (f_X13_marksFits l2 σ) (fun _ σ15 => f_X13_meets_179  l1 σ15) else f_X13_meets_179  l1 σ)
noncomputable def s_X13_meets_138  (rec138 : Int32 → jM → Option (Int32 × jM)) (l4 : Int32) (σ : jM) : Option (Int32 × jM) :=
  (if (rI σ 324 64) ≤ l4 then some (0, σ) else gd (inb l4 7) (gd (inb l4 7) (rec138 (l4 + 1) (wI σ 370 (Int32.toNatClampNeg l4) (rI σ 368 (Int32.toNatClampNeg l4))))))
noncomputable def f_X13_meets_138  (n : Nat) : Int32 → jM → Option (Int32 × jM) := Nat.rec (motive := fun _ => Int32 → jM → Option (Int32 × jM)) (fun _ _ => none) (fun _ q => s_X13_meets_138  q) n
noncomputable def s_X13_meets_106  (rec106 : Int32 → Int32 → jM → Option (Int32 × jM)) (l3 : Int32) (l4 : Int32) (σ : jM) : Option (Int32 × jM) :=
  (if 40 ≤ l4 then f_X13_meets_138  Fu 0 σ else gd (inb (l3 + l4) 320) (gd (inb l4 40) (rec106 l3 (l4 + 1) (wI σ 371 (Int32.toNatClampNeg l4) (rI σ 369 (Int32.toNatClampNeg (l3 + l4)))))))
noncomputable def f_X13_meets_106  (n : Nat) : Int32 → Int32 → jM → Option (Int32 × jM) := Nat.rec (motive := fun _ => Int32 → Int32 → jM → Option (Int32 × jM)) (fun _ _ _ => none) (fun _ q => s_X13_meets_106  q) n
noncomputable def f_X13_meets_70 (rec25 : Int32 → Int32 → Int32 → jM → Option (Int32 × jM)) (l1 : Int32) (l3 : Int32) (l4 : Int32) (s1 : Int32) (s2 : Int32) (σ : jM) : Option (Int32 × jM) :=
  gd (inb (s1 + s2) 5440) (gd (inb (s1 + s2) 5440) (rec25 l1 l3 (l4 + 1) (wI σ 372 (Int32.toNatClampNeg (s1 + s2)) ((rI σ 372 (Int32.toNatClampNeg (s1 + s2))) + 1))))
noncomputable def s_X13_meets_25  (rec25 : Int32 → Int32 → Int32 → jM → Option (Int32 × jM)) (l1 : Int32) (l3 : Int32) (l4 : Int32) (σ : jM) : Option (Int32 × jM) :=
  (if 40 ≤ l4 then f_X13_meets_179  l1 σ else gd (inb (l3 + l4) 320) ((if (rI σ 369 (Int32.toNatClampNeg (l3 + l4))) = (-1) then f_X13_meets_70 rec25 l1 l3 l4 (136 * l4) 135 σ else gd (inb (l3 + l4) 320) (f_X13_meets_70 rec25 l1 l3 l4 (136 * l4) (rI σ 369 (Int32.toNatClampNeg (l3 + l4))) σ))))
noncomputable def f_X13_meets_25  (n : Nat) : Int32 → Int32 → Int32 → jM → Option (Int32 × jM) := Nat.rec (motive := fun _ => Int32 → Int32 → Int32 → jM → Option (Int32 × jM)) (fun _ _ _ _ => none) (fun _ q => s_X13_meets_25  q) n
noncomputable def f_X13_meets (a1 : Int32) (a2 : Int32) (σ : jM) : Option (Int32 × jM) :=
  (if a1 = 0 then f_X13_meets_25  Fu a1 (40 * (rI (wI σ 324 68 ((rI σ 324 68) + 1)) 324 64)) 0 (wI σ 324 68 ((rI σ 324 68) + 1)) else (if a1 = 2 then (if ((rI (wI σ 324 68 ((rI σ 324 68) + 1)) 324 68) - 1) = (rI (wI σ 324 68 ((rI σ 324 68) + 1)) 324 69) then f_X13_meets_106  Fu (40 * (rI (wI σ 324 68 ((rI σ 324 68) + 1)) 324 64)) 0 (wI σ 324 68 ((rI σ 324 68) + 1)) else f_X13_meets_169  a1 a2 (wI σ 324 68 ((rI σ 324 68) + 1))) else f_X13_meets_169  a1 a2 (wI σ 324 68 ((rI σ 324 68) + 1))))
set_option maxRecDepth 20000 in
set_option maxHeartbeats 4000000 in
theorem t_X13_meets_189  (s0 : Int32) (σ : jM) (r : Int32 × jM)  (h : f_X13_meets_189  s0 σ = some r) : J mi_X13_meets 4 0 0 (jqI r) 189 [] [.int s0] (ms σ) := by
  unfold f_X13_meets_189 at h
  obtain ⟨g10, h⟩ := gd_inv h
  exact J_ret (v := some (.int s0)) rfl ⟨dX13_meets_189, Or.inr (Or.inl ⟨rfl, g10⟩)⟩ (jqI_mk h)
set_option maxRecDepth 20000 in
set_option maxHeartbeats 4000000 in
theorem t_X13_meets_179  (l1 : Int32) (σ : jM) (r : Int32 × jM)  (h : f_X13_meets_179  l1 σ = some r) : J mi_X13_meets 4 0 0 (jqI r) 179 [(1, .int l1)] [] (ms σ) := by
  unfold f_X13_meets_179 at h
  refine J_iload_n 0 dX13_meets_179 rfl ?_
  refine J_iconst (v := 1) dX13_meets_180 (by decide) ?_
  refine J_icmp_eq (tgt := 188) dX13_meets_181 (by decide) (fun c12 => ?_) (fun c12 => ?_)
  · have h := (if_pos c12).symm.trans h
    refine J_iconst (v := 0) dX13_meets_188 (by decide) ?_
    refine J_pick [] rfl ?_
    exact t_X13_meets_189  _ _ _  h
  · have h := (if_neg c12).symm.trans h
    refine J_iconst (v := 1) dX13_meets_184 (by decide) ?_
    refine J_goto (tgt := 189) dX13_meets_185 (by decide) ?_
    refine J_pick [] rfl ?_
    exact t_X13_meets_189  _ _ _  h
set_option maxRecDepth 20000 in
set_option maxHeartbeats 4000000 in
theorem t_X13_meets_169  (l1 : Int32) (l2 : Int32) (σ : jM) (r : Int32 × jM)  (h : f_X13_meets_169  l1 l2 σ = some r) : J mi_X13_meets 4 0 0 (jqI r) 169 [(0, .ref 324), (1, .int l1), (2, .int l2)] [] (ms σ) := by
  unfold f_X13_meets_169 at h
  refine J_iload_n 1 dX13_meets_169 rfl ?_
  refine J_iconst (v := 3) dX13_meets_170 (by decide) ?_
  refine J_icmp_ne (tgt := 179) dX13_meets_171 (by decide) (fun c17 => ?_) (fun c17 => ?_)
  · have h := (if_neg c17).symm.trans h
    refine J_pick [1] rfl ?_
    exact t_X13_meets_179  _ _ _  h
  · have h := (if_pos c17).symm.trans h
    refine J_aload_n 0 dX13_meets_174 rfl ?_
    refine J_iload_n 2 dX13_meets_175 rfl ?_
    obtain ⟨_, σ19, h20, h⟩ := bd_inv h
    refine M_callVV (d' := 3) (k := 324) (As := [.int l2]) (st := []) cv_X13_420 dX13_meets_176 rfl (by decide) rfl (Nat.le_of_ble_eq_true rfl) (Nat.le_of_ble_eq_true rfl) (by decide) n_324 k_324 rfl rfl (t_X13_marksFits  h20) ?_
    refine J_pick [1] rfl ?_
    exact t_X13_meets_179  _ _ _  h
set_option maxRecDepth 20000 in
set_option maxHeartbeats 4000000 in
theorem t_X13_meets_138  : ∀ (n : Nat) (l4 : Int32) (σ : jM) (r : Int32 × jM), f_X13_meets_138  n l4 σ = some r → J mi_X13_meets 4 0 0 (jqI r) 138 [(0, .ref 324), (4, .int l4)] [] (ms σ) := by
  intro n
  induction n with
  | zero =>
    intro l4 σ r  h
    have h : (none : Option (Int32 × jM)) = some r := h
    cases h
  | succ n ih =>
    intro l4 σ r  h
    have h : s_X13_meets_138  (f_X13_meets_138  n) l4 σ = some r := h
    unfold s_X13_meets_138 at h
    refine J_iload 1 dX13_meets_138 rfl ?_
    refine J_aload_n 0 dX13_meets_140 rfl ?_
    refine M_getI gf_X13_414_12 dX13_meets_141 k_324 n_324 ?_
    refine J_icmp_ge (tgt := 167) dX13_meets_144 (by decide) (fun c24 => ?_) (fun c24 => ?_)
    · have h := (if_pos c24).symm.trans h
      refine J_iconst (v := 0) dX13_meets_167 (by decide) ?_
      exact J_ret (v := some (.int 0)) rfl ⟨dX13_meets_168, Or.inr (Or.inl ⟨rfl, Or.inl rfl⟩)⟩ (jqI_mk h)
    · have h := (if_neg c24).symm.trans h
      refine J_aload_n 0 dX13_meets_147 rfl ?_
      refine M_getR gf_X13_154_12 dX13_meets_148 (g_324_70 _) k_324 n_324 ?_
      refine J_iload 1 dX13_meets_151 rfl ?_
      refine J_aload_n 0 dX13_meets_153 rfl ?_
      refine M_getR gf_X13_148_12 dX13_meets_154 (g_324_66 _) k_324 n_324 ?_
      refine J_iload 1 dX13_meets_157 rfl ?_
      obtain ⟨g25, h⟩ := gd_inv h
      refine M_iald dX13_meets_159 a_368 n_368 g25 ?_
      obtain ⟨g26, h⟩ := gd_inv h
      refine M_iast dX13_meets_160 a_370 n_370 g26 ?_
      refine J_iinc (v := (l4 + 1)) (ls' := [(4, .int (l4 + 1)), (0, .ref 324)]) 1 dX13_meets_161 rfl rfl (by decide) rfl ?_
      refine J_goto (tgt := 138) dX13_meets_164 (by decide) ?_
      refine J_pick [1, 0] rfl ?_
      exact ih _ _ _  h
set_option maxRecDepth 20000 in
set_option maxHeartbeats 4000000 in
theorem t_X13_meets_106  : ∀ (n : Nat) (l3 : Int32) (l4 : Int32) (σ : jM) (r : Int32 × jM), f_X13_meets_106  n l3 l4 σ = some r → J mi_X13_meets 4 0 0 (jqI r) 106 [(0, .ref 324), (3, .int l3), (4, .int l4)] [] (ms σ) := by
  intro n
  induction n with
  | zero =>
    intro l3 l4 σ r  h
    have h : (none : Option (Int32 × jM)) = some r := h
    cases h
  | succ n ih =>
    intro l3 l4 σ r  h
    have h : s_X13_meets_106  (f_X13_meets_106  n) l3 l4 σ = some r := h
    unfold s_X13_meets_106 at h
    refine J_iload 2 dX13_meets_106 rfl ?_
    refine J_bipush (v := 40) dX13_meets_108 (by decide) ?_
    refine J_icmp_ge (tgt := 135) dX13_meets_110 (by decide) (fun c30 => ?_) (fun c30 => ?_)
    · have h := (if_pos c30).symm.trans h
      refine J_iconst (v := 0) dX13_meets_135 (by decide) ?_
      refine J_istore (i := 4) (ls' := [(4, .int 0), (0, .ref 324), (3, .int l3)]) dX13_meets_136 (by decide) rfl ?_
      refine J_pick [1, 0] rfl ?_
      exact t_X13_meets_138  _ _ _ _  h
    · have h := (if_neg c30).symm.trans h
      refine J_aload_n 0 dX13_meets_113 rfl ?_
      refine M_getR gf_X13_157_12 dX13_meets_114 (g_324_71 _) k_324 n_324 ?_
      refine J_iload 2 dX13_meets_117 rfl ?_
      refine J_aload_n 0 dX13_meets_119 rfl ?_
      refine M_getR gf_X13_151_12 dX13_meets_120 (g_324_67 _) k_324 n_324 ?_
      refine J_iload_n 1 dX13_meets_123 rfl ?_
      refine J_iload 2 dX13_meets_124 rfl ?_
      refine J_iadd dX13_meets_126 ?_
      obtain ⟨g31, h⟩ := gd_inv h
      refine M_iald dX13_meets_127 a_369 n_369 g31 ?_
      obtain ⟨g32, h⟩ := gd_inv h
      refine M_iast dX13_meets_128 a_371 n_371 g32 ?_
      refine J_iinc (v := (l4 + 1)) (ls' := [(4, .int (l4 + 1)), (0, .ref 324), (3, .int l3)]) 2 dX13_meets_129 rfl rfl (by decide) rfl ?_
      refine J_goto (tgt := 106) dX13_meets_132 (by decide) ?_
      refine J_pick [1, 2, 0] rfl ?_
      exact ih _ _ _ _  h
set_option maxRecDepth 20000 in
set_option maxHeartbeats 4000000 in
theorem t_X13_meets_70 {rec25 : Int32 → Int32 → Int32 → jM → Option (Int32 × jM)} (hrec25 : ∀ (l1 : Int32) (l3 : Int32) (l4 : Int32) (σ : jM) (r : Int32 × jM), rec25 l1 l3 l4 σ = some r → J mi_X13_meets 4 0 0 (jqI r) 25 [(0, .ref 324), (1, .int l1), (3, .int l3), (4, .int l4)] [] (ms σ)) (l1 : Int32) (l3 : Int32) (l4 : Int32) (s1 : Int32) (s2 : Int32) (σ : jM) (r : Int32 × jM)  (h : f_X13_meets_70 rec25 l1 l3 l4 s1 s2 σ = some r) : J mi_X13_meets 4 0 0 (jqI r) 70 [(0, .ref 324), (1, .int l1), (3, .int l3), (4, .int l4)] [.int s2, .int s1, .ref 372] (ms σ) := by
  unfold f_X13_meets_70 at h
  refine J_iadd dX13_meets_70 ?_
  refine J_dup2 dX13_meets_71 rfl rfl ?_
  obtain ⟨g35, h⟩ := gd_inv h
  refine M_iald dX13_meets_72 a_372 n_372 g35 ?_
  refine J_iconst (v := 1) dX13_meets_73 (by decide) ?_
  refine J_iadd dX13_meets_74 ?_
  obtain ⟨g36, h⟩ := gd_inv h
  refine M_iast dX13_meets_75 a_372 n_372 g36 ?_
  refine J_iinc (v := (l4 + 1)) (ls' := [(4, .int (l4 + 1)), (0, .ref 324), (1, .int l1), (3, .int l3)]) 3 dX13_meets_76 rfl rfl (by decide) rfl ?_
  refine J_goto (tgt := 25) dX13_meets_79 (by decide) ?_
  refine J_pick [1, 2, 3, 0] rfl ?_
  exact hrec25 _ _ _ _ _  h
set_option maxRecDepth 20000 in
set_option maxHeartbeats 4000000 in
theorem t_X13_meets_25  : ∀ (n : Nat) (l1 : Int32) (l3 : Int32) (l4 : Int32) (σ : jM) (r : Int32 × jM), f_X13_meets_25  n l1 l3 l4 σ = some r → J mi_X13_meets 4 0 0 (jqI r) 25 [(0, .ref 324), (1, .int l1), (3, .int l3), (4, .int l4)] [] (ms σ) := by
  intro n
  induction n with
  | zero =>
    intro l1 l3 l4 σ r  h
    have h : (none : Option (Int32 × jM)) = some r := h
    cases h
  | succ n ih =>
    intro l1 l3 l4 σ r  h
    have h : s_X13_meets_25  (f_X13_meets_25  n) l1 l3 l4 σ = some r := h
    unfold s_X13_meets_25 at h
    refine J_iload 3 dX13_meets_25 rfl ?_
    refine J_bipush (v := 40) dX13_meets_27 (by decide) ?_
    refine J_icmp_ge (tgt := 82) dX13_meets_29 (by decide) (fun c41 => ?_) (fun c41 => ?_)
    · have h := (if_pos c41).symm.trans h
      refine J_goto (tgt := 179) dX13_meets_82 (by decide) ?_
      refine J_pick [1] rfl ?_
      exact t_X13_meets_179  _ _ _  h
    · have h := (if_neg c41).symm.trans h
      refine J_aload_n 0 dX13_meets_32 rfl ?_
      refine M_getR gf_X13_160_12 dX13_meets_33 (g_324_72 _) k_324 n_324 ?_
      refine J_sipush (v := 136) dX13_meets_36 (by decide) ?_
      refine J_iload 3 dX13_meets_39 rfl ?_
      refine J_imul dX13_meets_41 ?_
      refine J_aload_n 0 dX13_meets_42 rfl ?_
      refine M_getR gf_X13_151_12 dX13_meets_43 (g_324_67 _) k_324 n_324 ?_
      refine J_iload_n 2 dX13_meets_46 rfl ?_
      refine J_iload 3 dX13_meets_47 rfl ?_
      refine J_iadd dX13_meets_49 ?_
      obtain ⟨g42, h⟩ := gd_inv h
      refine M_iald dX13_meets_50 a_369 n_369 g42 ?_
      refine J_iconst (v := (-1)) dX13_meets_51 (by decide) ?_
      refine J_icmp_ne (tgt := 61) dX13_meets_52 (by decide) (fun c43 => ?_) (fun c43 => ?_)
      · have h := (if_neg c43).symm.trans h
        refine J_aload_n 0 dX13_meets_61 rfl ?_
        refine M_getR gf_X13_151_12 dX13_meets_62 (g_324_67 _) k_324 n_324 ?_
        refine J_iload_n 2 dX13_meets_65 rfl ?_
        refine J_iload 3 dX13_meets_66 rfl ?_
        refine J_iadd dX13_meets_68 ?_
        obtain ⟨g44, h⟩ := gd_inv h
        refine M_iald dX13_meets_69 a_369 n_369 g44 ?_
        exact t_X13_meets_70 ih _ _ _ _ _ _ _  h
      · have h := (if_pos c43).symm.trans h
        refine J_sipush (v := 135) dX13_meets_55 (by decide) ?_
        refine J_goto (tgt := 70) dX13_meets_58 (by decide) ?_
        exact t_X13_meets_70 ih _ _ _ _ _ _ _  h
set_option maxRecDepth 20000 in
set_option maxHeartbeats 4000000 in
theorem t_X13_meets {a1 : Int32} {a2 : Int32} {σ : jM} {r : Int32 × jM}  (h : f_X13_meets a1 a2 σ = some r) : J mi_X13_meets 4 0 0 (jqI r) 0 [(0, .ref 324), (1, .int a1), (2, .int a2)] [] (ms σ) := by
  unfold f_X13_meets at h
  refine J_aload_n 0 dX13_meets_0 rfl ?_
  refine J_dup dX13_meets_1 rfl ?_
  refine M_getI gf_X13_411_12 dX13_meets_2 k_324 n_324 ?_
  refine J_iconst (v := 1) dX13_meets_5 (by decide) ?_
  refine J_iadd dX13_meets_6 ?_
  refine M_putI pf_X13_411_12 dX13_meets_7 k_324 n_324 ⟨rfl, rfl⟩ ?_
  refine J_bipush (v := 40) dX13_meets_10 (by decide) ?_
  refine J_aload_n 0 dX13_meets_12 rfl ?_
  refine M_getI gf_X13_414_12 dX13_meets_13 k_324 n_324 ?_
  refine J_imul dX13_meets_16 ?_
  refine J_istore_n (i := 3) (ls' := [(3, .int (40 * (rI (wI σ 324 68 ((rI σ 324 68) + 1)) 324 64))), (0, .ref 324), (1, .int a1), (2, .int a2)]) dX13_meets_17 rfl (by decide) rfl ?_
  refine J_iload_n 2 dX13_meets_18 rfl ?_
  refine J_if_ne (tgt := 85) dX13_meets_19 (by decide) (fun c45 => ?_) (fun c45 => ?_)
  · have h := (if_neg c45).symm.trans h
    refine J_iload_n 2 dX13_meets_85 rfl ?_
    refine J_iconst (v := 2) dX13_meets_86 (by decide) ?_
    refine J_icmp_ne (tgt := 169) dX13_meets_87 (by decide) (fun c46 => ?_) (fun c46 => ?_)
    · have h := (if_neg c46).symm.trans h
      refine J_pick [1, 2, 3] rfl ?_
      exact t_X13_meets_169  _ _ _ _  h
    · have h := (if_pos c46).symm.trans h
      refine J_aload_n 1 dX13_meets_90 rfl ?_
      refine M_getI gf_X13_411_12 dX13_meets_91 k_324 n_324 ?_
      refine J_iconst (v := 1) dX13_meets_94 (by decide) ?_
      refine J_isub dX13_meets_95 ?_
      refine J_aload_n 1 dX13_meets_96 rfl ?_
      refine M_getI gf_X13_417_12 dX13_meets_97 k_324 n_324 ?_
      refine J_icmp_ne (tgt := 169) dX13_meets_100 (by decide) (fun c47 => ?_) (fun c47 => ?_)
      · have h := (if_neg c47).symm.trans h
        refine J_pick [1, 2, 3] rfl ?_
        exact t_X13_meets_169  _ _ _ _  h
      · have h := (if_pos c47).symm.trans h
        refine J_iconst (v := 0) dX13_meets_103 (by decide) ?_
        refine J_istore (i := 4) (ls' := [(4, .int 0), (3, .int (40 * (rI (wI σ 324 68 ((rI σ 324 68) + 1)) 324 64))), (0, .ref 324), (1, .int a1), (2, .int a2)]) dX13_meets_104 (by decide) rfl ?_
        refine J_pick [2, 1, 0] rfl ?_
        exact t_X13_meets_106  _ _ _ _ _  h
  · have h := (if_pos c45).symm.trans h
    refine J_iconst (v := 0) dX13_meets_22 (by decide) ?_
    refine J_istore (i := 4) (ls' := [(4, .int 0), (3, .int (40 * (rI (wI σ 324 68 ((rI σ 324 68) + 1)) 324 64))), (0, .ref 324), (1, .int a1), (2, .int a2)]) dX13_meets_23 (by decide) rfl ?_
    refine J_pick [2, 3, 1, 0] rfl ?_
    exact t_X13_meets_25  _ _ _ _ _ _  h
theorem dX13_goesThrough_0 : decode cX13_goesThrough 0 = .ok (.aload_n 0, 1) := by decide +kernel
theorem dX13_goesThrough_1 : decode cX13_goesThrough 1 = .ok (.iconst 0, 1) := by decide +kernel
theorem dX13_goesThrough_2 : decode cX13_goesThrough 2 = .ok (.putfield 411, 3) := by decide +kernel
theorem dX13_goesThrough_5 : decode cX13_goesThrough 5 = .ok (.iconst 0, 1) := by decide +kernel
theorem dX13_goesThrough_6 : decode cX13_goesThrough 6 = .ok (.istore_n 3, 1) := by decide +kernel
theorem dX13_goesThrough_7 : decode cX13_goesThrough 7 = .ok (.iload_n 3, 1) := by decide +kernel
theorem dX13_goesThrough_8 : decode cX13_goesThrough 8 = .ok (.bipush 40, 2) := by decide +kernel
theorem dX13_goesThrough_10 : decode cX13_goesThrough 10 = .ok (.if_icmp .ge 16, 3) := by decide +kernel
theorem dX13_goesThrough_13 : decode cX13_goesThrough 13 = .ok (.aload_n 0, 1) := by decide +kernel
theorem dX13_goesThrough_14 : decode cX13_goesThrough 14 = .ok (.getfield 151, 3) := by decide +kernel
theorem dX13_goesThrough_17 : decode cX13_goesThrough 17 = .ok (.iload_n 3, 1) := by decide +kernel
theorem dX13_goesThrough_18 : decode cX13_goesThrough 18 = .ok (.iconst (-1), 1) := by decide +kernel
theorem dX13_goesThrough_19 : decode cX13_goesThrough 19 = .ok (.iastore, 1) := by decide +kernel
theorem dX13_goesThrough_20 : decode cX13_goesThrough 20 = .ok (.iinc 3 1, 3) := by decide +kernel
theorem dX13_goesThrough_23 : decode cX13_goesThrough 23 = .ok (.goto (-16), 3) := by decide +kernel
theorem dX13_goesThrough_26 : decode cX13_goesThrough 26 = .ok (.iconst 0, 1) := by decide +kernel
theorem dX13_goesThrough_27 : decode cX13_goesThrough 27 = .ok (.istore_n 3, 1) := by decide +kernel
theorem dX13_goesThrough_28 : decode cX13_goesThrough 28 = .ok (.aload_n 0, 1) := by decide +kernel
theorem dX13_goesThrough_29 : decode cX13_goesThrough 29 = .ok (.getfield 148, 3) := by decide +kernel
theorem dX13_goesThrough_32 : decode cX13_goesThrough 32 = .ok (.iconst 0, 1) := by decide +kernel
theorem dX13_goesThrough_33 : decode cX13_goesThrough 33 = .ok (.iconst (-1), 1) := by decide +kernel
theorem dX13_goesThrough_34 : decode cX13_goesThrough 34 = .ok (.iastore, 1) := by decide +kernel
theorem dX13_goesThrough_35 : decode cX13_goesThrough 35 = .ok (.iconst 1, 1) := by decide +kernel
theorem dX13_goesThrough_36 : decode cX13_goesThrough 36 = .ok (.istore 4, 2) := by decide +kernel
theorem dX13_goesThrough_38 : decode cX13_goesThrough 38 = .ok (.aload_n 0, 1) := by decide +kernel
theorem dX13_goesThrough_39 : decode cX13_goesThrough 39 = .ok (.getfield 414, 3) := by decide +kernel
theorem dX13_goesThrough_42 : decode cX13_goesThrough 42 = .ok (.ifCond .ne 12, 3) := by decide +kernel
theorem dX13_goesThrough_45 : decode cX13_goesThrough 45 = .ok (.aload_n 0, 1) := by decide +kernel
theorem dX13_goesThrough_46 : decode cX13_goesThrough 46 = .ok (.iload_n 1, 1) := by decide +kernel
theorem dX13_goesThrough_47 : decode cX13_goesThrough 47 = .ok (.iload_n 2, 1) := by decide +kernel
theorem dX13_goesThrough_48 : decode cX13_goesThrough 48 = .ok (.invokevirtual 423, 3) := by decide +kernel
theorem dX13_goesThrough_51 : decode cX13_goesThrough 51 = .ok (.istore 4, 2) := by decide +kernel
theorem dX13_goesThrough_53 : decode cX13_goesThrough 53 = .ok (.return_, 1) := by decide +kernel
theorem dX13_goesThrough_54 : decode cX13_goesThrough 54 = .ok (.iload_n 3, 1) := by decide +kernel
theorem dX13_goesThrough_55 : decode cX13_goesThrough 55 = .ok (.ifCond .lt 91, 3) := by decide +kernel
theorem dX13_goesThrough_58 : decode cX13_goesThrough 58 = .ok (.iload 4, 2) := by decide +kernel
theorem dX13_goesThrough_60 : decode cX13_goesThrough 60 = .ok (.ifCond .eq 86, 3) := by decide +kernel
theorem dX13_goesThrough_63 : decode cX13_goesThrough 63 = .ok (.aload_n 0, 1) := by decide +kernel
theorem dX13_goesThrough_64 : decode cX13_goesThrough 64 = .ok (.getfield 148, 3) := by decide +kernel
theorem dX13_goesThrough_67 : decode cX13_goesThrough 67 = .ok (.iload_n 3, 1) := by decide +kernel
theorem dX13_goesThrough_68 : decode cX13_goesThrough 68 = .ok (.dup2, 1) := by decide +kernel
theorem dX13_goesThrough_69 : decode cX13_goesThrough 69 = .ok (.iaload, 1) := by decide +kernel
theorem dX13_goesThrough_70 : decode cX13_goesThrough 70 = .ok (.iconst 1, 1) := by decide +kernel
theorem dX13_goesThrough_71 : decode cX13_goesThrough 71 = .ok (.iadd, 1) := by decide +kernel
theorem dX13_goesThrough_72 : decode cX13_goesThrough 72 = .ok (.iastore, 1) := by decide +kernel
theorem dX13_goesThrough_73 : decode cX13_goesThrough 73 = .ok (.aload_n 0, 1) := by decide +kernel
theorem dX13_goesThrough_74 : decode cX13_goesThrough 74 = .ok (.getfield 148, 3) := by decide +kernel
theorem dX13_goesThrough_77 : decode cX13_goesThrough 77 = .ok (.iload_n 3, 1) := by decide +kernel
theorem dX13_goesThrough_78 : decode cX13_goesThrough 78 = .ok (.iaload, 1) := by decide +kernel
theorem dX13_goesThrough_79 : decode cX13_goesThrough 79 = .ok (.aload_n 0, 1) := by decide +kernel
theorem dX13_goesThrough_80 : decode cX13_goesThrough 80 = .ok (.getfield 20, 3) := by decide +kernel
theorem dX13_goesThrough_83 : decode cX13_goesThrough 83 = .ok (.aload_n 0, 1) := by decide +kernel
theorem dX13_goesThrough_84 : decode cX13_goesThrough 84 = .ok (.getfield 127, 3) := by decide +kernel
theorem dX13_goesThrough_87 : decode cX13_goesThrough 87 = .ok (.aload_n 0, 1) := by decide +kernel
theorem dX13_goesThrough_88 : decode cX13_goesThrough 88 = .ok (.getfield 145, 3) := by decide +kernel
theorem dX13_goesThrough_91 : decode cX13_goesThrough 91 = .ok (.iload_n 3, 1) := by decide +kernel
theorem dX13_goesThrough_92 : decode cX13_goesThrough 92 = .ok (.iaload, 1) := by decide +kernel
theorem dX13_goesThrough_93 : decode cX13_goesThrough 93 = .ok (.iaload, 1) := by decide +kernel
theorem dX13_goesThrough_94 : decode cX13_goesThrough 94 = .ok (.iaload, 1) := by decide +kernel
theorem dX13_goesThrough_95 : decode cX13_goesThrough 95 = .ok (.if_icmp .ne 9, 3) := by decide +kernel
theorem dX13_goesThrough_98 : decode cX13_goesThrough 98 = .ok (.iinc 3 (-1), 3) := by decide +kernel
theorem dX13_goesThrough_101 : decode cX13_goesThrough 101 = .ok (.goto (-47), 3) := by decide +kernel
theorem dX13_goesThrough_104 : decode cX13_goesThrough 104 = .ok (.aload_n 0, 1) := by decide +kernel
theorem dX13_goesThrough_105 : decode cX13_goesThrough 105 = .ok (.iload_n 3, 1) := by decide +kernel
theorem dX13_goesThrough_106 : decode cX13_goesThrough 106 = .ok (.invokevirtual 426, 3) := by decide +kernel
theorem dX13_goesThrough_109 : decode cX13_goesThrough 109 = .ok (.ifCond .eq (-55), 3) := by decide +kernel
theorem dX13_goesThrough_112 : decode cX13_goesThrough 112 = .ok (.iload_n 3, 1) := by decide +kernel
theorem dX13_goesThrough_113 : decode cX13_goesThrough 113 = .ok (.iconst 1, 1) := by decide +kernel
theorem dX13_goesThrough_114 : decode cX13_goesThrough 114 = .ok (.iadd, 1) := by decide +kernel
theorem dX13_goesThrough_115 : decode cX13_goesThrough 115 = .ok (.aload_n 0, 1) := by decide +kernel
theorem dX13_goesThrough_116 : decode cX13_goesThrough 116 = .ok (.getfield 414, 3) := by decide +kernel
theorem dX13_goesThrough_119 : decode cX13_goesThrough 119 = .ok (.if_icmp .ne 14, 3) := by decide +kernel
theorem dX13_goesThrough_122 : decode cX13_goesThrough 122 = .ok (.aload_n 0, 1) := by decide +kernel
theorem dX13_goesThrough_123 : decode cX13_goesThrough 123 = .ok (.iload_n 1, 1) := by decide +kernel
theorem dX13_goesThrough_124 : decode cX13_goesThrough 124 = .ok (.iload_n 2, 1) := by decide +kernel
theorem dX13_goesThrough_125 : decode cX13_goesThrough 125 = .ok (.invokevirtual 423, 3) := by decide +kernel
theorem dX13_goesThrough_128 : decode cX13_goesThrough 128 = .ok (.istore 4, 2) := by decide +kernel
theorem dX13_goesThrough_130 : decode cX13_goesThrough 130 = .ok (.goto (-76), 3) := by decide +kernel
theorem dX13_goesThrough_133 : decode cX13_goesThrough 133 = .ok (.iinc 3 1, 3) := by decide +kernel
theorem dX13_goesThrough_136 : decode cX13_goesThrough 136 = .ok (.aload_n 0, 1) := by decide +kernel
theorem dX13_goesThrough_137 : decode cX13_goesThrough 137 = .ok (.getfield 148, 3) := by decide +kernel
theorem dX13_goesThrough_140 : decode cX13_goesThrough 140 = .ok (.iload_n 3, 1) := by decide +kernel
theorem dX13_goesThrough_141 : decode cX13_goesThrough 141 = .ok (.iconst (-1), 1) := by decide +kernel
theorem dX13_goesThrough_142 : decode cX13_goesThrough 142 = .ok (.iastore, 1) := by decide +kernel
theorem dX13_goesThrough_143 : decode cX13_goesThrough 143 = .ok (.goto (-89), 3) := by decide +kernel
theorem dX13_goesThrough_146 : decode cX13_goesThrough 146 = .ok (.return_, 1) := by decide +kernel
noncomputable def f_X13_goesThrough_146   (σ : jM) : Option (Unit × jM) :=
  some ((), σ)
noncomputable def s_X13_goesThrough_54  (rec54 : Int32 → Int32 → Int32 → Int32 → jM → Option (Unit × jM)) (l1 : Int32) (l2 : Int32) (l3 : Int32) (l4 : Int32) (σ : jM) : Option (Unit × jM) :=
  (if l3 < 0 then f_X13_goesThrough_146   σ else (if l4 = 0 then f_X13_goesThrough_146   σ else gd (inb l3 7) (gd (inb l3 7) (gd (inb l3 7) (gd (inb l3 7) (gd (inb (rI (wI σ 368 (Int32.toNatClampNeg l3) ((rI σ 368 (Int32.toNatClampNeg l3)) + 1)) 367 (Int32.toNatClampNeg l3)) 7) (gd (inb (rI (wI σ 368 (Int32.toNatClampNeg l3) ((rI σ 368 (Int32.toNatClampNeg l3)) + 1)) 361 (Int32.toNatClampNeg (rI (wI σ 368 (Int32.toNatClampNeg l3) ((rI σ 368 (Int32.toNatClampNeg l3)) + 1)) 367 (Int32.toNatClampNeg l3)))) 25) ((if (rI (wI σ 368 (Int32.toNatClampNeg l3) ((rI σ 368 (Int32.toNatClampNeg l3)) + 1)) 368 (Int32.toNatClampNeg l3)) = (rI (wI σ 368 (Int32.toNatClampNeg l3) ((rI σ 368 (Int32.toNatClampNeg l3)) + 1)) 327 (Int32.toNatClampNeg (rI (wI σ 368 (Int32.toNatClampNeg l3) ((rI σ 368 (Int32.toNatClampNeg l3)) + 1)) 361 (Int32.toNatClampNeg (rI (wI σ 368 (Int32.toNatClampNeg l3) ((rI σ 368 (Int32.toNatClampNeg l3)) + 1)) 367 (Int32.toNatClampNeg l3)))))) then rec54 l1 l2 (l3 + (-1)) l4 (wI σ 368 (Int32.toNatClampNeg l3) ((rI σ 368 (Int32.toNatClampNeg l3)) + 1)) else bd (f_X13_tries l3 (wI σ 368 (Int32.toNatClampNeg l3) ((rI σ 368 (Int32.toNatClampNeg l3)) + 1))) (fun r19 σ20 => (if r19 = 0 then rec54 l1 l2 l3 l4 σ20 else (if (l3 + 1) = (rI σ20 324 64) then bd (f_X13_meets l1 l2 σ20) (fun r25 σ26 => rec54 l1 l2 l3 r25 σ26) else gd (inb (l3 + 1) 7) (rec54 l1 l2 (l3 + 1) l4 (wI σ20 368 (Int32.toNatClampNeg (l3 + 1)) (-1)))))))))))))))
noncomputable def f_X13_goesThrough_54  (n : Nat) : Int32 → Int32 → Int32 → Int32 → jM → Option (Unit × jM) := Nat.rec (motive := fun _ => Int32 → Int32 → Int32 → Int32 → jM → Option (Unit × jM)) (fun _ _ _ _ _ => none) (fun _ q => s_X13_goesThrough_54  q) n
noncomputable def s_X13_goesThrough_7  (rec7 : Int32 → Int32 → Int32 → jM → Option (Unit × jM)) (l1 : Int32) (l2 : Int32) (l3 : Int32) (σ : jM) : Option (Unit × jM) :=
  (if 40 ≤ l3 then gd (inb 0 7) ((if (rI (wI σ 368 (Int32.toNatClampNeg 0) (-1)) 324 64) = 0 then bd (f_X13_meets l1 l2 (wI σ 368 (Int32.toNatClampNeg 0) (-1))) (fun r49 σ50 => some ((), σ50)) else f_X13_goesThrough_54  Fu l1 l2 0 1 (wI σ 368 (Int32.toNatClampNeg 0) (-1)))) else gd (inb l3 320) (rec7 l1 l2 (l3 + 1) (wI σ 369 (Int32.toNatClampNeg l3) (-1))))
noncomputable def f_X13_goesThrough_7  (n : Nat) : Int32 → Int32 → Int32 → jM → Option (Unit × jM) := Nat.rec (motive := fun _ => Int32 → Int32 → Int32 → jM → Option (Unit × jM)) (fun _ _ _ _ => none) (fun _ q => s_X13_goesThrough_7  q) n
noncomputable def f_X13_goesThrough (a1 : Int32) (a2 : Int32) (σ : jM) : Option (Unit × jM) :=
  f_X13_goesThrough_7  Fu a1 a2 0 (wI σ 324 68 0)
set_option maxRecDepth 20000 in
set_option maxHeartbeats 4000000 in
theorem t_X13_goesThrough_146   (σ : jM) (r : Unit × jM)  (h : f_X13_goesThrough_146   σ = some r) : J mi_X13_goesThrough 5 0 0 (jqV r) 146 [] [] (ms σ) := by
  unfold f_X13_goesThrough_146 at h
  exact J_ret (v := none) rfl ⟨dX13_goesThrough_146, rfl⟩ (jqV_mk h)
set_option maxRecDepth 20000 in
set_option maxHeartbeats 4000000 in
theorem t_X13_goesThrough_54  : ∀ (n : Nat) (l1 : Int32) (l2 : Int32) (l3 : Int32) (l4 : Int32) (σ : jM) (r : Unit × jM), f_X13_goesThrough_54  n l1 l2 l3 l4 σ = some r → J mi_X13_goesThrough 5 0 0 (jqV r) 54 [(0, .ref 324), (1, .int l1), (2, .int l2), (3, .int l3), (4, .int l4)] [] (ms σ) := by
  intro n
  induction n with
  | zero =>
    intro l1 l2 l3 l4 σ r  h
    have h : (none : Option (Unit × jM)) = some r := h
    cases h
  | succ n ih =>
    intro l1 l2 l3 l4 σ r  h
    have h : s_X13_goesThrough_54  (f_X13_goesThrough_54  n) l1 l2 l3 l4 σ = some r := h
    unfold s_X13_goesThrough_54 at h
    refine J_iload_n 3 dX13_goesThrough_54 rfl ?_
    refine J_if_lt (tgt := 146) dX13_goesThrough_55 (by decide) (fun c28 => ?_) (fun c28 => ?_)
    · have h := (if_pos c28).symm.trans h
      refine J_pick [] rfl ?_
      exact t_X13_goesThrough_146   _ _  h
    · have h := (if_neg c28).symm.trans h
      refine J_iload 4 dX13_goesThrough_58 rfl ?_
      refine J_if_eq (tgt := 146) dX13_goesThrough_60 (by decide) (fun c29 => ?_) (fun c29 => ?_)
      · have h := (if_pos c29).symm.trans h
        refine J_pick [] rfl ?_
        exact t_X13_goesThrough_146   _ _  h
      · have h := (if_neg c29).symm.trans h
        refine J_aload_n 0 dX13_goesThrough_63 rfl ?_
        refine M_getR gf_X13_148_12 dX13_goesThrough_64 (g_324_66 _) k_324 n_324 ?_
        refine J_iload_n 3 dX13_goesThrough_67 rfl ?_
        refine J_dup2 dX13_goesThrough_68 rfl rfl ?_
        obtain ⟨g30, h⟩ := gd_inv h
        refine M_iald dX13_goesThrough_69 a_368 n_368 g30 ?_
        refine J_iconst (v := 1) dX13_goesThrough_70 (by decide) ?_
        refine J_iadd dX13_goesThrough_71 ?_
        obtain ⟨g31, h⟩ := gd_inv h
        refine M_iast dX13_goesThrough_72 a_368 n_368 g31 ?_
        refine J_aload_n 0 dX13_goesThrough_73 rfl ?_
        refine M_getR gf_X13_148_12 dX13_goesThrough_74 (g_324_66 _) k_324 n_324 ?_
        refine J_iload_n 3 dX13_goesThrough_77 rfl ?_
        obtain ⟨g32, h⟩ := gd_inv h
        refine M_iald dX13_goesThrough_78 a_368 n_368 g32 ?_
        refine J_aload_n 0 dX13_goesThrough_79 rfl ?_
        refine M_getR gf_X13_20_12 dX13_goesThrough_80 (g_324_5 _) k_324 n_324 ?_
        refine J_aload_n 0 dX13_goesThrough_83 rfl ?_
        refine M_getR gf_X13_127_12 dX13_goesThrough_84 (g_324_58 _) k_324 n_324 ?_
        refine J_aload_n 0 dX13_goesThrough_87 rfl ?_
        refine M_getR gf_X13_145_12 dX13_goesThrough_88 (g_324_65 _) k_324 n_324 ?_
        refine J_iload_n 3 dX13_goesThrough_91 rfl ?_
        obtain ⟨g33, h⟩ := gd_inv h
        refine M_iald dX13_goesThrough_92 a_367 n_367 g33 ?_
        obtain ⟨g34, h⟩ := gd_inv h
        refine M_iald dX13_goesThrough_93 a_361 n_361 g34 ?_
        obtain ⟨g35, h⟩ := gd_inv h
        refine M_iald dX13_goesThrough_94 a_327 n_327 g35 ?_
        refine J_icmp_ne (tgt := 104) dX13_goesThrough_95 (by decide) (fun c36 => ?_) (fun c36 => ?_)
        · have h := (if_neg c36).symm.trans h
          refine J_aload_n 0 dX13_goesThrough_104 rfl ?_
          refine J_iload_n 3 dX13_goesThrough_105 rfl ?_
          obtain ⟨r37, σ38, h39, h⟩ := bd_inv h
          refine M_callVI (d' := 3) (k := 324) (As := [.int l3]) (st := []) cv_X13_426 dX13_goesThrough_106 rfl (by decide) rfl (Nat.le_of_ble_eq_true rfl) (Nat.le_of_ble_eq_true rfl) (by decide) n_324 k_324 rfl rfl (t_X13_tries  h39) ?_
          refine J_if_eq (tgt := 54) dX13_goesThrough_109 (by decide) (fun c40 => ?_) (fun c40 => ?_)
          · have h := (if_pos c40).symm.trans h
            exact ih _ _ _ _ _ _  h
          · have h := (if_neg c40).symm.trans h
            refine J_iload_n 3 dX13_goesThrough_112 rfl ?_
            refine J_iconst (v := 1) dX13_goesThrough_113 (by decide) ?_
            refine J_iadd dX13_goesThrough_114 ?_
            refine J_aload_n 0 dX13_goesThrough_115 rfl ?_
            refine M_getI gf_X13_414_12 dX13_goesThrough_116 k_324 n_324 ?_
            refine J_icmp_ne (tgt := 133) dX13_goesThrough_119 (by decide) (fun c41 => ?_) (fun c41 => ?_)
            · have h := (if_neg c41).symm.trans h
              refine J_iinc (v := (l3 + 1)) (ls' := [(3, .int (l3 + 1)), (0, .ref 324), (1, .int l1), (2, .int l2), (4, .int l4)]) 3 dX13_goesThrough_133 rfl rfl (by decide) rfl ?_
              refine J_aload_n 1 dX13_goesThrough_136 rfl ?_
              refine M_getR gf_X13_148_12 dX13_goesThrough_137 (g_324_66 _) k_324 n_324 ?_
              refine J_iload_n 0 dX13_goesThrough_140 rfl ?_
              refine J_iconst (v := (-1)) dX13_goesThrough_141 (by decide) ?_
              obtain ⟨g42, h⟩ := gd_inv h
              refine M_iast dX13_goesThrough_142 a_368 n_368 g42 ?_
              refine J_goto (tgt := 54) dX13_goesThrough_143 (by decide) ?_
              refine J_pick [1, 2, 3, 0, 4] rfl ?_
              exact ih _ _ _ _ _ _  h
            · have h := (if_pos c41).symm.trans h
              refine J_aload_n 0 dX13_goesThrough_122 rfl ?_
              refine J_iload_n 1 dX13_goesThrough_123 rfl ?_
              refine J_iload_n 2 dX13_goesThrough_124 rfl ?_
              obtain ⟨r43, σ44, h45, h⟩ := bd_inv h
              refine M_callVI (d' := 4) (k := 324) (As := [.int l1, .int l2]) (st := []) cv_X13_423 dX13_goesThrough_125 rfl (by decide) rfl (Nat.le_of_ble_eq_true rfl) (Nat.le_of_ble_eq_true rfl) (by decide) n_324 k_324 rfl rfl (t_X13_meets  h45) ?_
              refine J_istore (i := 4) (ls' := [(4, .int r43), (0, .ref 324), (1, .int l1), (2, .int l2), (3, .int l3)]) dX13_goesThrough_128 (by decide) rfl ?_
              refine J_goto (tgt := 54) dX13_goesThrough_130 (by decide) ?_
              refine J_pick [1, 2, 3, 4, 0] rfl ?_
              exact ih _ _ _ _ _ _  h
        · have h := (if_pos c36).symm.trans h
          refine J_iinc (v := (l3 + (-1))) (ls' := [(3, .int (l3 + (-1))), (0, .ref 324), (1, .int l1), (2, .int l2), (4, .int l4)]) 3 dX13_goesThrough_98 rfl rfl (by decide) rfl ?_
          refine J_goto (tgt := 54) dX13_goesThrough_101 (by decide) ?_
          refine J_pick [1, 2, 3, 0, 4] rfl ?_
          exact ih _ _ _ _ _ _  h
set_option maxRecDepth 20000 in
set_option maxHeartbeats 4000000 in
theorem t_X13_goesThrough_7  : ∀ (n : Nat) (l1 : Int32) (l2 : Int32) (l3 : Int32) (σ : jM) (r : Unit × jM), f_X13_goesThrough_7  n l1 l2 l3 σ = some r → J mi_X13_goesThrough 5 0 0 (jqV r) 7 [(0, .ref 324), (1, .int l1), (2, .int l2), (3, .int l3)] [] (ms σ) := by
  intro n
  induction n with
  | zero =>
    intro l1 l2 l3 σ r  h
    have h : (none : Option (Unit × jM)) = some r := h
    cases h
  | succ n ih =>
    intro l1 l2 l3 σ r  h
    have h : s_X13_goesThrough_7  (f_X13_goesThrough_7  n) l1 l2 l3 σ = some r := h
    unfold s_X13_goesThrough_7 at h
    refine J_iload_n 3 dX13_goesThrough_7 rfl ?_
    refine J_bipush (v := 40) dX13_goesThrough_8 (by decide) ?_
    refine J_icmp_ge (tgt := 26) dX13_goesThrough_10 (by decide) (fun c53 => ?_) (fun c53 => ?_)
    · have h := (if_pos c53).symm.trans h
      refine J_iconst (v := 0) dX13_goesThrough_26 (by decide) ?_
      refine J_istore_n (i := 3) (ls' := [(3, .int 0), (0, .ref 324), (1, .int l1), (2, .int l2)]) dX13_goesThrough_27 rfl (by decide) rfl ?_
      refine J_aload_n 1 dX13_goesThrough_28 rfl ?_
      refine M_getR gf_X13_148_12 dX13_goesThrough_29 (g_324_66 _) k_324 n_324 ?_
      refine J_iconst (v := 0) dX13_goesThrough_32 (by decide) ?_
      refine J_iconst (v := (-1)) dX13_goesThrough_33 (by decide) ?_
      obtain ⟨g54, h⟩ := gd_inv h
      refine M_iast dX13_goesThrough_34 a_368 n_368 g54 ?_
      refine J_iconst (v := 1) dX13_goesThrough_35 (by decide) ?_
      refine J_istore (i := 4) (ls' := [(4, .int 1), (3, .int 0), (0, .ref 324), (1, .int l1), (2, .int l2)]) dX13_goesThrough_36 (by decide) rfl ?_
      refine J_aload_n 2 dX13_goesThrough_38 rfl ?_
      refine M_getI gf_X13_414_12 dX13_goesThrough_39 k_324 n_324 ?_
      refine J_if_ne (tgt := 54) dX13_goesThrough_42 (by decide) (fun c55 => ?_) (fun c55 => ?_)
      · have h := (if_neg c55).symm.trans h
        refine J_pick [2, 3, 4, 1, 0] rfl ?_
        exact t_X13_goesThrough_54  _ _ _ _ _ _ _  h
      · have h := (if_pos c55).symm.trans h
        refine J_aload_n 2 dX13_goesThrough_45 rfl ?_
        refine J_iload_n 3 dX13_goesThrough_46 rfl ?_
        refine J_iload_n 4 dX13_goesThrough_47 rfl ?_
        obtain ⟨r56, σ57, h58, h⟩ := bd_inv h
        refine M_callVI (d' := 4) (k := 324) (As := [.int l1, .int l2]) (st := []) cv_X13_423 dX13_goesThrough_48 rfl (by decide) rfl (Nat.le_of_ble_eq_true rfl) (Nat.le_of_ble_eq_true rfl) (by decide) n_324 k_324 rfl rfl (t_X13_meets  h58) ?_
        refine J_istore (i := 4) (ls' := [(4, .int r56), (3, .int 0), (0, .ref 324), (1, .int l1), (2, .int l2)]) dX13_goesThrough_51 (by decide) rfl ?_
        exact J_ret (v := none) rfl ⟨dX13_goesThrough_53, rfl⟩ (jqV_mk h)
    · have h := (if_neg c53).symm.trans h
      refine J_aload_n 0 dX13_goesThrough_13 rfl ?_
      refine M_getR gf_X13_151_12 dX13_goesThrough_14 (g_324_67 _) k_324 n_324 ?_
      refine J_iload_n 3 dX13_goesThrough_17 rfl ?_
      refine J_iconst (v := (-1)) dX13_goesThrough_18 (by decide) ?_
      obtain ⟨g59, h⟩ := gd_inv h
      refine M_iast dX13_goesThrough_19 a_369 n_369 g59 ?_
      refine J_iinc (v := (l3 + 1)) (ls' := [(3, .int (l3 + 1)), (0, .ref 324), (1, .int l1), (2, .int l2)]) 3 dX13_goesThrough_20 rfl rfl (by decide) rfl ?_
      refine J_goto (tgt := 7) dX13_goesThrough_23 (by decide) ?_
      refine J_pick [1, 2, 3, 0] rfl ?_
      exact ih _ _ _ _ _  h
set_option maxRecDepth 20000 in
set_option maxHeartbeats 4000000 in
theorem t_X13_goesThrough {a1 : Int32} {a2 : Int32} {σ : jM} {r : Unit × jM}  (h : f_X13_goesThrough a1 a2 σ = some r) : J mi_X13_goesThrough 5 0 0 (jqV r) 0 [(0, .ref 324), (1, .int a1), (2, .int a2)] [] (ms σ) := by
  unfold f_X13_goesThrough at h
  refine J_aload_n 0 dX13_goesThrough_0 rfl ?_
  refine J_iconst (v := 0) dX13_goesThrough_1 (by decide) ?_
  refine M_putI pf_X13_411_12 dX13_goesThrough_2 k_324 n_324 ⟨rfl, rfl⟩ ?_
  refine J_iconst (v := 0) dX13_goesThrough_5 (by decide) ?_
  refine J_istore_n (i := 3) (ls' := [(3, .int 0), (0, .ref 324), (1, .int a1), (2, .int a2)]) dX13_goesThrough_6 rfl (by decide) rfl ?_
  refine J_pick [1, 2, 3, 0] rfl ?_
  exact t_X13_goesThrough_7  _ _ _ _ _ _  h
theorem dX13_findAll_0 : decode cX13_findAll 0 = .ok (.aload_n 0, 1) := by decide +kernel
theorem dX13_findAll_1 : decode cX13_findAll 1 = .ok (.iload_n 1, 1) := by decide +kernel
theorem dX13_findAll_2 : decode cX13_findAll 2 = .ok (.iconst 0, 1) := by decide +kernel
theorem dX13_findAll_3 : decode cX13_findAll 3 = .ok (.invokevirtual 432, 3) := by decide +kernel
theorem dX13_findAll_6 : decode cX13_findAll 6 = .ok (.iconst 0, 1) := by decide +kernel
theorem dX13_findAll_7 : decode cX13_findAll 7 = .ok (.istore_n 2, 1) := by decide +kernel
theorem dX13_findAll_8 : decode cX13_findAll 8 = .ok (.iload_n 2, 1) := by decide +kernel
theorem dX13_findAll_9 : decode cX13_findAll 9 = .ok (.sipush 5440, 3) := by decide +kernel
theorem dX13_findAll_12 : decode cX13_findAll 12 = .ok (.if_icmp .ge 16, 3) := by decide +kernel
theorem dX13_findAll_15 : decode cX13_findAll 15 = .ok (.aload_n 0, 1) := by decide +kernel
theorem dX13_findAll_16 : decode cX13_findAll 16 = .ok (.getfield 160, 3) := by decide +kernel
theorem dX13_findAll_19 : decode cX13_findAll 19 = .ok (.iload_n 2, 1) := by decide +kernel
theorem dX13_findAll_20 : decode cX13_findAll 20 = .ok (.iconst 0, 1) := by decide +kernel
theorem dX13_findAll_21 : decode cX13_findAll 21 = .ok (.iastore, 1) := by decide +kernel
theorem dX13_findAll_22 : decode cX13_findAll 22 = .ok (.iinc 2 1, 3) := by decide +kernel
theorem dX13_findAll_25 : decode cX13_findAll 25 = .ok (.goto (-17), 3) := by decide +kernel
theorem dX13_findAll_28 : decode cX13_findAll 28 = .ok (.aload_n 0, 1) := by decide +kernel
theorem dX13_findAll_29 : decode cX13_findAll 29 = .ok (.iconst 0, 1) := by decide +kernel
theorem dX13_findAll_30 : decode cX13_findAll 30 = .ok (.iload_n 1, 1) := by decide +kernel
theorem dX13_findAll_31 : decode cX13_findAll 31 = .ok (.invokevirtual 435, 3) := by decide +kernel
theorem dX13_findAll_34 : decode cX13_findAll 34 = .ok (.return_, 1) := by decide +kernel
noncomputable def s_X13_findAll_8  (rec8 : Int32 → Int32 → jM → Option (Unit × jM)) (l1 : Int32) (l2 : Int32) (σ : jM) : Option (Unit × jM) :=
  (if 5440 ≤ l2 then bd (f_X13_goesThrough 0 l1 σ) (fun _ σ4 => some ((), σ4)) else gd (inb l2 5440) (rec8 l1 (l2 + 1) (wI σ 372 (Int32.toNatClampNeg l2) 0)))
noncomputable def f_X13_findAll_8  (n : Nat) : Int32 → Int32 → jM → Option (Unit × jM) := Nat.rec (motive := fun _ => Int32 → Int32 → jM → Option (Unit × jM)) (fun _ _ _ => none) (fun _ q => s_X13_findAll_8  q) n
noncomputable def f_X13_findAll (a1 : Int32) (σ : jM) : Option (Unit × jM) :=
  bd (f_X13_takes a1 0 σ) (fun _ σ13 => f_X13_findAll_8  Fu a1 0 σ13)
set_option maxRecDepth 20000 in
set_option maxHeartbeats 4000000 in
theorem t_X13_findAll_8  : ∀ (n : Nat) (l1 : Int32) (l2 : Int32) (σ : jM) (r : Unit × jM), f_X13_findAll_8  n l1 l2 σ = some r → J mi_X13_findAll 6 0 0 (jqV r) 8 [(0, .ref 324), (1, .int l1), (2, .int l2)] [] (ms σ) := by
  intro n
  induction n with
  | zero =>
    intro l1 l2 σ r  h
    have h : (none : Option (Unit × jM)) = some r := h
    cases h
  | succ n ih =>
    intro l1 l2 σ r  h
    have h : s_X13_findAll_8  (f_X13_findAll_8  n) l1 l2 σ = some r := h
    unfold s_X13_findAll_8 at h
    refine J_iload_n 2 dX13_findAll_8 rfl ?_
    refine J_sipush (v := 5440) dX13_findAll_9 (by decide) ?_
    refine J_icmp_ge (tgt := 28) dX13_findAll_12 (by decide) (fun c7 => ?_) (fun c7 => ?_)
    · have h := (if_pos c7).symm.trans h
      refine J_aload_n 0 dX13_findAll_28 rfl ?_
      refine J_iconst (v := 0) dX13_findAll_29 (by decide) ?_
      refine J_iload_n 1 dX13_findAll_30 rfl ?_
      obtain ⟨_, σ9, h10, h⟩ := bd_inv h
      refine M_callVV (d' := 5) (k := 324) (As := [.int 0, .int l1]) (st := []) cv_X13_435 dX13_findAll_31 rfl (by decide) rfl (Nat.le_of_ble_eq_true rfl) (Nat.le_of_ble_eq_true rfl) (by decide) n_324 k_324 rfl rfl (t_X13_goesThrough  h10) ?_
      exact J_ret (v := none) rfl ⟨dX13_findAll_34, rfl⟩ (jqV_mk h)
    · have h := (if_neg c7).symm.trans h
      refine J_aload_n 0 dX13_findAll_15 rfl ?_
      refine M_getR gf_X13_160_12 dX13_findAll_16 (g_324_72 _) k_324 n_324 ?_
      refine J_iload_n 2 dX13_findAll_19 rfl ?_
      refine J_iconst (v := 0) dX13_findAll_20 (by decide) ?_
      obtain ⟨g11, h⟩ := gd_inv h
      refine M_iast dX13_findAll_21 a_372 n_372 g11 ?_
      refine J_iinc (v := (l2 + 1)) (ls' := [(2, .int (l2 + 1)), (0, .ref 324), (1, .int l1)]) 2 dX13_findAll_22 rfl rfl (by decide) rfl ?_
      refine J_goto (tgt := 8) dX13_findAll_25 (by decide) ?_
      refine J_pick [1, 2, 0] rfl ?_
      exact ih _ _ _ _  h
set_option maxRecDepth 20000 in
set_option maxHeartbeats 4000000 in
theorem t_X13_findAll {a1 : Int32} {σ : jM} {r : Unit × jM}  (h : f_X13_findAll a1 σ = some r) : J mi_X13_findAll 6 0 0 (jqV r) 0 [(0, .ref 324), (1, .int a1)] [] (ms σ) := by
  unfold f_X13_findAll at h
  refine J_aload_n 0 dX13_findAll_0 rfl ?_
  refine J_iload_n 1 dX13_findAll_1 rfl ?_
  refine J_iconst (v := 0) dX13_findAll_2 (by decide) ?_
  obtain ⟨_, σ13, h14, h⟩ := bd_inv h
  refine M_callVV (d' := 5) (k := 324) (As := [.int a1, .int 0]) (st := []) cv_X13_432 dX13_findAll_3 rfl (by decide) rfl (Nat.le_of_ble_eq_true rfl) (Nat.le_of_ble_eq_true rfl) (by decide) n_324 k_324 rfl rfl (t_X13_takes  h14) ?_
  refine J_iconst (v := 0) dX13_findAll_6 (by decide) ?_
  refine J_istore_n (i := 2) (ls' := [(2, .int 0), (0, .ref 324), (1, .int a1)]) dX13_findAll_7 rfl (by decide) rfl ?_
  refine J_pick [1, 2, 0] rfl ?_
  exact t_X13_findAll_8  _ _ _ _ _  h
theorem dX13_ways_0 : decode cX13_ways 0 = .ok (.aload_n 0, 1) := by decide +kernel
theorem dX13_ways_1 : decode cX13_ways 1 = .ok (.iconst 0, 1) := by decide +kernel
theorem dX13_ways_2 : decode cX13_ways 2 = .ok (.putfield 1, 3) := by decide +kernel
theorem dX13_ways_5 : decode cX13_ways 5 = .ok (.aload_n 0, 1) := by decide +kernel
theorem dX13_ways_6 : decode cX13_ways 6 = .ok (.iload_n 1, 1) := by decide +kernel
theorem dX13_ways_7 : decode cX13_ways 7 = .ok (.invokevirtual 298, 3) := by decide +kernel
theorem dX13_ways_10 : decode cX13_ways 10 = .ok (.ifCond .ne 5, 3) := by decide +kernel
theorem dX13_ways_13 : decode cX13_ways 13 = .ok (.iconst (-1), 1) := by decide +kernel
theorem dX13_ways_14 : decode cX13_ways 14 = .ok (.ireturn, 1) := by decide +kernel
theorem dX13_ways_15 : decode cX13_ways 15 = .ok (.aload_n 0, 1) := by decide +kernel
theorem dX13_ways_16 : decode cX13_ways 16 = .ok (.iload_n 1, 1) := by decide +kernel
theorem dX13_ways_17 : decode cX13_ways 17 = .ok (.invokevirtual 438, 3) := by decide +kernel
theorem dX13_ways_20 : decode cX13_ways 20 = .ok (.aload_n 0, 1) := by decide +kernel
theorem dX13_ways_21 : decode cX13_ways 21 = .ok (.getfield 411, 3) := by decide +kernel
theorem dX13_ways_24 : decode cX13_ways 24 = .ok (.ireturn, 1) := by decide +kernel
noncomputable def f_X13_ways (a1 : Int32) (σ : jM) : Option (Int32 × jM) :=
  bd (f_X13_isKnown a1 (wI σ 324 0 0)) (fun r1 σ2 => (if r1 = 0 then some ((-1), σ2) else bd (f_X13_findAll a1 σ2) (fun _ σ6 => some ((rI σ6 324 68), σ6))))
set_option maxRecDepth 20000 in
set_option maxHeartbeats 4000000 in
theorem t_X13_ways {a1 : Int32} {σ : jM} {r : Int32 × jM}  (h : f_X13_ways a1 σ = some r) : J mi_X13_ways 7 0 0 (jqI r) 0 [(0, .ref 324), (1, .int a1)] [] (ms σ) := by
  unfold f_X13_ways at h
  refine J_aload_n 0 dX13_ways_0 rfl ?_
  refine J_iconst (v := 0) dX13_ways_1 (by decide) ?_
  refine M_putI pf_X13_1_12 dX13_ways_2 k_324 n_324 ⟨rfl, rfl⟩ ?_
  refine J_aload_n 0 dX13_ways_5 rfl ?_
  refine J_iload_n 1 dX13_ways_6 rfl ?_
  obtain ⟨r1, σ2, h3, h⟩ := bd_inv h
  refine M_callVI (d' := 1) (k := 324) (As := [.int a1]) (st := []) cv_X13_298 dX13_ways_7 rfl (by decide) rfl (Nat.le_of_ble_eq_true rfl) (Nat.le_of_ble_eq_true rfl) (by decide) n_324 k_324 rfl rfl (t_X13_isKnown  h3) ?_
  refine J_if_ne (tgt := 15) dX13_ways_10 (by decide) (fun c4 => ?_) (fun c4 => ?_)
  · have h := (if_neg c4).symm.trans h
    refine J_aload_n 0 dX13_ways_15 rfl ?_
    refine J_iload_n 1 dX13_ways_16 rfl ?_
    obtain ⟨_, σ6, h7, h⟩ := bd_inv h
    refine M_callVV (d' := 6) (k := 324) (As := [.int a1]) (st := []) cv_X13_438 dX13_ways_17 rfl (by decide) rfl (Nat.le_of_ble_eq_true rfl) (Nat.le_of_ble_eq_true rfl) (by decide) n_324 k_324 rfl rfl (t_X13_findAll  h7) ?_
    refine J_aload_n 0 dX13_ways_20 rfl ?_
    refine M_getI gf_X13_411_12 dX13_ways_21 k_324 n_324 ?_
    exact J_ret (v := some (.int (rI σ6 324 68))) rfl ⟨dX13_ways_24, Or.inl rfl⟩ (jqI_mk h)
  · have h := (if_pos c4).symm.trans h
    refine J_iconst (v := (-1)) dX13_ways_13 (by decide) ?_
    exact J_ret (v := some (.int (-1))) rfl ⟨dX13_ways_14, Or.inl rfl⟩ (jqI_mk h)
theorem dX13_findWay_0 : decode cX13_findWay 0 = .ok (.aload_n 0, 1) := by decide +kernel
theorem dX13_findWay_1 : decode cX13_findWay 1 = .ok (.iload_n 1, 1) := by decide +kernel
theorem dX13_findWay_2 : decode cX13_findWay 2 = .ok (.iconst 0, 1) := by decide +kernel
theorem dX13_findWay_3 : decode cX13_findWay 3 = .ok (.invokevirtual 432, 3) := by decide +kernel
theorem dX13_findWay_6 : decode cX13_findWay 6 = .ok (.aload_n 0, 1) := by decide +kernel
theorem dX13_findWay_7 : decode cX13_findWay 7 = .ok (.iload_n 2, 1) := by decide +kernel
theorem dX13_findWay_8 : decode cX13_findWay 8 = .ok (.putfield 417, 3) := by decide +kernel
theorem dX13_findWay_11 : decode cX13_findWay 11 = .ok (.aload_n 0, 1) := by decide +kernel
theorem dX13_findWay_12 : decode cX13_findWay 12 = .ok (.iconst 2, 1) := by decide +kernel
theorem dX13_findWay_13 : decode cX13_findWay 13 = .ok (.iload_n 1, 1) := by decide +kernel
theorem dX13_findWay_14 : decode cX13_findWay 14 = .ok (.invokevirtual 435, 3) := by decide +kernel
theorem dX13_findWay_17 : decode cX13_findWay 17 = .ok (.aload_n 0, 1) := by decide +kernel
theorem dX13_findWay_18 : decode cX13_findWay 18 = .ok (.getfield 411, 3) := by decide +kernel
theorem dX13_findWay_21 : decode cX13_findWay 21 = .ok (.iload_n 2, 1) := by decide +kernel
theorem dX13_findWay_22 : decode cX13_findWay 22 = .ok (.if_icmp .le 7, 3) := by decide +kernel
theorem dX13_findWay_25 : decode cX13_findWay 25 = .ok (.iconst 1, 1) := by decide +kernel
theorem dX13_findWay_26 : decode cX13_findWay 26 = .ok (.goto 4, 3) := by decide +kernel
theorem dX13_findWay_29 : decode cX13_findWay 29 = .ok (.iconst 0, 1) := by decide +kernel
theorem dX13_findWay_30 : decode cX13_findWay 30 = .ok (.ireturn, 1) := by decide +kernel
noncomputable def f_X13_findWay_30  (s0 : Int32) (σ : jM) : Option (Int32 × jM) :=
  gd (s0 = 0 ∨ s0 = 1) (some (s0, σ))
noncomputable def f_X13_findWay (a1 : Int32) (a2 : Int32) (σ : jM) : Option (Int32 × jM) :=
  bd (f_X13_takes a1 0 σ) (fun _ σ4 => bd (f_X13_goesThrough 2 a1 (wI σ4 324 69 a2)) (fun _ σ7 => (if (rI σ7 324 68) ≤ a2 then f_X13_findWay_30  0 σ7 else f_X13_findWay_30  1 σ7)))
set_option maxRecDepth 20000 in
set_option maxHeartbeats 4000000 in
theorem t_X13_findWay_30  (s0 : Int32) (σ : jM) (r : Int32 × jM)  (h : f_X13_findWay_30  s0 σ = some r) : J mi_X13_findWay 6 0 0 (jqI r) 30 [] [.int s0] (ms σ) := by
  unfold f_X13_findWay_30 at h
  obtain ⟨g2, h⟩ := gd_inv h
  exact J_ret (v := some (.int s0)) rfl ⟨dX13_findWay_30, Or.inr (Or.inl ⟨rfl, g2⟩)⟩ (jqI_mk h)
set_option maxRecDepth 20000 in
set_option maxHeartbeats 4000000 in
theorem t_X13_findWay {a1 : Int32} {a2 : Int32} {σ : jM} {r : Int32 × jM}  (h : f_X13_findWay a1 a2 σ = some r) : J mi_X13_findWay 6 0 0 (jqI r) 0 [(0, .ref 324), (1, .int a1), (2, .int a2)] [] (ms σ) := by
  unfold f_X13_findWay at h
  refine J_aload_n 0 dX13_findWay_0 rfl ?_
  refine J_iload_n 1 dX13_findWay_1 rfl ?_
  refine J_iconst (v := 0) dX13_findWay_2 (by decide) ?_
  obtain ⟨_, σ4, h5, h⟩ := bd_inv h
  refine M_callVV (d' := 5) (k := 324) (As := [.int a1, .int 0]) (st := []) cv_X13_432 dX13_findWay_3 rfl (by decide) rfl (Nat.le_of_ble_eq_true rfl) (Nat.le_of_ble_eq_true rfl) (by decide) n_324 k_324 rfl rfl (t_X13_takes  h5) ?_
  refine J_aload_n 0 dX13_findWay_6 rfl ?_
  refine J_iload_n 2 dX13_findWay_7 rfl ?_
  refine M_putI pf_X13_417_12 dX13_findWay_8 k_324 n_324 ⟨rfl, rfl⟩ ?_
  refine J_aload_n 0 dX13_findWay_11 rfl ?_
  refine J_iconst (v := 2) dX13_findWay_12 (by decide) ?_
  refine J_iload_n 1 dX13_findWay_13 rfl ?_
  obtain ⟨_, σ7, h8, h⟩ := bd_inv h
  refine M_callVV (d' := 5) (k := 324) (As := [.int 2, .int a1]) (st := []) cv_X13_435 dX13_findWay_14 rfl (by decide) rfl (Nat.le_of_ble_eq_true rfl) (Nat.le_of_ble_eq_true rfl) (by decide) n_324 k_324 rfl rfl (t_X13_goesThrough  h8) ?_
  refine J_aload_n 0 dX13_findWay_17 rfl ?_
  refine M_getI gf_X13_411_12 dX13_findWay_18 k_324 n_324 ?_
  refine J_iload_n 2 dX13_findWay_21 rfl ?_
  refine J_icmp_le (tgt := 29) dX13_findWay_22 (by decide) (fun c9 => ?_) (fun c9 => ?_)
  · have h := (if_pos c9).symm.trans h
    refine J_iconst (v := 0) dX13_findWay_29 (by decide) ?_
    refine J_pick [] rfl ?_
    exact t_X13_findWay_30  _ _ _  h
  · have h := (if_neg c9).symm.trans h
    refine J_iconst (v := 1) dX13_findWay_25 (by decide) ?_
    refine J_goto (tgt := 30) dX13_findWay_26 (by decide) ?_
    refine J_pick [] rfl ?_
    exact t_X13_findWay_30  _ _ _  h
