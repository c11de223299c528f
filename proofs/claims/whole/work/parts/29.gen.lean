theorem dX4_compare_0 : decode cX4_compare 0 = .ok (.lload_n 1, 1) := by decide +kernel
theorem dX4_compare_1 : decode cX4_compare 1 = .ok (.lload_n 3, 1) := by decide +kernel
theorem dX4_compare_2 : decode cX4_compare 2 = .ok (.lxor, 1) := by decide +kernel
theorem dX4_compare_3 : decode cX4_compare 3 = .ok (.invokestatic 126, 3) := by decide +kernel
theorem dX4_compare_6 : decode cX4_compare 6 = .ok (.istore 6, 2) := by decide +kernel
theorem dX4_compare_8 : decode cX4_compare 8 = .ok (.iload 6, 2) := by decide +kernel
theorem dX4_compare_10 : decode cX4_compare 10 = .ok (.iconst (-1), 1) := by decide +kernel
theorem dX4_compare_11 : decode cX4_compare 11 = .ok (.if_icmp .ne 4, 3) := by decide +kernel
theorem dX4_compare_14 : decode cX4_compare 14 = .ok (.return_, 1) := by decide +kernel
theorem dX4_compare_15 : decode cX4_compare 15 = .ok (.iload 6, 2) := by decide +kernel
theorem dX4_compare_17 : decode cX4_compare 17 = .ok (.bipush 6, 2) := by decide +kernel
theorem dX4_compare_19 : decode cX4_compare 19 = .ok (.idiv, 1) := by decide +kernel
theorem dX4_compare_20 : decode cX4_compare 20 = .ok (.istore 7, 2) := by decide +kernel
theorem dX4_compare_22 : decode cX4_compare 22 = .ok (.iload 7, 2) := by decide +kernel
theorem dX4_compare_24 : decode cX4_compare 24 = .ok (.bipush 6, 2) := by decide +kernel
theorem dX4_compare_26 : decode cX4_compare 26 = .ok (.imul, 1) := by decide +kernel
theorem dX4_compare_27 : decode cX4_compare 27 = .ok (.istore 8, 2) := by decide +kernel
theorem dX4_compare_29 : decode cX4_compare 29 = .ok (.lload_n 1, 1) := by decide +kernel
theorem dX4_compare_30 : decode cX4_compare 30 = .ok (.lload_n 3, 1) := by decide +kernel
theorem dX4_compare_31 : decode cX4_compare 31 = .ok (.lxor, 1) := by decide +kernel
theorem dX4_compare_32 : decode cX4_compare 32 = .ok (.iload 8, 2) := by decide +kernel
theorem dX4_compare_34 : decode cX4_compare 34 = .ok (.lushr, 1) := by decide +kernel
theorem dX4_compare_35 : decode cX4_compare 35 = .ok (.ldc2_w 129, 3) := by decide +kernel
theorem dX4_compare_38 : decode cX4_compare 38 = .ok (.lcmp, 1) := by decide +kernel
theorem dX4_compare_39 : decode cX4_compare 39 = .ok (.ifCond .lt 4, 3) := by decide +kernel
theorem dX4_compare_42 : decode cX4_compare 42 = .ok (.return_, 1) := by decide +kernel
theorem dX4_compare_43 : decode cX4_compare 43 = .ok (.lload_n 1, 1) := by decide +kernel
theorem dX4_compare_44 : decode cX4_compare 44 = .ok (.iload 8, 2) := by decide +kernel
theorem dX4_compare_46 : decode cX4_compare 46 = .ok (.invokestatic 131, 3) := by decide +kernel
theorem dX4_compare_49 : decode cX4_compare 49 = .ok (.istore 9, 2) := by decide +kernel
theorem dX4_compare_51 : decode cX4_compare 51 = .ok (.lload_n 3, 1) := by decide +kernel
theorem dX4_compare_52 : decode cX4_compare 52 = .ok (.iload 8, 2) := by decide +kernel
theorem dX4_compare_54 : decode cX4_compare 54 = .ok (.invokestatic 131, 3) := by decide +kernel
theorem dX4_compare_57 : decode cX4_compare 57 = .ok (.istore 10, 2) := by decide +kernel
theorem dX4_compare_59 : decode cX4_compare 59 = .ok (.iconst 0, 1) := by decide +kernel
theorem dX4_compare_60 : decode cX4_compare 60 = .ok (.istore 11, 2) := by decide +kernel
theorem dX4_compare_62 : decode cX4_compare 62 = .ok (.iload 11, 2) := by decide +kernel
theorem dX4_compare_64 : decode cX4_compare 64 = .ok (.aload_n 0, 1) := by decide +kernel
theorem dX4_compare_65 : decode cX4_compare 65 = .ok (.getfield 35, 3) := by decide +kernel
theorem dX4_compare_68 : decode cX4_compare 68 = .ok (.getfield 110, 3) := by decide +kernel
theorem dX4_compare_71 : decode cX4_compare 71 = .ok (.getfield 114, 3) := by decide +kernel
theorem dX4_compare_74 : decode cX4_compare 74 = .ok (.if_icmp .ge 103, 3) := by decide +kernel
theorem dX4_compare_77 : decode cX4_compare 77 = .ok (.aload_n 0, 1) := by decide +kernel
theorem dX4_compare_78 : decode cX4_compare 78 = .ok (.getfield 35, 3) := by decide +kernel
theorem dX4_compare_81 : decode cX4_compare 81 = .ok (.getfield 110, 3) := by decide +kernel
theorem dX4_compare_84 : decode cX4_compare 84 = .ok (.iload 11, 2) := by decide +kernel
theorem dX4_compare_86 : decode cX4_compare 86 = .ok (.iload 5, 2) := by decide +kernel
theorem dX4_compare_88 : decode cX4_compare 88 = .ok (.iload 7, 2) := by decide +kernel
theorem dX4_compare_90 : decode cX4_compare 90 = .ok (.invokevirtual 135, 3) := by decide +kernel
theorem dX4_compare_93 : decode cX4_compare 93 = .ok (.ifCond .eq 78, 3) := by decide +kernel
theorem dX4_compare_96 : decode cX4_compare 96 = .ok (.aload_n 0, 1) := by decide +kernel
theorem dX4_compare_97 : decode cX4_compare 97 = .ok (.getfield 11, 3) := by decide +kernel
theorem dX4_compare_100 : decode cX4_compare 100 = .ok (.iload 11, 2) := by decide +kernel
theorem dX4_compare_102 : decode cX4_compare 102 = .ok (.aaload, 1) := by decide +kernel
theorem dX4_compare_103 : decode cX4_compare 103 = .ok (.iload 9, 2) := by decide +kernel
theorem dX4_compare_105 : decode cX4_compare 105 = .ok (.iload 10, 2) := by decide +kernel
theorem dX4_compare_107 : decode cX4_compare 107 = .ok (.invokestatic 139, 3) := by decide +kernel
theorem dX4_compare_110 : decode cX4_compare 110 = .ok (.dup2, 1) := by decide +kernel
theorem dX4_compare_111 : decode cX4_compare 111 = .ok (.iaload, 1) := by decide +kernel
theorem dX4_compare_112 : decode cX4_compare 112 = .ok (.iconst 1, 1) := by decide +kernel
theorem dX4_compare_113 : decode cX4_compare 113 = .ok (.iadd, 1) := by decide +kernel
theorem dX4_compare_114 : decode cX4_compare 114 = .ok (.iastore, 1) := by decide +kernel
theorem dX4_compare_115 : decode cX4_compare 115 = .ok (.aload_n 0, 1) := by decide +kernel
theorem dX4_compare_116 : decode cX4_compare 116 = .ok (.getfield 11, 3) := by decide +kernel
theorem dX4_compare_119 : decode cX4_compare 119 = .ok (.iload 11, 2) := by decide +kernel
theorem dX4_compare_121 : decode cX4_compare 121 = .ok (.aaload, 1) := by decide +kernel
theorem dX4_compare_122 : decode cX4_compare 122 = .ok (.iload 9, 2) := by decide +kernel
theorem dX4_compare_124 : decode cX4_compare 124 = .ok (.iload 10, 2) := by decide +kernel
theorem dX4_compare_126 : decode cX4_compare 126 = .ok (.invokestatic 139, 3) := by decide +kernel
theorem dX4_compare_129 : decode cX4_compare 129 = .ok (.iaload, 1) := by decide +kernel
theorem dX4_compare_130 : decode cX4_compare 130 = .ok (.aload_n 0, 1) := by decide +kernel
theorem dX4_compare_131 : decode cX4_compare 131 = .ok (.getfield 35, 3) := by decide +kernel
theorem dX4_compare_134 : decode cX4_compare 134 = .ok (.getfield 110, 3) := by decide +kernel
theorem dX4_compare_137 : decode cX4_compare 137 = .ok (.getfield 142, 3) := by decide +kernel
theorem dX4_compare_140 : decode cX4_compare 140 = .ok (.iload 11, 2) := by decide +kernel
theorem dX4_compare_142 : decode cX4_compare 142 = .ok (.iaload, 1) := by decide +kernel
theorem dX4_compare_143 : decode cX4_compare 143 = .ok (.if_icmp .lt 28, 3) := by decide +kernel
theorem dX4_compare_146 : decode cX4_compare 146 = .ok (.aload_n 0, 1) := by decide +kernel
theorem dX4_compare_147 : decode cX4_compare 147 = .ok (.getfield 18, 3) := by decide +kernel
theorem dX4_compare_150 : decode cX4_compare 150 = .ok (.aload_n 0, 1) := by decide +kernel
theorem dX4_compare_151 : decode cX4_compare 151 = .ok (.getfield 35, 3) := by decide +kernel
theorem dX4_compare_154 : decode cX4_compare 154 = .ok (.getfield 110, 3) := by decide +kernel
theorem dX4_compare_157 : decode cX4_compare 157 = .ok (.getfield 145, 3) := by decide +kernel
theorem dX4_compare_160 : decode cX4_compare 160 = .ok (.iload 11, 2) := by decide +kernel
theorem dX4_compare_162 : decode cX4_compare 162 = .ok (.iaload, 1) := by decide +kernel
theorem dX4_compare_163 : decode cX4_compare 163 = .ok (.aaload, 1) := by decide +kernel
theorem dX4_compare_164 : decode cX4_compare 164 = .ok (.iload 9, 2) := by decide +kernel
theorem dX4_compare_166 : decode cX4_compare 166 = .ok (.iload 10, 2) := by decide +kernel
theorem dX4_compare_168 : decode cX4_compare 168 = .ok (.invokestatic 148, 3) := by decide +kernel
theorem dX4_compare_171 : decode cX4_compare 171 = .ok (.iinc 11 1, 3) := by decide +kernel
theorem dX4_compare_174 : decode cX4_compare 174 = .ok (.goto (-112), 3) := by decide +kernel
theorem dX4_compare_177 : decode cX4_compare 177 = .ok (.return_, 1) := by decide +kernel
noncomputable def f_X4_compare_171 (rec62 : Int32 → Int32 → Int32 → Int32 → Int32 → jM → Option (Unit × jM)) (l5 : Int32) (l7 : Int32) (l9 : Int32) (l10 : Int32) (l11 : Int32) (σ : jM) : Option (Unit × jM) :=
  rec62 l5 l7 l9 l10 (l11 + 1) σ
noncomputable def s_X4_compare_62  (rec62 : Int32 → Int32 → Int32 → Int32 → Int32 → jM → Option (Unit × jM)) (l5 : Int32) (l7 : Int32) (l9 : Int32) (l10 : Int32) (l11 : Int32) (σ : jM) : Option (Unit × jM) :=
  (if (rI σ (rulX (σ.2.2)) 1) ≤ l11 then some ((), σ) else bd (f_X7_means (σ.2.2) l11 l5 l7 σ) (fun r10 σ11 => (if r10 = 0 then f_X4_compare_171 rec62 l5 l7 l9 l10 l11 σ11 else gd (inb l11 12) (bd (f_X12_pairOf l9 l10 σ11) (fun r15 σ16 => gd (inb r15 780) (gd (inb r15 780) (gd (inb l11 12) (bd (f_X12_pairOf l9 l10 (wI σ16 (266 + (Int32.toNatClampNeg l11)) (Int32.toNatClampNeg r15) ((rI σ16 (266 + (Int32.toNatClampNeg l11)) (Int32.toNatClampNeg r15)) + 1))) (fun r21 σ22 => gd (inb r21 780) (gd (inb l11 12) ((if (rI σ22 (266 + (Int32.toNatClampNeg l11)) (Int32.toNatClampNeg r21)) < (rI σ22 (rulX (σ22.2.2) + 4) (Int32.toNatClampNeg l11)) then f_X4_compare_171 rec62 l5 l7 l9 l10 l11 σ22 else gd (inb l11 12) (gd (inb (rI σ22 (rulX (σ22.2.2) + 1) (Int32.toNatClampNeg l11)) 2) (bd (f_X12_join (279 + (Int32.toNatClampNeg (rI σ22 (rulX (σ22.2.2) + 1) (Int32.toNatClampNeg l11)))) l9 l10 σ22) (fun _ σ30 => f_X4_compare_171 rec62 l5 l7 l9 l10 l11 σ30)))))))))))))))
noncomputable def f_X4_compare_62  (n : Nat) : Int32 → Int32 → Int32 → Int32 → Int32 → jM → Option (Unit × jM) := Nat.rec (motive := fun _ => Int32 → Int32 → Int32 → Int32 → Int32 → jM → Option (Unit × jM)) (fun _ _ _ _ _ _ => none) (fun _ q => s_X4_compare_62  q) n
noncomputable def f_X4_compare (a1 : Int64) (a3 : Int64) (a5 : Int32) (σ : jM) : Option (Unit × jM) :=
  bd (f_X12_leastOf (a1 ^^^ a3) σ) (fun r55 σ56 => (if r55 = (-1) then some ((), σ56) else (if (lg_cmp (jlushr (a1 ^^^ a3) ((r55 / 6) * 6)) 64) < 0 then bd (f_X4_signIn a1 ((r55 / 6) * 6) σ56) (fun r60 σ61 => bd (f_X4_signIn a3 ((r55 / 6) * 6) σ61) (fun r63 σ64 => f_X4_compare_62  Fu a5 (r55 / 6) r60 r63 0 σ64)) else some ((), σ56))))
set_option maxRecDepth 20000 in
set_option maxHeartbeats 4000000 in
theorem t_X4_compare_171 {rec62 : Int32 → Int32 → Int32 → Int32 → Int32 → jM → Option (Unit × jM)} (hrec62 : ∀ (l5 : Int32) (l7 : Int32) (l9 : Int32) (l10 : Int32) (l11 : Int32) (σ : jM) (r : Unit × jM), rec62 l5 l7 l9 l10 l11 σ = some r → J mi_X4_compare 3 0 0 (jqV r) 62 [(0, .ref 264), (5, .int l5), (7, .int l7), (9, .int l9), (10, .int l10), (11, .int l11)] [] (ms σ)) (l5 : Int32) (l7 : Int32) (l9 : Int32) (l10 : Int32) (l11 : Int32) (σ : jM) (r : Unit × jM)  (h : f_X4_compare_171 rec62 l5 l7 l9 l10 l11 σ = some r) : J mi_X4_compare 3 0 0 (jqV r) 171 [(0, .ref 264), (5, .int l5), (7, .int l7), (9, .int l9), (10, .int l10), (11, .int l11)] [] (ms σ) := by
  unfold f_X4_compare_171 at h
  refine J_iinc (v := (l11 + 1)) (ls' := [(11, .int (l11 + 1)), (0, .ref 264), (5, .int l5), (7, .int l7), (9, .int l9), (10, .int l10)]) 5 dX4_compare_171 rfl rfl (by decide) rfl ?_
  refine J_goto (tgt := 62) dX4_compare_174 (by decide) ?_
  refine J_pick [1, 2, 3, 4, 5, 0] rfl ?_
  exact hrec62 _ _ _ _ _ _ _  h
set_option maxRecDepth 20000 in
set_option maxHeartbeats 4000000 in
theorem t_X4_compare_62  : ∀ (n : Nat) (l5 : Int32) (l7 : Int32) (l9 : Int32) (l10 : Int32) (l11 : Int32) (σ : jM) (r : Unit × jM), f_X4_compare_62  n l5 l7 l9 l10 l11 σ = some r → J mi_X4_compare 3 0 0 (jqV r) 62 [(0, .ref 264), (5, .int l5), (7, .int l7), (9, .int l9), (10, .int l10), (11, .int l11)] [] (ms σ) := by
  intro n
  induction n with
  | zero =>
    intro l5 l7 l9 l10 l11 σ r  h
    have h : (none : Option (Unit × jM)) = some r := h
    cases h
  | succ n ih =>
    intro l5 l7 l9 l10 l11 σ r  h
    have h : s_X4_compare_62  (f_X4_compare_62  n) l5 l7 l9 l10 l11 σ = some r := h
    unfold s_X4_compare_62 at h
    refine J_iload 5 dX4_compare_62 rfl ?_
    refine J_aload_n 0 dX4_compare_64 rfl ?_
    refine M_getR gf_X4_35_3 dX4_compare_65 (g_264_5 _) k_264 n_264 ?_
    refine M_getR (q := rulX σ.2.2) gf_X4_110_0 dX4_compare_68 rfl k_3 n_3 ?_
    refine M_getI gf_X4_114_6 dX4_compare_71 (kk_rul (σ.2.2)) (nn_rul (σ.2.2)) ?_
    refine J_icmp_ge (tgt := 177) dX4_compare_74 (by decide) (fun c32 => ?_) (fun c32 => ?_)
    · have h := (if_pos c32).symm.trans h
      exact J_ret (v := none) rfl ⟨dX4_compare_177, rfl⟩ (jqV_mk h)
    · have h := (if_neg c32).symm.trans h
      refine J_aload_n 0 dX4_compare_77 rfl ?_
      refine M_getR gf_X4_35_3 dX4_compare_78 (g_264_5 _) k_264 n_264 ?_
      refine M_getR (q := rulX σ.2.2) gf_X4_110_0 dX4_compare_81 rfl k_3 n_3 ?_
      refine J_iload 5 dX4_compare_84 rfl ?_
      refine J_iload 1 dX4_compare_86 rfl ?_
      refine J_iload 2 dX4_compare_88 rfl ?_
      obtain ⟨r33, σ34, h35, h⟩ := bd_inv h
      refine M_callVI (d' := 2) (k := (rulX (σ.2.2))) (As := [.int l11, .int l5, .int l7]) (st := []) cv_X4_135 dX4_compare_90 rfl (by decide) rfl (Nat.le_of_ble_eq_true rfl) (Nat.le_of_ble_eq_true rfl) (by decide) (nn_rul (σ.2.2)) (kk_rul (σ.2.2)) rfl rfl (t_X7_means  h35) ?_
      refine J_if_eq (tgt := 171) dX4_compare_93 (by decide) (fun c36 => ?_) (fun c36 => ?_)
      · have h := (if_pos c36).symm.trans h
        exact t_X4_compare_171 ih _ _ _ _ _ _ _  h
      · have h := (if_neg c36).symm.trans h
        refine J_aload_n 0 dX4_compare_96 rfl ?_
        refine M_getR gf_X4_11_3 dX4_compare_97 (g_264_1 _) k_264 n_264 ?_
        refine J_iload 5 dX4_compare_100 rfl ?_
        obtain ⟨g37, h⟩ := gd_inv h
        refine M_aald dX4_compare_102 a_265 (by decide) n_265 g37 (r_row265 _ g37.2) ?_
        refine J_iload 3 dX4_compare_103 rfl ?_
        refine J_iload 4 dX4_compare_105 rfl ?_
        obtain ⟨r38, σ39, h40, h⟩ := bd_inv h
        refine M_callNI (d' := 2) (As := [.int l9, .int l10]) (st := [.ref (266 + (Int32.toNatClampNeg l11))]) cn_X4_139 dX4_compare_107 rfl (Nat.le_of_ble_eq_true rfl) (Nat.le_of_ble_eq_true rfl) (by decide) rfl rfl (t_X12_pairOf  h40) ?_
        refine J_dup2 dX4_compare_110 rfl rfl ?_
        obtain ⟨g41, h⟩ := gd_inv h
        refine M_iald dX4_compare_111 (a_row265 g37.2) (na_row265 g37.2) g41 ?_
        refine J_iconst (v := 1) dX4_compare_112 (by decide) ?_
        refine J_iadd dX4_compare_113 ?_
        obtain ⟨g42, h⟩ := gd_inv h
        refine M_iast dX4_compare_114 (a_row265 g37.2) (na_row265 g37.2) g42 ?_
        refine J_aload_n 0 dX4_compare_115 rfl ?_
        refine M_getR gf_X4_11_3 dX4_compare_116 (g_264_1 _) k_264 n_264 ?_
        refine J_iload 5 dX4_compare_119 rfl ?_
        obtain ⟨g43, h⟩ := gd_inv h
        refine M_aald dX4_compare_121 a_265 (by decide) n_265 g43 (r_row265 _ g43.2) ?_
        refine J_iload 3 dX4_compare_122 rfl ?_
        refine J_iload 4 dX4_compare_124 rfl ?_
        obtain ⟨r44, σ45, h46, h⟩ := bd_inv h
        refine M_callNI (d' := 2) (As := [.int l9, .int l10]) (st := [.ref (266 + (Int32.toNatClampNeg l11))]) cn_X4_139 dX4_compare_126 rfl (Nat.le_of_ble_eq_true rfl) (Nat.le_of_ble_eq_true rfl) (by decide) rfl rfl (t_X12_pairOf  h46) ?_
        obtain ⟨g47, h⟩ := gd_inv h
        refine M_iald dX4_compare_129 (a_row265 g43.2) (na_row265 g43.2) g47 ?_
        refine J_aload_n 0 dX4_compare_130 rfl ?_
        refine M_getR gf_X4_35_3 dX4_compare_131 (g_264_5 _) k_264 n_264 ?_
        refine M_getR (q := rulX σ45.2.2) gf_X4_110_0 dX4_compare_134 rfl k_3 n_3 ?_
        refine M_getR gf_X4_142_6 dX4_compare_137 (gg_rul5 _ (σ45.2.2)) (kk_rul (σ45.2.2)) (nn_rul (σ45.2.2)) ?_
        refine J_iload 5 dX4_compare_140 rfl ?_
        obtain ⟨g48, h⟩ := gd_inv h
        refine M_iald dX4_compare_142 (aa_rul5 (σ45.2.2)) (nna_rul5 (σ45.2.2)) g48 ?_
        refine J_icmp_lt (tgt := 171) dX4_compare_143 (by decide) (fun c49 => ?_) (fun c49 => ?_)
        · have h := (if_pos c49).symm.trans h
          exact t_X4_compare_171 ih _ _ _ _ _ _ _  h
        · have h := (if_neg c49).symm.trans h
          refine J_aload_n 0 dX4_compare_146 rfl ?_
          refine M_getR gf_X4_18_3 dX4_compare_147 (g_264_2 _) k_264 n_264 ?_
          refine J_aload_n 0 dX4_compare_150 rfl ?_
          refine M_getR gf_X4_35_3 dX4_compare_151 (g_264_5 _) k_264 n_264 ?_
          refine M_getR (q := rulX σ45.2.2) gf_X4_110_0 dX4_compare_154 rfl k_3 n_3 ?_
          refine M_getR gf_X4_145_6 dX4_compare_157 (gg_rul2 _ (σ45.2.2)) (kk_rul (σ45.2.2)) (nn_rul (σ45.2.2)) ?_
          refine J_iload 5 dX4_compare_160 rfl ?_
          obtain ⟨g50, h⟩ := gd_inv h
          refine M_iald dX4_compare_162 (aa_rul2 (σ45.2.2)) (nna_rul2 (σ45.2.2)) g50 ?_
          obtain ⟨g51, h⟩ := gd_inv h
          refine M_aald dX4_compare_163 a_278 (by decide) n_278 g51 (r_row278 _ g51.2) ?_
          refine J_iload 3 dX4_compare_164 rfl ?_
          refine J_iload 4 dX4_compare_166 rfl ?_
          obtain ⟨_, σ53, h54, h⟩ := bd_inv h
          refine M_callNV (d' := 1) (As := [.ref (279 + (Int32.toNatClampNeg (rI σ45 (rulX (σ45.2.2) + 1) (Int32.toNatClampNeg l11)))), .int l9, .int l10]) (st := []) cn_X4_148 dX4_compare_168 rfl (Nat.le_of_ble_eq_true rfl) (Nat.le_of_ble_eq_true rfl) (by decide) rfl rfl (t_X12_join ⟨congrArg Prod.fst (a_row278 g51.2), (na_row278 g51.2)⟩ h54) ?_
          exact t_X4_compare_171 ih _ _ _ _ _ _ _  h
set_option maxRecDepth 20000 in
set_option maxHeartbeats 4000000 in
theorem t_X4_compare {a1 : Int64} {a3 : Int64} {a5 : Int32} {σ : jM} {r : Unit × jM}  (h : f_X4_compare a1 a3 a5 σ = some r) : J mi_X4_compare 3 0 0 (jqV r) 0 [(0, .ref 264), (1, .long a1), (3, .long a3), (5, .int a5)] [] (ms σ) := by
  unfold f_X4_compare at h
  refine J_lload_n 1 dX4_compare_0 rfl ?_
  refine J_lload_n 2 dX4_compare_1 rfl ?_
  refine J_lxor dX4_compare_2 ?_
  obtain ⟨r55, σ56, h57, h⟩ := bd_inv h
  refine M_callNI (d' := 2) (As := [.long (a1 ^^^ a3)]) (st := []) cn_X4_126 dX4_compare_3 rfl (Nat.le_of_ble_eq_true rfl) (Nat.le_of_ble_eq_true rfl) (by decide) rfl rfl (t_X12_leastOf  h57) ?_
  refine J_istore (i := 6) (ls' := [(6, .int r55), (0, .ref 264), (1, .long a1), (3, .long a3), (5, .int a5)]) dX4_compare_6 (by decide) rfl ?_
  refine J_iload 0 dX4_compare_8 rfl ?_
  refine J_iconst (v := (-1)) dX4_compare_10 (by decide) ?_
  refine J_icmp_ne (tgt := 15) dX4_compare_11 (by decide) (fun c58 => ?_) (fun c58 => ?_)
  · have h := (if_neg c58).symm.trans h
    refine J_iload 0 dX4_compare_15 rfl ?_
    refine J_bipush (v := 6) dX4_compare_17 (by decide) ?_
    refine J_idiv dX4_compare_19 (by decide) ?_
    refine J_istore (i := 7) (ls' := [(7, .int (r55 / 6)), (6, .int r55), (0, .ref 264), (1, .long a1), (3, .long a3), (5, .int a5)]) dX4_compare_20 (by decide) rfl ?_
    refine J_iload 0 dX4_compare_22 rfl ?_
    refine J_bipush (v := 6) dX4_compare_24 (by decide) ?_
    refine J_imul dX4_compare_26 ?_
    refine J_istore (i := 8) (ls' := [(8, .int ((r55 / 6) * 6)), (7, .int (r55 / 6)), (6, .int r55), (0, .ref 264), (1, .long a1), (3, .long a3), (5, .int a5)]) dX4_compare_27 (by decide) rfl ?_
    refine J_lload_n 4 dX4_compare_29 rfl ?_
    refine J_lload_n 5 dX4_compare_30 rfl ?_
    refine J_lxor dX4_compare_31 ?_
    refine J_iload 0 dX4_compare_32 rfl ?_
    refine J_lushr dX4_compare_34 ?_
    refine J_ldc2 dX4_compare_35 ct_X4_129 ?_
    refine J_lcmp dX4_compare_38 ?_
    refine J_if_lt (tgt := 43) dX4_compare_39 (by decide) (fun c59 => ?_) (fun c59 => ?_)
    · have h := (if_pos c59).symm.trans h
      refine J_lload_n 4 dX4_compare_43 rfl ?_
      refine J_iload 0 dX4_compare_44 rfl ?_
      obtain ⟨r60, σ61, h62, h⟩ := bd_inv h
      refine M_callSI (d' := 1) (As := [.long a1, .int ((r55 / 6) * 6)]) (st := []) cs_X4_131 dX4_compare_46 rfl (Nat.le_of_ble_eq_true rfl) (Nat.le_of_ble_eq_true rfl) (by decide) rfl rfl (t_X4_signIn  h62) ?_
      refine J_istore (i := 9) (ls' := [(9, .int r60), (8, .int ((r55 / 6) * 6)), (7, .int (r55 / 6)), (6, .int r55), (0, .ref 264), (1, .long a1), (3, .long a3), (5, .int a5)]) dX4_compare_49 (by decide) rfl ?_
      refine J_lload_n 6 dX4_compare_51 rfl ?_
      refine J_iload 1 dX4_compare_52 rfl ?_
      obtain ⟨r63, σ64, h65, h⟩ := bd_inv h
      refine M_callSI (d' := 1) (As := [.long a3, .int ((r55 / 6) * 6)]) (st := []) cs_X4_131 dX4_compare_54 rfl (Nat.le_of_ble_eq_true rfl) (Nat.le_of_ble_eq_true rfl) (by decide) rfl rfl (t_X4_signIn  h65) ?_
      refine J_istore (i := 10) (ls' := [(10, .int r63), (9, .int r60), (8, .int ((r55 / 6) * 6)), (7, .int (r55 / 6)), (6, .int r55), (0, .ref 264), (1, .long a1), (3, .long a3), (5, .int a5)]) dX4_compare_57 (by decide) rfl ?_
      refine J_iconst (v := 0) dX4_compare_59 (by decide) ?_
      refine J_istore (i := 11) (ls' := [(11, .int 0), (10, .int r63), (9, .int r60), (8, .int ((r55 / 6) * 6)), (7, .int (r55 / 6)), (6, .int r55), (0, .ref 264), (1, .long a1), (3, .long a3), (5, .int a5)]) dX4_compare_60 (by decide) rfl ?_
      refine J_pick [6, 9, 4, 2, 1, 0] rfl ?_
      exact t_X4_compare_62  _ _ _ _ _ _ _ _  h
    · have h := (if_neg c59).symm.trans h
      exact J_ret (v := none) rfl ⟨dX4_compare_42, rfl⟩ (jqV_mk h)
  · have h := (if_pos c58).symm.trans h
    exact J_ret (v := none) rfl ⟨dX4_compare_14, rfl⟩ (jqV_mk h)
theorem dX5_stand_0 : decode cX5_stand 0 = .ok (.aload_n 0, 1) := by decide +kernel
theorem dX5_stand_1 : decode cX5_stand 1 = .ok (.getfield 36, 3) := by decide +kernel
theorem dX5_stand_4 : decode cX5_stand 4 = .ok (.lconst 0, 1) := by decide +kernel
theorem dX5_stand_5 : decode cX5_stand 5 = .ok (.invokestatic 53, 3) := by decide +kernel
theorem dX5_stand_8 : decode cX5_stand 8 = .ok (.iconst 0, 1) := by decide +kernel
theorem dX5_stand_9 : decode cX5_stand 9 = .ok (.istore_n 3, 1) := by decide +kernel
theorem dX5_stand_10 : decode cX5_stand 10 = .ok (.iload_n 3, 1) := by decide +kernel
theorem dX5_stand_11 : decode cX5_stand 11 = .ok (.aload_n 0, 1) := by decide +kernel
theorem dX5_stand_12 : decode cX5_stand 12 = .ok (.getfield 40, 3) := by decide +kernel
theorem dX5_stand_15 : decode cX5_stand 15 = .ok (.if_icmp .ge 51, 3) := by decide +kernel
theorem dX5_stand_18 : decode cX5_stand 18 = .ok (.aload_n 0, 1) := by decide +kernel
theorem dX5_stand_19 : decode cX5_stand 19 = .ok (.getfield 30, 3) := by decide +kernel
theorem dX5_stand_22 : decode cX5_stand 22 = .ok (.aload_n 0, 1) := by decide +kernel
theorem dX5_stand_23 : decode cX5_stand 23 = .ok (.getfield 21, 3) := by decide +kernel
theorem dX5_stand_26 : decode cX5_stand 26 = .ok (.iload_n 3, 1) := by decide +kernel
theorem dX5_stand_27 : decode cX5_stand 27 = .ok (.iaload, 1) := by decide +kernel
theorem dX5_stand_28 : decode cX5_stand 28 = .ok (.aload_n 0, 1) := by decide +kernel
theorem dX5_stand_29 : decode cX5_stand 29 = .ok (.getfield 24, 3) := by decide +kernel
theorem dX5_stand_32 : decode cX5_stand 32 = .ok (.iload_n 3, 1) := by decide +kernel
theorem dX5_stand_33 : decode cX5_stand 33 = .ok (.iaload, 1) := by decide +kernel
theorem dX5_stand_34 : decode cX5_stand 34 = .ok (.invokestatic 59, 3) := by decide +kernel
theorem dX5_stand_37 : decode cX5_stand 37 = .ok (.iconst 0, 1) := by decide +kernel
theorem dX5_stand_38 : decode cX5_stand 38 = .ok (.iastore, 1) := by decide +kernel
theorem dX5_stand_39 : decode cX5_stand 39 = .ok (.aload_n 0, 1) := by decide +kernel
theorem dX5_stand_40 : decode cX5_stand 40 = .ok (.getfield 33, 3) := by decide +kernel
theorem dX5_stand_43 : decode cX5_stand 43 = .ok (.aload_n 0, 1) := by decide +kernel
theorem dX5_stand_44 : decode cX5_stand 44 = .ok (.getfield 21, 3) := by decide +kernel
theorem dX5_stand_47 : decode cX5_stand 47 = .ok (.iload_n 3, 1) := by decide +kernel
theorem dX5_stand_48 : decode cX5_stand 48 = .ok (.iaload, 1) := by decide +kernel
theorem dX5_stand_49 : decode cX5_stand 49 = .ok (.aload_n 0, 1) := by decide +kernel
theorem dX5_stand_50 : decode cX5_stand 50 = .ok (.getfield 24, 3) := by decide +kernel
theorem dX5_stand_53 : decode cX5_stand 53 = .ok (.iload_n 3, 1) := by decide +kernel
theorem dX5_stand_54 : decode cX5_stand 54 = .ok (.iaload, 1) := by decide +kernel
theorem dX5_stand_55 : decode cX5_stand 55 = .ok (.invokestatic 59, 3) := by decide +kernel
theorem dX5_stand_58 : decode cX5_stand 58 = .ok (.iconst 0, 1) := by decide +kernel
theorem dX5_stand_59 : decode cX5_stand 59 = .ok (.iastore, 1) := by decide +kernel
theorem dX5_stand_60 : decode cX5_stand 60 = .ok (.iinc 3 1, 3) := by decide +kernel
theorem dX5_stand_63 : decode cX5_stand 63 = .ok (.goto (-53), 3) := by decide +kernel
theorem dX5_stand_66 : decode cX5_stand 66 = .ok (.aload_n 0, 1) := by decide +kernel
theorem dX5_stand_67 : decode cX5_stand 67 = .ok (.getfield 40, 3) := by decide +kernel
theorem dX5_stand_70 : decode cX5_stand 70 = .ok (.iconst 1, 1) := by decide +kernel
theorem dX5_stand_71 : decode cX5_stand 71 = .ok (.isub, 1) := by decide +kernel
theorem dX5_stand_72 : decode cX5_stand 72 = .ok (.istore_n 3, 1) := by decide +kernel
theorem dX5_stand_73 : decode cX5_stand 73 = .ok (.iload_n 3, 1) := by decide +kernel
theorem dX5_stand_74 : decode cX5_stand 74 = .ok (.ifCond .lt 50, 3) := by decide +kernel
theorem dX5_stand_77 : decode cX5_stand 77 = .ok (.aload_n 0, 1) := by decide +kernel
theorem dX5_stand_78 : decode cX5_stand 78 = .ok (.getfield 15, 3) := by decide +kernel
theorem dX5_stand_81 : decode cX5_stand 81 = .ok (.iload_n 3, 1) := by decide +kernel
theorem dX5_stand_82 : decode cX5_stand 82 = .ok (.iaload, 1) := by decide +kernel
theorem dX5_stand_83 : decode cX5_stand 83 = .ok (.iload_n 1, 1) := by decide +kernel
theorem dX5_stand_84 : decode cX5_stand 84 = .ok (.if_icmp .gt 34, 3) := by decide +kernel
theorem dX5_stand_87 : decode cX5_stand 87 = .ok (.aload_n 0, 1) := by decide +kernel
theorem dX5_stand_88 : decode cX5_stand 88 = .ok (.aload_n 0, 1) := by decide +kernel
theorem dX5_stand_89 : decode cX5_stand 89 = .ok (.getfield 21, 3) := by decide +kernel
theorem dX5_stand_92 : decode cX5_stand 92 = .ok (.iload_n 3, 1) := by decide +kernel
theorem dX5_stand_93 : decode cX5_stand 93 = .ok (.iaload, 1) := by decide +kernel
theorem dX5_stand_94 : decode cX5_stand 94 = .ok (.aload_n 0, 1) := by decide +kernel
theorem dX5_stand_95 : decode cX5_stand 95 = .ok (.getfield 24, 3) := by decide +kernel
theorem dX5_stand_98 : decode cX5_stand 98 = .ok (.iload_n 3, 1) := by decide +kernel
theorem dX5_stand_99 : decode cX5_stand 99 = .ok (.iaload, 1) := by decide +kernel
theorem dX5_stand_100 : decode cX5_stand 100 = .ok (.invokestatic 59, 3) := by decide +kernel
theorem dX5_stand_103 : decode cX5_stand 103 = .ok (.aload_n 0, 1) := by decide +kernel
theorem dX5_stand_104 : decode cX5_stand 104 = .ok (.getfield 18, 3) := by decide +kernel
theorem dX5_stand_107 : decode cX5_stand 107 = .ok (.iload_n 3, 1) := by decide +kernel
theorem dX5_stand_108 : decode cX5_stand 108 = .ok (.iaload, 1) := by decide +kernel
theorem dX5_stand_109 : decode cX5_stand 109 = .ok (.aload_n 0, 1) := by decide +kernel
theorem dX5_stand_110 : decode cX5_stand 110 = .ok (.getfield 27, 3) := by decide +kernel
theorem dX5_stand_113 : decode cX5_stand 113 = .ok (.iload_n 3, 1) := by decide +kernel
theorem dX5_stand_114 : decode cX5_stand 114 = .ok (.iaload, 1) := by decide +kernel
theorem dX5_stand_115 : decode cX5_stand 115 = .ok (.invokevirtual 62, 3) := by decide +kernel
theorem dX5_stand_118 : decode cX5_stand 118 = .ok (.iinc 3 (-1), 3) := by decide +kernel
theorem dX5_stand_121 : decode cX5_stand 121 = .ok (.goto (-48), 3) := by decide +kernel
theorem dX5_stand_124 : decode cX5_stand 124 = .ok (.iconst 0, 1) := by decide +kernel
theorem dX5_stand_125 : decode cX5_stand 125 = .ok (.istore_n 3, 1) := by decide +kernel
theorem dX5_stand_126 : decode cX5_stand 126 = .ok (.iload_n 3, 1) := by decide +kernel
theorem dX5_stand_127 : decode cX5_stand 127 = .ok (.aload_n 0, 1) := by decide +kernel
theorem dX5_stand_128 : decode cX5_stand 128 = .ok (.getfield 40, 3) := by decide +kernel
theorem dX5_stand_131 : decode cX5_stand 131 = .ok (.if_icmp .ge 51, 3) := by decide +kernel
theorem dX5_stand_134 : decode cX5_stand 134 = .ok (.aload_n 0, 1) := by decide +kernel
theorem dX5_stand_135 : decode cX5_stand 135 = .ok (.getfield 33, 3) := by decide +kernel
theorem dX5_stand_138 : decode cX5_stand 138 = .ok (.aload_n 0, 1) := by decide +kernel
theorem dX5_stand_139 : decode cX5_stand 139 = .ok (.getfield 21, 3) := by decide +kernel
theorem dX5_stand_142 : decode cX5_stand 142 = .ok (.iload_n 3, 1) := by decide +kernel
theorem dX5_stand_143 : decode cX5_stand 143 = .ok (.iaload, 1) := by decide +kernel
theorem dX5_stand_144 : decode cX5_stand 144 = .ok (.aload_n 0, 1) := by decide +kernel
theorem dX5_stand_145 : decode cX5_stand 145 = .ok (.getfield 24, 3) := by decide +kernel
theorem dX5_stand_148 : decode cX5_stand 148 = .ok (.iload_n 3, 1) := by decide +kernel
theorem dX5_stand_149 : decode cX5_stand 149 = .ok (.iaload, 1) := by decide +kernel
theorem dX5_stand_150 : decode cX5_stand 150 = .ok (.invokestatic 59, 3) := by decide +kernel
theorem dX5_stand_153 : decode cX5_stand 153 = .ok (.iaload, 1) := by decide +kernel
theorem dX5_stand_154 : decode cX5_stand 154 = .ok (.ifCond .le 22, 3) := by decide +kernel
theorem dX5_stand_157 : decode cX5_stand 157 = .ok (.aload_n 0, 1) := by decide +kernel
theorem dX5_stand_158 : decode cX5_stand 158 = .ok (.getfield 36, 3) := by decide +kernel
theorem dX5_stand_161 : decode cX5_stand 161 = .ok (.aload_n 0, 1) := by decide +kernel
theorem dX5_stand_162 : decode cX5_stand 162 = .ok (.getfield 21, 3) := by decide +kernel
theorem dX5_stand_165 : decode cX5_stand 165 = .ok (.iload_n 3, 1) := by decide +kernel
theorem dX5_stand_166 : decode cX5_stand 166 = .ok (.iaload, 1) := by decide +kernel
theorem dX5_stand_167 : decode cX5_stand 167 = .ok (.aload_n 0, 1) := by decide +kernel
theorem dX5_stand_168 : decode cX5_stand 168 = .ok (.getfield 24, 3) := by decide +kernel
theorem dX5_stand_171 : decode cX5_stand 171 = .ok (.iload_n 3, 1) := by decide +kernel
theorem dX5_stand_172 : decode cX5_stand 172 = .ok (.iaload, 1) := by decide +kernel
theorem dX5_stand_173 : decode cX5_stand 173 = .ok (.invokestatic 66, 3) := by decide +kernel
theorem dX5_stand_176 : decode cX5_stand 176 = .ok (.iinc 3 1, 3) := by decide +kernel
theorem dX5_stand_179 : decode cX5_stand 179 = .ok (.goto (-53), 3) := by decide +kernel
theorem dX5_stand_182 : decode cX5_stand 182 = .ok (.iconst 0, 1) := by decide +kernel
theorem dX5_stand_183 : decode cX5_stand 183 = .ok (.istore_n 3, 1) := by decide +kernel
theorem dX5_stand_184 : decode cX5_stand 184 = .ok (.iload_n 3, 1) := by decide +kernel
theorem dX5_stand_185 : decode cX5_stand 185 = .ok (.bipush 40, 2) := by decide +kernel
theorem dX5_stand_187 : decode cX5_stand 187 = .ok (.if_icmp .ge 23, 3) := by decide +kernel
theorem dX5_stand_190 : decode cX5_stand 190 = .ok (.aload_n 2, 1) := by decide +kernel
theorem dX5_stand_191 : decode cX5_stand 191 = .ok (.iload_n 3, 1) := by decide +kernel
theorem dX5_stand_192 : decode cX5_stand 192 = .ok (.aload_n 0, 1) := by decide +kernel
theorem dX5_stand_193 : decode cX5_stand 193 = .ok (.getfield 36, 3) := by decide +kernel
theorem dX5_stand_196 : decode cX5_stand 196 = .ok (.iload_n 3, 1) := by decide +kernel
theorem dX5_stand_197 : decode cX5_stand 197 = .ok (.invokestatic 70, 3) := by decide +kernel
theorem dX5_stand_200 : decode cX5_stand 200 = .ok (.invokestatic 74, 3) := by decide +kernel
theorem dX5_stand_203 : decode cX5_stand 203 = .ok (.iastore, 1) := by decide +kernel
theorem dX5_stand_204 : decode cX5_stand 204 = .ok (.iinc 3 1, 3) := by decide +kernel
theorem dX5_stand_207 : decode cX5_stand 207 = .ok (.goto (-23), 3) := by decide +kernel
theorem dX5_stand_210 : decode cX5_stand 210 = .ok (.return_, 1) := by decide +kernel
noncomputable def s_X5_stand_184  (rec184 : Nat → Int32 → jM → Option (Unit × jM)) (l2 : Nat) (l3 : Int32) (σ : jM) : Option (Unit × jM) :=
  (if 40 ≤ l3 then some ((), σ) else bd (f_X12_reachOf 17 l3 σ) (fun r36 σ37 => bd (f_X12_leastOf r36 σ37) (fun r39 σ40 => gd (inb l3 (shf l2).2) (rec184 l2 (l3 + 1) (wI σ40 l2 (Int32.toNatClampNeg l3) r39)))))
noncomputable def f_X5_stand_184  (n : Nat) : Nat → Int32 → jM → Option (Unit × jM) := Nat.rec (motive := fun _ => Nat → Int32 → jM → Option (Unit × jM)) (fun _ _ _ => none) (fun _ q => s_X5_stand_184  q) n
noncomputable def f_X5_stand_176 (rec126 : Nat → Int32 → jM → Option (Unit × jM)) (l2 : Nat) (l3 : Int32) (σ : jM) : Option (Unit × jM) :=
  rec126 l2 (l3 + 1) σ
noncomputable def s_X5_stand_126  (rec126 : Nat → Int32 → jM → Option (Unit × jM)) (l2 : Nat) (l3 : Int32) (σ : jM) : Option (Unit × jM) :=
  (if (rI σ 8 1) ≤ l3 then f_X5_stand_184  Fu l2 0 σ else gd (inb l3 200) (gd (inb l3 200) (bd (f_X12_pairOf (rI σ 12 (Int32.toNatClampNeg l3)) (rI σ 13 (Int32.toNatClampNeg l3)) σ) (fun r54 σ55 => gd (inb r54 780) ((if (rI σ55 16 (Int32.toNatClampNeg r54)) ≤ 0 then f_X5_stand_176 rec126 l2 l3 σ55 else gd (inb l3 200) (gd (inb l3 200) (bd (f_X12_join 17 (rI σ55 12 (Int32.toNatClampNeg l3)) (rI σ55 13 (Int32.toNatClampNeg l3)) σ55) (fun _ σ62 => f_X5_stand_176 rec126 l2 l3 σ62)))))))))
noncomputable def f_X5_stand_126  (n : Nat) : Nat → Int32 → jM → Option (Unit × jM) := Nat.rec (motive := fun _ => Nat → Int32 → jM → Option (Unit × jM)) (fun _ _ _ => none) (fun _ q => s_X5_stand_126  q) n
noncomputable def f_X5_stand_118 (rec73 : Int32 → Nat → Int32 → jM → Option (Unit × jM)) (l1 : Int32) (l2 : Nat) (l3 : Int32) (σ : jM) : Option (Unit × jM) :=
  rec73 l1 l2 (l3 + (-1)) σ
noncomputable def s_X5_stand_73  (rec73 : Int32 → Nat → Int32 → jM → Option (Unit × jM)) (l1 : Int32) (l2 : Nat) (l3 : Int32) (σ : jM) : Option (Unit × jM) :=
  (if l3 < 0 then f_X5_stand_126  Fu l2 0 σ else gd (inb l3 200) ((if l1 < (rI σ 10 (Int32.toNatClampNeg l3)) then f_X5_stand_118 rec73 l1 l2 l3 σ else gd (inb l3 200) (gd (inb l3 200) (bd (f_X12_pairOf (rI σ 12 (Int32.toNatClampNeg l3)) (rI σ 13 (Int32.toNatClampNeg l3)) σ) (fun r82 σ83 => gd (inb l3 200) (gd (inb l3 200) (bd (f_X5_weigh r82 (rI σ83 11 (Int32.toNatClampNeg l3)) (rI σ83 14 (Int32.toNatClampNeg l3)) σ83) (fun _ σ88 => f_X5_stand_118 rec73 l1 l2 l3 σ88)))))))))
noncomputable def f_X5_stand_73  (n : Nat) : Int32 → Nat → Int32 → jM → Option (Unit × jM) := Nat.rec (motive := fun _ => Int32 → Nat → Int32 → jM → Option (Unit × jM)) (fun _ _ _ _ => none) (fun _ q => s_X5_stand_73  q) n
noncomputable def s_X5_stand_10  (rec10 : Int32 → Nat → Int32 → jM → Option (Unit × jM)) (l1 : Int32) (l2 : Nat) (l3 : Int32) (σ : jM) : Option (Unit × jM) :=
  (if (rI σ 8 1) ≤ l3 then f_X5_stand_73  Fu l1 l2 ((rI σ 8 1) - 1) σ else gd (inb l3 200) (gd (inb l3 200) (bd (f_X12_pairOf (rI σ 12 (Int32.toNatClampNeg l3)) (rI σ 13 (Int32.toNatClampNeg l3)) σ) (fun r106 σ107 => gd (inb r106 780) (gd (inb l3 200) (gd (inb l3 200) (bd (f_X12_pairOf (rI (wI σ107 15 (Int32.toNatClampNeg r106) 0) 12 (Int32.toNatClampNeg l3)) (rI (wI σ107 15 (Int32.toNatClampNeg r106) 0) 13 (Int32.toNatClampNeg l3)) (wI σ107 15 (Int32.toNatClampNeg r106) 0)) (fun r112 σ113 => gd (inb r112 780) (rec10 l1 l2 (l3 + 1) (wI σ113 16 (Int32.toNatClampNeg r112) 0))))))))))
noncomputable def f_X5_stand_10  (n : Nat) : Int32 → Nat → Int32 → jM → Option (Unit × jM) := Nat.rec (motive := fun _ => Int32 → Nat → Int32 → jM → Option (Unit × jM)) (fun _ _ _ _ => none) (fun _ q => s_X5_stand_10  q) n
noncomputable def f_X5_stand (a1 : Int32) (a2 : Nat) (σ : jM) : Option (Unit × jM) :=
  bd (f_J7_fill_d0a16 17 0 σ) (fun _ σ130 => f_X5_stand_10  Fu a1 a2 0 σ130)
set_option maxRecDepth 20000 in
set_option maxHeartbeats 4000000 in
theorem t_X5_stand_184  : ∀ (n : Nat) (l2 : Nat) (l3 : Int32) (σ : jM) (r : Unit × jM), (shf l2).1 = 14 ∧ l2 < 376 → f_X5_stand_184  n l2 l3 σ = some r → J mi_X5_stand 4 0 0 (jqV r) 184 [(0, .ref 8), (2, .ref l2), (3, .int l3)] [] (ms σ) := by
  intro n
  induction n with
  | zero =>
    intro l2 l3 σ r hl2 h
    have h : (none : Option (Unit × jM)) = some r := h
    cases h
  | succ n ih =>
    intro l2 l3 σ r hl2 h
    have h : s_X5_stand_184  (f_X5_stand_184  n) l2 l3 σ = some r := h
    unfold s_X5_stand_184 at h
    refine J_iload_n 2 dX5_stand_184 rfl ?_
    refine J_bipush (v := 40) dX5_stand_185 (by decide) ?_
    refine J_icmp_ge (tgt := 210) dX5_stand_187 (by decide) (fun c43 => ?_) (fun c43 => ?_)
    · have h := (if_pos c43).symm.trans h
      exact J_ret (v := none) rfl ⟨dX5_stand_210, rfl⟩ (jqV_mk h)
    · have h := (if_neg c43).symm.trans h
      refine J_aload_n 1 dX5_stand_190 rfl ?_
      refine J_iload_n 2 dX5_stand_191 rfl ?_
      refine J_aload_n 0 dX5_stand_192 rfl ?_
      refine M_getR gf_X5_36_4 dX5_stand_193 (g_8_9 _) k_8 n_8 ?_
      refine J_iload_n 2 dX5_stand_196 rfl ?_
      obtain ⟨r44, σ45, h46, h⟩ := bd_inv h
      refine M_callNL (d' := 3) (As := [.ref 17, .int l3]) (st := [.int l3, .ref l2]) cn_X5_70 dX5_stand_197 rfl (Nat.le_of_ble_eq_true rfl) (Nat.le_of_ble_eq_true rfl) (by decide) rfl rfl (t_X12_reachOf ⟨congrArg Prod.fst a_17, n_17⟩ h46) ?_
      obtain ⟨r47, σ48, h49, h⟩ := bd_inv h
      refine M_callNI (d' := 2) (As := [.long r44]) (st := [.int l3, .ref l2]) cn_X5_74 dX5_stand_200 rfl (Nat.le_of_ble_eq_true rfl) (Nat.le_of_ble_eq_true rfl) (by decide) rfl rfl (t_X12_leastOf  h49) ?_
      obtain ⟨g50, h⟩ := gd_inv h
      refine M_iast dX5_stand_203 (shf_fst hl2.1) hl2.2 g50 ?_
      refine J_iinc (v := (l3 + 1)) (ls' := [(3, .int (l3 + 1)), (0, .ref 8), (2, .ref l2)]) 2 dX5_stand_204 rfl rfl (by decide) rfl ?_
      refine J_goto (tgt := 184) dX5_stand_207 (by decide) ?_
      refine J_pick [1, 2, 0] rfl ?_
      exact ih _ _ _ _ ⟨congrArg Prod.fst (shf_fst hl2.1), hl2.2⟩ h
set_option maxRecDepth 20000 in
set_option maxHeartbeats 4000000 in
theorem t_X5_stand_176 {rec126 : Nat → Int32 → jM → Option (Unit × jM)} (hrec126 : ∀ (l2 : Nat) (l3 : Int32) (σ : jM) (r : Unit × jM), (shf l2).1 = 14 ∧ l2 < 376 → rec126 l2 l3 σ = some r → J mi_X5_stand 4 0 0 (jqV r) 126 [(0, .ref 8), (2, .ref l2), (3, .int l3)] [] (ms σ)) (l2 : Nat) (l3 : Int32) (σ : jM) (r : Unit × jM) (hl2 : (shf l2).1 = 14 ∧ l2 < 376) (h : f_X5_stand_176 rec126 l2 l3 σ = some r) : J mi_X5_stand 4 0 0 (jqV r) 176 [(0, .ref 8), (2, .ref l2), (3, .int l3)] [] (ms σ) := by
  unfold f_X5_stand_176 at h
  refine J_iinc (v := (l3 + 1)) (ls' := [(3, .int (l3 + 1)), (0, .ref 8), (2, .ref l2)]) 2 dX5_stand_176 rfl rfl (by decide) rfl ?_
  refine J_goto (tgt := 126) dX5_stand_179 (by decide) ?_
  refine J_pick [1, 2, 0] rfl ?_
  exact hrec126 _ _ _ _ ⟨congrArg Prod.fst (shf_fst hl2.1), hl2.2⟩ h
set_option maxRecDepth 20000 in
set_option maxHeartbeats 4000000 in
theorem t_X5_stand_126  : ∀ (n : Nat) (l2 : Nat) (l3 : Int32) (σ : jM) (r : Unit × jM), (shf l2).1 = 14 ∧ l2 < 376 → f_X5_stand_126  n l2 l3 σ = some r → J mi_X5_stand 4 0 0 (jqV r) 126 [(0, .ref 8), (2, .ref l2), (3, .int l3)] [] (ms σ) := by
  intro n
  induction n with
  | zero =>
    intro l2 l3 σ r hl2 h
    have h : (none : Option (Unit × jM)) = some r := h
    cases h
  | succ n ih =>
    intro l2 l3 σ r hl2 h
    have h : s_X5_stand_126  (f_X5_stand_126  n) l2 l3 σ = some r := h
    unfold s_X5_stand_126 at h
    refine J_iload_n 2 dX5_stand_126 rfl ?_
    refine J_aload_n 0 dX5_stand_127 rfl ?_
    refine M_getI gf_X5_40_4 dX5_stand_128 k_8 n_8 ?_
    refine J_icmp_ge (tgt := 182) dX5_stand_131 (by decide) (fun c64 => ?_) (fun c64 => ?_)
    · have h := (if_pos c64).symm.trans h
      refine J_iconst (v := 0) dX5_stand_182 (by decide) ?_
      refine J_istore_n (i := 3) (ls' := [(3, .int 0), (0, .ref 8), (2, .ref l2)]) dX5_stand_183 rfl (by decide) rfl ?_
      refine J_pick [1, 2, 0] rfl ?_
      exact t_X5_stand_184  _ _ _ _ _ ⟨congrArg Prod.fst (shf_fst hl2.1), hl2.2⟩ h
    · have h := (if_neg c64).symm.trans h
      refine J_aload_n 0 dX5_stand_134 rfl ?_
      refine M_getR gf_X5_33_4 dX5_stand_135 (g_8_8 _) k_8 n_8 ?_
      refine J_aload_n 0 dX5_stand_138 rfl ?_
      refine M_getR gf_X5_21_4 dX5_stand_139 (g_8_4 _) k_8 n_8 ?_
      refine J_iload_n 2 dX5_stand_142 rfl ?_
      obtain ⟨g65, h⟩ := gd_inv h
      refine M_iald dX5_stand_143 a_12 n_12 g65 ?_
      refine J_aload_n 0 dX5_stand_144 rfl ?_
      refine M_getR gf_X5_24_4 dX5_stand_145 (g_8_5 _) k_8 n_8 ?_
      refine J_iload_n 2 dX5_stand_148 rfl ?_
      obtain ⟨g66, h⟩ := gd_inv h
      refine M_iald dX5_stand_149 a_13 n_13 g66 ?_
      obtain ⟨r67, σ68, h69, h⟩ := bd_inv h
      refine M_callNI (d' := 2) (As := [.int (rI σ 12 (Int32.toNatClampNeg l3)), .int (rI σ 13 (Int32.toNatClampNeg l3))]) (st := [.ref 16]) cn_X5_59 dX5_stand_150 rfl (Nat.le_of_ble_eq_true rfl) (Nat.le_of_ble_eq_true rfl) (by decide) rfl rfl (t_X12_pairOf  h69) ?_
      obtain ⟨g70, h⟩ := gd_inv h
      refine M_iald dX5_stand_153 a_16 n_16 g70 ?_
      refine J_if_le (tgt := 176) dX5_stand_154 (by decide) (fun c71 => ?_) (fun c71 => ?_)
      · have h := (if_pos c71).symm.trans h
        exact t_X5_stand_176 ih _ _ _ _ ⟨congrArg Prod.fst (shf_fst hl2.1), hl2.2⟩ h
      · have h := (if_neg c71).symm.trans h
        refine J_aload_n 0 dX5_stand_157 rfl ?_
        refine M_getR gf_X5_36_4 dX5_stand_158 (g_8_9 _) k_8 n_8 ?_
        refine J_aload_n 0 dX5_stand_161 rfl ?_
        refine M_getR gf_X5_21_4 dX5_stand_162 (g_8_4 _) k_8 n_8 ?_
        refine J_iload_n 2 dX5_stand_165 rfl ?_
        obtain ⟨g72, h⟩ := gd_inv h
        refine M_iald dX5_stand_166 a_12 n_12 g72 ?_
        refine J_aload_n 0 dX5_stand_167 rfl ?_
        refine M_getR gf_X5_24_4 dX5_stand_168 (g_8_5 _) k_8 n_8 ?_
        refine J_iload_n 2 dX5_stand_171 rfl ?_
        obtain ⟨g73, h⟩ := gd_inv h
        refine M_iald dX5_stand_172 a_13 n_13 g73 ?_
        obtain ⟨_, σ75, h76, h⟩ := bd_inv h
        refine M_callNV (d' := 1) (As := [.ref 17, .int (rI σ68 12 (Int32.toNatClampNeg l3)), .int (rI σ68 13 (Int32.toNatClampNeg l3))]) (st := []) cn_X5_66 dX5_stand_173 rfl (Nat.le_of_ble_eq_true rfl) (Nat.le_of_ble_eq_true rfl) (by decide) rfl rfl (t_X12_join ⟨congrArg Prod.fst a_17, n_17⟩ h76) ?_
        exact t_X5_stand_176 ih _ _ _ _ ⟨congrArg Prod.fst (shf_fst hl2.1), hl2.2⟩ h
set_option maxRecDepth 20000 in
set_option maxHeartbeats 4000000 in
theorem t_X5_stand_118 {rec73 : Int32 → Nat → Int32 → jM → Option (Unit × jM)} (hrec73 : ∀ (l1 : Int32) (l2 : Nat) (l3 : Int32) (σ : jM) (r : Unit × jM), (shf l2).1 = 14 ∧ l2 < 376 → rec73 l1 l2 l3 σ = some r → J mi_X5_stand 4 0 0 (jqV r) 73 [(0, .ref 8), (1, .int l1), (2, .ref l2), (3, .int l3)] [] (ms σ)) (l1 : Int32) (l2 : Nat) (l3 : Int32) (σ : jM) (r : Unit × jM) (hl2 : (shf l2).1 = 14 ∧ l2 < 376) (h : f_X5_stand_118 rec73 l1 l2 l3 σ = some r) : J mi_X5_stand 4 0 0 (jqV r) 118 [(0, .ref 8), (1, .int l1), (2, .ref l2), (3, .int l3)] [] (ms σ) := by
  unfold f_X5_stand_118 at h
  refine J_iinc (v := (l3 + (-1))) (ls' := [(3, .int (l3 + (-1))), (0, .ref 8), (1, .int l1), (2, .ref l2)]) 3 dX5_stand_118 rfl rfl (by decide) rfl ?_
  refine J_goto (tgt := 73) dX5_stand_121 (by decide) ?_
  refine J_pick [1, 2, 3, 0] rfl ?_
  exact hrec73 _ _ _ _ _ ⟨congrArg Prod.fst (shf_fst hl2.1), hl2.2⟩ h
set_option maxRecDepth 20000 in
set_option maxHeartbeats 4000000 in
theorem t_X5_stand_73  : ∀ (n : Nat) (l1 : Int32) (l2 : Nat) (l3 : Int32) (σ : jM) (r : Unit × jM), (shf l2).1 = 14 ∧ l2 < 376 → f_X5_stand_73  n l1 l2 l3 σ = some r → J mi_X5_stand 4 0 0 (jqV r) 73 [(0, .ref 8), (1, .int l1), (2, .ref l2), (3, .int l3)] [] (ms σ) := by
  intro n
  induction n with
  | zero =>
    intro l1 l2 l3 σ r hl2 h
    have h : (none : Option (Unit × jM)) = some r := h
    cases h
  | succ n ih =>
    intro l1 l2 l3 σ r hl2 h
    have h : s_X5_stand_73  (f_X5_stand_73  n) l1 l2 l3 σ = some r := h
    unfold s_X5_stand_73 at h
    refine J_iload_n 3 dX5_stand_73 rfl ?_
    refine J_if_lt (tgt := 124) dX5_stand_74 (by decide) (fun c90 => ?_) (fun c90 => ?_)
    · have h := (if_pos c90).symm.trans h
      refine J_iconst (v := 0) dX5_stand_124 (by decide) ?_
      refine J_istore_n (i := 3) (ls' := [(3, .int 0), (0, .ref 8), (1, .int l1), (2, .ref l2)]) dX5_stand_125 rfl (by decide) rfl ?_
      refine J_pick [1, 3, 0] rfl ?_
      exact t_X5_stand_126  _ _ _ _ _ ⟨congrArg Prod.fst (shf_fst hl2.1), hl2.2⟩ h
    · have h := (if_neg c90).symm.trans h
      refine J_aload_n 0 dX5_stand_77 rfl ?_
      refine M_getR gf_X5_15_4 dX5_stand_78 (g_8_2 _) k_8 n_8 ?_
      refine J_iload_n 3 dX5_stand_81 rfl ?_
      obtain ⟨g91, h⟩ := gd_inv h
      refine M_iald dX5_stand_82 a_10 n_10 g91 ?_
      refine J_iload_n 1 dX5_stand_83 rfl ?_
      refine J_icmp_gt (tgt := 118) dX5_stand_84 (by decide) (fun c92 => ?_) (fun c92 => ?_)
      · have h := (if_pos c92).symm.trans h
        exact t_X5_stand_118 ih _ _ _ _ _ ⟨congrArg Prod.fst (shf_fst hl2.1), hl2.2⟩ h
      · have h := (if_neg c92).symm.trans h
        refine J_aload_n 0 dX5_stand_87 rfl ?_
        refine J_aload_n 0 dX5_stand_88 rfl ?_
        refine M_getR gf_X5_21_4 dX5_stand_89 (g_8_4 _) k_8 n_8 ?_
        refine J_iload_n 3 dX5_stand_92 rfl ?_
        obtain ⟨g93, h⟩ := gd_inv h
        refine M_iald dX5_stand_93 a_12 n_12 g93 ?_
        refine J_aload_n 0 dX5_stand_94 rfl ?_
        refine M_getR gf_X5_24_4 dX5_stand_95 (g_8_5 _) k_8 n_8 ?_
        refine J_iload_n 3 dX5_stand_98 rfl ?_
        obtain ⟨g94, h⟩ := gd_inv h
        refine M_iald dX5_stand_99 a_13 n_13 g94 ?_
        obtain ⟨r95, σ96, h97, h⟩ := bd_inv h
        refine M_callNI (d' := 2) (As := [.int (rI σ 12 (Int32.toNatClampNeg l3)), .int (rI σ 13 (Int32.toNatClampNeg l3))]) (st := [.ref 8]) cn_X5_59 dX5_stand_100 rfl (Nat.le_of_ble_eq_true rfl) (Nat.le_of_ble_eq_true rfl) (by decide) rfl rfl (t_X12_pairOf  h97) ?_
        refine J_aload_n 0 dX5_stand_103 rfl ?_
        refine M_getR gf_X5_18_4 dX5_stand_104 (g_8_3 _) k_8 n_8 ?_
        refine J_iload_n 3 dX5_stand_107 rfl ?_
        obtain ⟨g98, h⟩ := gd_inv h
        refine M_iald dX5_stand_108 a_11 n_11 g98 ?_
        refine J_aload_n 0 dX5_stand_109 rfl ?_
        refine M_getR gf_X5_27_4 dX5_stand_110 (g_8_6 _) k_8 n_8 ?_
        refine J_iload_n 3 dX5_stand_113 rfl ?_
        obtain ⟨g99, h⟩ := gd_inv h
        refine M_iald dX5_stand_114 a_14 n_14 g99 ?_
        obtain ⟨_, σ101, h102, h⟩ := bd_inv h
        refine M_callVV (d' := 1) (k := 8) (As := [.int r95, .int (rI σ96 11 (Int32.toNatClampNeg l3)), .int (rI σ96 14 (Int32.toNatClampNeg l3))]) (st := []) cv_X5_62 dX5_stand_115 rfl (by decide) rfl (Nat.le_of_ble_eq_true rfl) (Nat.le_of_ble_eq_true rfl) (by decide) n_8 k_8 rfl rfl (t_X5_weigh  h102) ?_
        exact t_X5_stand_118 ih _ _ _ _ _ ⟨congrArg Prod.fst (shf_fst hl2.1), hl2.2⟩ h
set_option maxRecDepth 20000 in
set_option maxHeartbeats 4000000 in
theorem t_X5_stand_10  : ∀ (n : Nat) (l1 : Int32) (l2 : Nat) (l3 : Int32) (σ : jM) (r : Unit × jM), (shf l2).1 = 14 ∧ l2 < 376 → f_X5_stand_10  n l1 l2 l3 σ = some r → J mi_X5_stand 4 0 0 (jqV r) 10 [(0, .ref 8), (1, .int l1), (2, .ref l2), (3, .int l3)] [] (ms σ) := by
  intro n
  induction n with
  | zero =>
    intro l1 l2 l3 σ r hl2 h
    have h : (none : Option (Unit × jM)) = some r := h
    cases h
  | succ n ih =>
    intro l1 l2 l3 σ r hl2 h
    have h : s_X5_stand_10  (f_X5_stand_10  n) l1 l2 l3 σ = some r := h
    unfold s_X5_stand_10 at h
    refine J_iload_n 3 dX5_stand_10 rfl ?_
    refine J_aload_n 0 dX5_stand_11 rfl ?_
    refine M_getI gf_X5_40_4 dX5_stand_12 k_8 n_8 ?_
    refine J_icmp_ge (tgt := 66) dX5_stand_15 (by decide) (fun c116 => ?_) (fun c116 => ?_)
    · have h := (if_pos c116).symm.trans h
      refine J_aload_n 0 dX5_stand_66 rfl ?_
      refine M_getI gf_X5_40_4 dX5_stand_67 k_8 n_8 ?_
      refine J_iconst (v := 1) dX5_stand_70 (by decide) ?_
      refine J_isub dX5_stand_71 ?_
      refine J_istore_n (i := 3) (ls' := [(3, .int ((rI σ 8 1) - 1)), (0, .ref 8), (1, .int l1), (2, .ref l2)]) dX5_stand_72 rfl (by decide) rfl ?_
      refine J_pick [1, 2, 3, 0] rfl ?_
      exact t_X5_stand_73  _ _ _ _ _ _ ⟨congrArg Prod.fst (shf_fst hl2.1), hl2.2⟩ h
    · have h := (if_neg c116).symm.trans h
      refine J_aload_n 0 dX5_stand_18 rfl ?_
      refine M_getR gf_X5_30_4 dX5_stand_19 (g_8_7 _) k_8 n_8 ?_
      refine J_aload_n 0 dX5_stand_22 rfl ?_
      refine M_getR gf_X5_21_4 dX5_stand_23 (g_8_4 _) k_8 n_8 ?_
      refine J_iload_n 3 dX5_stand_26 rfl ?_
      obtain ⟨g117, h⟩ := gd_inv h
      refine M_iald dX5_stand_27 a_12 n_12 g117 ?_
      refine J_aload_n 0 dX5_stand_28 rfl ?_
      refine M_getR gf_X5_24_4 dX5_stand_29 (g_8_5 _) k_8 n_8 ?_
      refine J_iload_n 3 dX5_stand_32 rfl ?_
      obtain ⟨g118, h⟩ := gd_inv h
      refine M_iald dX5_stand_33 a_13 n_13 g118 ?_
      obtain ⟨r119, σ120, h121, h⟩ := bd_inv h
      refine M_callNI (d' := 2) (As := [.int (rI σ 12 (Int32.toNatClampNeg l3)), .int (rI σ 13 (Int32.toNatClampNeg l3))]) (st := [.ref 15]) cn_X5_59 dX5_stand_34 rfl (Nat.le_of_ble_eq_true rfl) (Nat.le_of_ble_eq_true rfl) (by decide) rfl rfl (t_X12_pairOf  h121) ?_
      refine J_iconst (v := 0) dX5_stand_37 (by decide) ?_
      obtain ⟨g122, h⟩ := gd_inv h
      refine M_iast dX5_stand_38 a_15 n_15 g122 ?_
      refine J_aload_n 0 dX5_stand_39 rfl ?_
      refine M_getR gf_X5_33_4 dX5_stand_40 (g_8_8 _) k_8 n_8 ?_
      refine J_aload_n 0 dX5_stand_43 rfl ?_
      refine M_getR gf_X5_21_4 dX5_stand_44 (g_8_4 _) k_8 n_8 ?_
      refine J_iload_n 3 dX5_stand_47 rfl ?_
      obtain ⟨g123, h⟩ := gd_inv h
      refine M_iald dX5_stand_48 a_12 n_12 g123 ?_
      refine J_aload_n 0 dX5_stand_49 rfl ?_
      refine M_getR gf_X5_24_4 dX5_stand_50 (g_8_5 _) k_8 n_8 ?_
      refine J_iload_n 3 dX5_stand_53 rfl ?_
      obtain ⟨g124, h⟩ := gd_inv h
      refine M_iald dX5_stand_54 a_13 n_13 g124 ?_
      obtain ⟨r125, σ126, h127, h⟩ := bd_inv h
      refine M_callNI (d' := 2) (As := [.int (rI (wI σ120 15 (Int32.toNatClampNeg r119) 0) 12 (Int32.toNatClampNeg l3)), .int (rI (wI σ120 15 (Int32.toNatClampNeg r119) 0) 13 (Int32.toNatClampNeg l3))]) (st := [.ref 16]) cn_X5_59 dX5_stand_55 rfl (Nat.le_of_ble_eq_true rfl) (Nat.le_of_ble_eq_true rfl) (by decide) rfl rfl (t_X12_pairOf  h127) ?_
      refine J_iconst (v := 0) dX5_stand_58 (by decide) ?_
      obtain ⟨g128, h⟩ := gd_inv h
      refine M_iast dX5_stand_59 a_16 n_16 g128 ?_
      refine J_iinc (v := (l3 + 1)) (ls' := [(3, .int (l3 + 1)), (0, .ref 8), (1, .int l1), (2, .ref l2)]) 3 dX5_stand_60 rfl rfl (by decide) rfl ?_
      refine J_goto (tgt := 10) dX5_stand_63 (by decide) ?_
      refine J_pick [1, 2, 3, 0] rfl ?_
      exact ih _ _ _ _ _ ⟨congrArg Prod.fst (shf_fst hl2.1), hl2.2⟩ h
set_option maxRecDepth 20000 in
set_option maxHeartbeats 4000000 in
theorem t_X5_stand {a1 : Int32} {a2 : Nat} {σ : jM} {r : Unit × jM} (ha2 : (shf a2).1 = 14 ∧ a2 < 376) (h : f_X5_stand a1 a2 σ = some r) : J mi_X5_stand 4 0 0 (jqV r) 0 [(0, .ref 8), (1, .int a1), (2, .ref a2)] [] (ms σ) := by
  unfold f_X5_stand at h
  refine J_aload_n 0 dX5_stand_0 rfl ?_
  refine M_getR gf_X5_36_4 dX5_stand_1 (g_8_9 _) k_8 n_8 ?_
  refine J_lconst (v := 0) dX5_stand_4 (by decide) ?_
  obtain ⟨_, σ130, h131, h⟩ := bd_inv h
  refine M_callSV (d' := 1) (As := [.ref 17, .long 0]) (st := []) cs_X5_53 dX5_stand_5 rfl (Nat.le_of_ble_eq_true rfl) (Nat.le_of_ble_eq_true rfl) (by decide) rfl rfl (t_J7_fill_d0a16 ⟨congrArg Prod.fst a_17, n_17⟩ h131) ?_
  refine J_iconst (v := 0) dX5_stand_8 (by decide) ?_
  refine J_istore_n (i := 3) (ls' := [(3, .int 0), (0, .ref 8), (1, .int a1), (2, .ref a2)]) dX5_stand_9 rfl (by decide) rfl ?_
  refine J_pick [1, 2, 3, 0] rfl ?_
  exact t_X5_stand_10  _ _ _ _ _ _ ⟨congrArg Prod.fst (shf_fst ha2.1), ha2.2⟩ h
theorem dX7_spell_0 : decode cX7_spell 0 = .ok (.iconst 0, 1) := by decide +kernel
theorem dX7_spell_1 : decode cX7_spell 1 = .ok (.istore 4, 2) := by decide +kernel
theorem dX7_spell_3 : decode cX7_spell 3 = .ok (.iload 4, 2) := by decide +kernel
theorem dX7_spell_5 : decode cX7_spell 5 = .ok (.iload_n 2, 1) := by decide +kernel
theorem dX7_spell_6 : decode cX7_spell 6 = .ok (.if_icmp .ge 41, 3) := by decide +kernel
theorem dX7_spell_9 : decode cX7_spell 9 = .ok (.aload_n 0, 1) := by decide +kernel
theorem dX7_spell_10 : decode cX7_spell 10 = .ok (.getfield 30, 3) := by decide +kernel
theorem dX7_spell_13 : decode cX7_spell 13 = .ok (.iload 4, 2) := by decide +kernel
theorem dX7_spell_15 : decode cX7_spell 15 = .ok (.aload_n 0, 1) := by decide +kernel
theorem dX7_spell_16 : decode cX7_spell 16 = .ok (.aload_n 1, 1) := by decide +kernel
theorem dX7_spell_17 : decode cX7_spell 17 = .ok (.iload 4, 2) := by decide +kernel
theorem dX7_spell_19 : decode cX7_spell 19 = .ok (.iaload, 1) := by decide +kernel
theorem dX7_spell_20 : decode cX7_spell 20 = .ok (.invokevirtual 40, 3) := by decide +kernel
theorem dX7_spell_23 : decode cX7_spell 23 = .ok (.iastore, 1) := by decide +kernel
theorem dX7_spell_24 : decode cX7_spell 24 = .ok (.aload_n 0, 1) := by decide +kernel
theorem dX7_spell_25 : decode cX7_spell 25 = .ok (.getfield 33, 3) := by decide +kernel
theorem dX7_spell_28 : decode cX7_spell 28 = .ok (.iload 4, 2) := by decide +kernel
theorem dX7_spell_30 : decode cX7_spell 30 = .ok (.aload_n 0, 1) := by decide +kernel
theorem dX7_spell_31 : decode cX7_spell 31 = .ok (.getfield 30, 3) := by decide +kernel
theorem dX7_spell_34 : decode cX7_spell 34 = .ok (.iload 4, 2) := by decide +kernel
theorem dX7_spell_36 : decode cX7_spell 36 = .ok (.iaload, 1) := by decide +kernel
theorem dX7_spell_37 : decode cX7_spell 37 = .ok (.invokestatic 44, 3) := by decide +kernel
theorem dX7_spell_40 : decode cX7_spell 40 = .ok (.iastore, 1) := by decide +kernel
theorem dX7_spell_41 : decode cX7_spell 41 = .ok (.iinc 4 1, 3) := by decide +kernel
theorem dX7_spell_44 : decode cX7_spell 44 = .ok (.goto (-41), 3) := by decide +kernel
theorem dX7_spell_47 : decode cX7_spell 47 = .ok (.iconst 0, 1) := by decide +kernel
theorem dX7_spell_48 : decode cX7_spell 48 = .ok (.istore 4, 2) := by decide +kernel
theorem dX7_spell_50 : decode cX7_spell 50 = .ok (.iconst 0, 1) := by decide +kernel
theorem dX7_spell_51 : decode cX7_spell 51 = .ok (.istore 5, 2) := by decide +kernel
theorem dX7_spell_53 : decode cX7_spell 53 = .ok (.iload 5, 2) := by decide +kernel
theorem dX7_spell_55 : decode cX7_spell 55 = .ok (.iload_n 2, 1) := by decide +kernel
theorem dX7_spell_56 : decode cX7_spell 56 = .ok (.if_icmp .ge 33, 3) := by decide +kernel
theorem dX7_spell_59 : decode cX7_spell 59 = .ok (.aload_n 0, 1) := by decide +kernel
theorem dX7_spell_60 : decode cX7_spell 60 = .ok (.iload 5, 2) := by decide +kernel
theorem dX7_spell_62 : decode cX7_spell 62 = .ok (.iload_n 2, 1) := by decide +kernel
theorem dX7_spell_63 : decode cX7_spell 63 = .ok (.invokevirtual 47, 3) := by decide +kernel
theorem dX7_spell_66 : decode cX7_spell 66 = .ok (.istore 6, 2) := by decide +kernel
theorem dX7_spell_68 : decode cX7_spell 68 = .ok (.iload 6, 2) := by decide +kernel
theorem dX7_spell_70 : decode cX7_spell 70 = .ok (.iconst (-1), 1) := by decide +kernel
theorem dX7_spell_71 : decode cX7_spell 71 = .ok (.if_icmp .eq 12, 3) := by decide +kernel
theorem dX7_spell_74 : decode cX7_spell 74 = .ok (.aload_n 3, 1) := by decide +kernel
theorem dX7_spell_75 : decode cX7_spell 75 = .ok (.iload 4, 2) := by decide +kernel
theorem dX7_spell_77 : decode cX7_spell 77 = .ok (.iload 6, 2) := by decide +kernel
theorem dX7_spell_79 : decode cX7_spell 79 = .ok (.iastore, 1) := by decide +kernel
theorem dX7_spell_80 : decode cX7_spell 80 = .ok (.iinc 4 1, 3) := by decide +kernel
theorem dX7_spell_83 : decode cX7_spell 83 = .ok (.iinc 5 1, 3) := by decide +kernel
theorem dX7_spell_86 : decode cX7_spell 86 = .ok (.goto (-33), 3) := by decide +kernel
theorem dX7_spell_89 : decode cX7_spell 89 = .ok (.iload 4, 2) := by decide +kernel
theorem dX7_spell_91 : decode cX7_spell 91 = .ok (.ireturn, 1) := by decide +kernel
noncomputable def f_X7_spell_83 (rec53 : Nat → Int32 → Nat → Int32 → Int32 → jM → Option (Int32 × jM)) (l0 : Nat) (l2 : Int32) (l3 : Nat) (l4 : Int32) (l5 : Int32) (σ : jM) : Option (Int32 × jM) :=
  rec53 l0 l2 l3 l4 (l5 + 1) σ
noncomputable def s_X7_spell_53  (rec53 : Nat → Int32 → Nat → Int32 → Int32 → jM → Option (Int32 × jM)) (l0 : Nat) (l2 : Int32) (l3 : Nat) (l4 : Int32) (l5 : Int32) (σ : jM) : Option (Int32 × jM) :=
  (if l2 ≤ l5 then some (l4, σ) else bd (f_X7_cellMadeBy l0 l5 l2 σ) (fun r12 σ13 => (if r12 = (-1) then f_X7_spell_83 rec53 l0 l2 l3 l4 l5 σ13 else gd (inb l4 (shf l3).2) (f_X7_spell_83 rec53 l0 l2 l3 (l4 + 1) l5 (wI σ13 l3 (Int32.toNatClampNeg l4) r12)))))
noncomputable def f_X7_spell_53  (n : Nat) : Nat → Int32 → Nat → Int32 → Int32 → jM → Option (Int32 × jM) := Nat.rec (motive := fun _ => Nat → Int32 → Nat → Int32 → Int32 → jM → Option (Int32 × jM)) (fun _ _ _ _ _ _ => none) (fun _ q => s_X7_spell_53  q) n
noncomputable def s_X7_spell_3  (rec3 : Nat → Nat → Int32 → Nat → Int32 → jM → Option (Int32 × jM)) (l0 : Nat) (l1 : Nat) (l2 : Int32) (l3 : Nat) (l4 : Int32) (σ : jM) : Option (Int32 × jM) :=
  (if l2 ≤ l4 then f_X7_spell_53  Fu l0 l2 l3 0 0 σ else gd (inb l4 (shf l1).2) (bd (f_X7_writtenFor l0 (rI σ l1 (Int32.toNatClampNeg l4)) σ) (fun r25 σ26 => gd (inb l4 8) (gd (inb l4 8) (bd (f_X12_vowelOf (rI (wI σ26 (rulX l0 + 7) (Int32.toNatClampNeg l4) r25) (rulX l0 + 7) (Int32.toNatClampNeg l4)) (wI σ26 (rulX l0 + 7) (Int32.toNatClampNeg l4) r25)) (fun r30 σ31 => gd (inb l4 8) (rec3 l0 l1 l2 l3 (l4 + 1) (wI σ31 (rulX l0 + 8) (Int32.toNatClampNeg l4) r30))))))))
noncomputable def f_X7_spell_3  (n : Nat) : Nat → Nat → Int32 → Nat → Int32 → jM → Option (Int32 × jM) := Nat.rec (motive := fun _ => Nat → Nat → Int32 → Nat → Int32 → jM → Option (Int32 × jM)) (fun _ _ _ _ _ _ => none) (fun _ q => s_X7_spell_3  q) n
noncomputable def f_X7_spell (t0 : Nat) (a1 : Nat) (a2 : Int32) (a3 : Nat) (σ : jM) : Option (Int32 × jM) :=
  f_X7_spell_3  Fu t0 a1 a2 a3 0 σ
set_option maxRecDepth 20000 in
set_option maxHeartbeats 4000000 in
theorem t_X7_spell_83 {rec53 : Nat → Int32 → Nat → Int32 → Int32 → jM → Option (Int32 × jM)} (hrec53 : ∀ (l0 : Nat) (l2 : Int32) (l3 : Nat) (l4 : Int32) (l5 : Int32) (σ : jM) (r : Int32 × jM), (shf l3).1 = 14 ∧ l3 < 376 → rec53 l0 l2 l3 l4 l5 σ = some r → J mi_X7_spell 3 0 0 (jqI r) 53 [(0, .ref (rulX l0)), (2, .int l2), (3, .ref l3), (4, .int l4), (5, .int l5)] [] (ms σ)) (l0 : Nat) (l2 : Int32) (l3 : Nat) (l4 : Int32) (l5 : Int32) (σ : jM) (r : Int32 × jM) (hl3 : (shf l3).1 = 14 ∧ l3 < 376) (h : f_X7_spell_83 rec53 l0 l2 l3 l4 l5 σ = some r) : J mi_X7_spell 3 0 0 (jqI r) 83 [(0, .ref (rulX l0)), (2, .int l2), (3, .ref l3), (4, .int l4), (5, .int l5)] [] (ms σ) := by
  unfold f_X7_spell_83 at h
  refine J_iinc (v := (l5 + 1)) (ls' := [(5, .int (l5 + 1)), (0, .ref (rulX l0)), (2, .int l2), (3, .ref l3), (4, .int l4)]) 4 dX7_spell_83 rfl rfl (by decide) rfl ?_
  refine J_goto (tgt := 53) dX7_spell_86 (by decide) ?_
  refine J_pick [1, 2, 3, 4, 0] rfl ?_
  exact hrec53 _ _ _ _ _ _ _ ⟨congrArg Prod.fst (shf_fst hl3.1), hl3.2⟩ h
set_option maxRecDepth 20000 in
set_option maxHeartbeats 4000000 in
theorem t_X7_spell_53  : ∀ (n : Nat) (l0 : Nat) (l2 : Int32) (l3 : Nat) (l4 : Int32) (l5 : Int32) (σ : jM) (r : Int32 × jM), (shf l3).1 = 14 ∧ l3 < 376 → f_X7_spell_53  n l0 l2 l3 l4 l5 σ = some r → J mi_X7_spell 3 0 0 (jqI r) 53 [(0, .ref (rulX l0)), (2, .int l2), (3, .ref l3), (4, .int l4), (5, .int l5)] [] (ms σ) := by
  intro n
  induction n with
  | zero =>
    intro l0 l2 l3 l4 l5 σ r hl3 h
    have h : (none : Option (Int32 × jM)) = some r := h
    cases h
  | succ n ih =>
    intro l0 l2 l3 l4 l5 σ r hl3 h
    have h : s_X7_spell_53  (f_X7_spell_53  n) l0 l2 l3 l4 l5 σ = some r := h
    unfold s_X7_spell_53 at h
    refine J_iload 4 dX7_spell_53 rfl ?_
    refine J_iload_n 1 dX7_spell_55 rfl ?_
    refine J_icmp_ge (tgt := 89) dX7_spell_56 (by decide) (fun c17 => ?_) (fun c17 => ?_)
    · have h := (if_pos c17).symm.trans h
      refine J_iload 3 dX7_spell_89 rfl ?_
      exact J_ret (v := some (.int l4)) rfl ⟨dX7_spell_91, Or.inl rfl⟩ (jqI_mk h)
    · have h := (if_neg c17).symm.trans h
      refine J_aload_n 0 dX7_spell_59 rfl ?_
      refine J_iload 4 dX7_spell_60 rfl ?_
      refine J_iload_n 1 dX7_spell_62 rfl ?_
      obtain ⟨r18, σ19, h20, h⟩ := bd_inv h
      refine M_callVI (d' := 2) (k := (rulX l0)) (As := [.int l5, .int l2]) (st := []) cv_X7_47 dX7_spell_63 rfl (by decide) rfl (Nat.le_of_ble_eq_true rfl) (Nat.le_of_ble_eq_true rfl) (by decide) (nn_rul l0) (kk_rul l0) rfl rfl (t_X7_cellMadeBy  h20) ?_
      refine J_istore (i := 6) (ls' := [(6, .int r18), (0, .ref (rulX l0)), (2, .int l2), (3, .ref l3), (4, .int l4), (5, .int l5)]) dX7_spell_66 (by decide) rfl ?_
      refine J_iload 0 dX7_spell_68 rfl ?_
      refine J_iconst (v := (-1)) dX7_spell_70 (by decide) ?_
      refine J_icmp_eq (tgt := 83) dX7_spell_71 (by decide) (fun c21 => ?_) (fun c21 => ?_)
      · have h := (if_pos c21).symm.trans h
        refine J_pick [1, 2, 3, 4, 5] rfl ?_
        exact t_X7_spell_83 ih _ _ _ _ _ _ _ ⟨congrArg Prod.fst (shf_fst hl3.1), hl3.2⟩ h
      · have h := (if_neg c21).symm.trans h
        refine J_aload_n 3 dX7_spell_74 rfl ?_
        refine J_iload 4 dX7_spell_75 rfl ?_
        refine J_iload 0 dX7_spell_77 rfl ?_
        obtain ⟨g22, h⟩ := gd_inv h
        refine M_iast dX7_spell_79 (shf_fst hl3.1) hl3.2 g22 ?_
        refine J_iinc (v := (l4 + 1)) (ls' := [(4, .int (l4 + 1)), (6, .int r18), (0, .ref (rulX l0)), (2, .int l2), (3, .ref l3), (5, .int l5)]) 4 dX7_spell_80 rfl rfl (by decide) rfl ?_
        refine J_pick [2, 3, 4, 0, 5] rfl ?_
        exact t_X7_spell_83 ih _ _ _ _ _ _ _ ⟨congrArg Prod.fst (shf_fst hl3.1), hl3.2⟩ h
set_option maxRecDepth 20000 in
set_option maxHeartbeats 4000000 in
theorem t_X7_spell_3  : ∀ (n : Nat) (l0 : Nat) (l1 : Nat) (l2 : Int32) (l3 : Nat) (l4 : Int32) (σ : jM) (r : Int32 × jM), (shf l1).1 = 14 ∧ l1 < 376 → (shf l3).1 = 14 ∧ l3 < 376 → f_X7_spell_3  n l0 l1 l2 l3 l4 σ = some r → J mi_X7_spell 3 0 0 (jqI r) 3 [(0, .ref (rulX l0)), (1, .ref l1), (2, .int l2), (3, .ref l3), (4, .int l4)] [] (ms σ) := by
  intro n
  induction n with
  | zero =>
    intro l0 l1 l2 l3 l4 σ r hl1 hl3 h
    have h : (none : Option (Int32 × jM)) = some r := h
    cases h
  | succ n ih =>
    intro l0 l1 l2 l3 l4 σ r hl1 hl3 h
    have h : s_X7_spell_3  (f_X7_spell_3  n) l0 l1 l2 l3 l4 σ = some r := h
    unfold s_X7_spell_3 at h
    refine J_iload 4 dX7_spell_3 rfl ?_
    refine J_iload_n 2 dX7_spell_5 rfl ?_
    refine J_icmp_ge (tgt := 47) dX7_spell_6 (by decide) (fun c34 => ?_) (fun c34 => ?_)
    · have h := (if_pos c34).symm.trans h
      refine J_iconst (v := 0) dX7_spell_47 (by decide) ?_
      refine J_istore (i := 4) (ls' := [(4, .int 0), (0, .ref (rulX l0)), (1, .ref l1), (2, .int l2), (3, .ref l3)]) dX7_spell_48 (by decide) rfl ?_
      refine J_iconst (v := 0) dX7_spell_50 (by decide) ?_
      refine J_istore (i := 5) (ls' := [(5, .int 0), (4, .int 0), (0, .ref (rulX l0)), (1, .ref l1), (2, .int l2), (3, .ref l3)]) dX7_spell_51 (by decide) rfl ?_
      refine J_pick [2, 4, 5, 1, 0] rfl ?_
      exact t_X7_spell_53  _ _ _ _ _ _ _ _ ⟨congrArg Prod.fst (shf_fst hl3.1), hl3.2⟩ h
    · have h := (if_neg c34).symm.trans h
      refine J_aload_n 0 dX7_spell_9 rfl ?_
      refine M_getR gf_X7_30_6 dX7_spell_10 (gg_rul8 _ l0) (kk_rul l0) (nn_rul l0) ?_
      refine J_iload 4 dX7_spell_13 rfl ?_
      refine J_aload_n 0 dX7_spell_15 rfl ?_
      refine J_aload_n 1 dX7_spell_16 rfl ?_
      refine J_iload 4 dX7_spell_17 rfl ?_
      obtain ⟨g35, h⟩ := gd_inv h
      refine M_iald dX7_spell_19 (shf_fst hl1.1) hl1.2 g35 ?_
      obtain ⟨r36, σ37, h38, h⟩ := bd_inv h
      refine M_callVI (d' := 1) (k := (rulX l0)) (As := [.int (rI σ l1 (Int32.toNatClampNeg l4))]) (st := [.int l4, .ref (rulX l0 + 7)]) cv_X7_40 dX7_spell_20 rfl (by decide) rfl (Nat.le_of_ble_eq_true rfl) (Nat.le_of_ble_eq_true rfl) (by decide) (nn_rul l0) (kk_rul l0) rfl rfl (t_X7_writtenFor  h38) ?_
      obtain ⟨g39, h⟩ := gd_inv h
      refine M_iast dX7_spell_23 (aa_rul8 l0) (nna_rul8 l0) g39 ?_
      refine J_aload_n 0 dX7_spell_24 rfl ?_
      refine M_getR gf_X7_33_6 dX7_spell_25 (gg_rul9 _ l0) (kk_rul l0) (nn_rul l0) ?_
      refine J_iload 4 dX7_spell_28 rfl ?_
      refine J_aload_n 0 dX7_spell_30 rfl ?_
      refine M_getR gf_X7_30_6 dX7_spell_31 (gg_rul8 _ l0) (kk_rul l0) (nn_rul l0) ?_
      refine J_iload 4 dX7_spell_34 rfl ?_
      obtain ⟨g40, h⟩ := gd_inv h
      refine M_iald dX7_spell_36 (aa_rul8 l0) (nna_rul8 l0) g40 ?_
      obtain ⟨r41, σ42, h43, h⟩ := bd_inv h
      refine M_callNI (d' := 1) (As := [.int (rI (wI σ37 (rulX l0 + 7) (Int32.toNatClampNeg l4) r36) (rulX l0 + 7) (Int32.toNatClampNeg l4))]) (st := [.int l4, .ref (rulX l0 + 8)]) cn_X7_44 dX7_spell_37 rfl (Nat.le_of_ble_eq_true rfl) (Nat.le_of_ble_eq_true rfl) (by decide) rfl rfl (t_X12_vowelOf  h43) ?_
      obtain ⟨g44, h⟩ := gd_inv h
      refine M_iast dX7_spell_40 (aa_rul9 l0) (nna_rul9 l0) g44 ?_
      refine J_iinc (v := (l4 + 1)) (ls' := [(4, .int (l4 + 1)), (0, .ref (rulX l0)), (1, .ref l1), (2, .int l2), (3, .ref l3)]) 4 dX7_spell_41 rfl rfl (by decide) rfl ?_
      refine J_goto (tgt := 3) dX7_spell_44 (by decide) ?_
      refine J_pick [1, 2, 3, 4, 0] rfl ?_
      exact ih _ _ _ _ _ _ _ ⟨congrArg Prod.fst (shf_fst hl1.1), hl1.2⟩ ⟨congrArg Prod.fst (shf_fst hl3.1), hl3.2⟩ h
set_option maxRecDepth 20000 in
set_option maxHeartbeats 4000000 in
theorem t_X7_spell {t0 : Nat} {a1 : Nat} {a2 : Int32} {a3 : Nat} {σ : jM} {r : Int32 × jM} (ha1 : (shf a1).1 = 14 ∧ a1 < 376) (ha3 : (shf a3).1 = 14 ∧ a3 < 376) (h : f_X7_spell t0 a1 a2 a3 σ = some r) : J mi_X7_spell 3 0 0 (jqI r) 0 [(0, .ref (rulX t0)), (1, .ref a1), (2, .int a2), (3, .ref a3)] [] (ms σ) := by
  unfold f_X7_spell at h
  refine J_iconst (v := 0) dX7_spell_0 (by decide) ?_
  refine J_istore (i := 4) (ls' := [(4, .int 0), (0, .ref (rulX t0)), (1, .ref a1), (2, .int a2), (3, .ref a3)]) dX7_spell_1 (by decide) rfl ?_
  refine J_pick [1, 2, 3, 4, 0] rfl ?_
  exact t_X7_spell_3  _ _ _ _ _ _ _ _ ⟨congrArg Prod.fst (shf_fst ha1.1), ha1.2⟩ ⟨congrArg Prod.fst (shf_fst ha3.1), ha3.2⟩ h
theorem dX8_seatNames_0 : decode cX8_seatNames 0 = .ok (.aload_n 0, 1) := by decide +kernel
theorem dX8_seatNames_1 : decode cX8_seatNames 1 = .ok (.iconst 0, 1) := by decide +kernel
theorem dX8_seatNames_2 : decode cX8_seatNames 2 = .ok (.putfield 56, 3) := by decide +kernel
theorem dX8_seatNames_5 : decode cX8_seatNames 5 = .ok (.iconst 0, 1) := by decide +kernel
theorem dX8_seatNames_6 : decode cX8_seatNames 6 = .ok (.istore_n 2, 1) := by decide +kernel
theorem dX8_seatNames_7 : decode cX8_seatNames 7 = .ok (.iload_n 2, 1) := by decide +kernel
theorem dX8_seatNames_8 : decode cX8_seatNames 8 = .ok (.aload_n 0, 1) := by decide +kernel
theorem dX8_seatNames_9 : decode cX8_seatNames 9 = .ok (.getfield 48, 3) := by decide +kernel
theorem dX8_seatNames_12 : decode cX8_seatNames 12 = .ok (.getfield 60, 3) := by decide +kernel
theorem dX8_seatNames_15 : decode cX8_seatNames 15 = .ok (.if_icmp .ge 107, 3) := by decide +kernel
theorem dX8_seatNames_18 : decode cX8_seatNames 18 = .ok (.iload_n 1, 1) := by decide +kernel
theorem dX8_seatNames_19 : decode cX8_seatNames 19 = .ok (.iload_n 2, 1) := by decide +kernel
theorem dX8_seatNames_20 : decode cX8_seatNames 20 = .ok (.iushr, 1) := by decide +kernel
theorem dX8_seatNames_21 : decode cX8_seatNames 21 = .ok (.iconst 1, 1) := by decide +kernel
theorem dX8_seatNames_22 : decode cX8_seatNames 22 = .ok (.iand, 1) := by decide +kernel
theorem dX8_seatNames_23 : decode cX8_seatNames 23 = .ok (.ifCond .ne 93, 3) := by decide +kernel
theorem dX8_seatNames_26 : decode cX8_seatNames 26 = .ok (.aload_n 0, 1) := by decide +kernel
theorem dX8_seatNames_27 : decode cX8_seatNames 27 = .ok (.getfield 48, 3) := by decide +kernel
theorem dX8_seatNames_30 : decode cX8_seatNames 30 = .ok (.iload_n 2, 1) := by decide +kernel
theorem dX8_seatNames_31 : decode cX8_seatNames 31 = .ok (.invokevirtual 65, 3) := by decide +kernel
theorem dX8_seatNames_34 : decode cX8_seatNames 34 = .ok (.ifCond .eq 82, 3) := by decide +kernel
theorem dX8_seatNames_37 : decode cX8_seatNames 37 = .ok (.aload_n 0, 1) := by decide +kernel
theorem dX8_seatNames_38 : decode cX8_seatNames 38 = .ok (.getfield 48, 3) := by decide +kernel
theorem dX8_seatNames_41 : decode cX8_seatNames 41 = .ok (.getfield 69, 3) := by decide +kernel
theorem dX8_seatNames_44 : decode cX8_seatNames 44 = .ok (.iload_n 2, 1) := by decide +kernel
theorem dX8_seatNames_45 : decode cX8_seatNames 45 = .ok (.aaload, 1) := by decide +kernel
theorem dX8_seatNames_46 : decode cX8_seatNames 46 = .ok (.astore_n 3, 1) := by decide +kernel
theorem dX8_seatNames_47 : decode cX8_seatNames 47 = .ok (.aload_n 0, 1) := by decide +kernel
theorem dX8_seatNames_48 : decode cX8_seatNames 48 = .ok (.getfield 18, 3) := by decide +kernel
theorem dX8_seatNames_51 : decode cX8_seatNames 51 = .ok (.aload_n 0, 1) := by decide +kernel
theorem dX8_seatNames_52 : decode cX8_seatNames 52 = .ok (.getfield 56, 3) := by decide +kernel
theorem dX8_seatNames_55 : decode cX8_seatNames 55 = .ok (.iload_n 2, 1) := by decide +kernel
theorem dX8_seatNames_56 : decode cX8_seatNames 56 = .ok (.iastore, 1) := by decide +kernel
theorem dX8_seatNames_57 : decode cX8_seatNames 57 = .ok (.aload_n 0, 1) := by decide +kernel
theorem dX8_seatNames_58 : decode cX8_seatNames 58 = .ok (.getfield 21, 3) := by decide +kernel
theorem dX8_seatNames_61 : decode cX8_seatNames 61 = .ok (.aload_n 0, 1) := by decide +kernel
theorem dX8_seatNames_62 : decode cX8_seatNames 62 = .ok (.getfield 56, 3) := by decide +kernel
theorem dX8_seatNames_65 : decode cX8_seatNames 65 = .ok (.aload_n 3, 1) := by decide +kernel
theorem dX8_seatNames_66 : decode cX8_seatNames 66 = .ok (.getfield 73, 3) := by decide +kernel
theorem dX8_seatNames_69 : decode cX8_seatNames 69 = .ok (.iastore, 1) := by decide +kernel
theorem dX8_seatNames_70 : decode cX8_seatNames 70 = .ok (.aload_n 0, 1) := by decide +kernel
theorem dX8_seatNames_71 : decode cX8_seatNames 71 = .ok (.getfield 24, 3) := by decide +kernel
theorem dX8_seatNames_74 : decode cX8_seatNames 74 = .ok (.aload_n 0, 1) := by decide +kernel
theorem dX8_seatNames_75 : decode cX8_seatNames 75 = .ok (.getfield 56, 3) := by decide +kernel
theorem dX8_seatNames_78 : decode cX8_seatNames 78 = .ok (.aload_n 0, 1) := by decide +kernel
theorem dX8_seatNames_79 : decode cX8_seatNames 79 = .ok (.getfield 48, 3) := by decide +kernel
theorem dX8_seatNames_82 : decode cX8_seatNames 82 = .ok (.getfield 78, 3) := by decide +kernel
theorem dX8_seatNames_85 : decode cX8_seatNames 85 = .ok (.aload_n 3, 1) := by decide +kernel
theorem dX8_seatNames_86 : decode cX8_seatNames 86 = .ok (.getfield 82, 3) := by decide +kernel
theorem dX8_seatNames_89 : decode cX8_seatNames 89 = .ok (.aload_n 3, 1) := by decide +kernel
theorem dX8_seatNames_90 : decode cX8_seatNames 90 = .ok (.getfield 85, 3) := by decide +kernel
theorem dX8_seatNames_93 : decode cX8_seatNames 93 = .ok (.aload_n 0, 1) := by decide +kernel
theorem dX8_seatNames_94 : decode cX8_seatNames 94 = .ok (.getfield 29, 3) := by decide +kernel
theorem dX8_seatNames_97 : decode cX8_seatNames 97 = .ok (.aload_n 0, 1) := by decide +kernel
theorem dX8_seatNames_98 : decode cX8_seatNames 98 = .ok (.getfield 56, 3) := by decide +kernel
theorem dX8_seatNames_101 : decode cX8_seatNames 101 = .ok (.aaload, 1) := by decide +kernel
theorem dX8_seatNames_102 : decode cX8_seatNames 102 = .ok (.invokevirtual 88, 3) := by decide +kernel
theorem dX8_seatNames_105 : decode cX8_seatNames 105 = .ok (.iastore, 1) := by decide +kernel
theorem dX8_seatNames_106 : decode cX8_seatNames 106 = .ok (.aload_n 0, 1) := by decide +kernel
theorem dX8_seatNames_107 : decode cX8_seatNames 107 = .ok (.dup, 1) := by decide +kernel
theorem dX8_seatNames_108 : decode cX8_seatNames 108 = .ok (.getfield 56, 3) := by decide +kernel
theorem dX8_seatNames_111 : decode cX8_seatNames 111 = .ok (.iconst 1, 1) := by decide +kernel
theorem dX8_seatNames_112 : decode cX8_seatNames 112 = .ok (.iadd, 1) := by decide +kernel
theorem dX8_seatNames_113 : decode cX8_seatNames 113 = .ok (.putfield 56, 3) := by decide +kernel
theorem dX8_seatNames_116 : decode cX8_seatNames 116 = .ok (.iinc 2 1, 3) := by decide +kernel
theorem dX8_seatNames_119 : decode cX8_seatNames 119 = .ok (.goto (-112), 3) := by decide +kernel
theorem dX8_seatNames_122 : decode cX8_seatNames 122 = .ok (.return_, 1) := by decide +kernel
noncomputable def f_X8_seatNames_116 (rec7 : Int32 → Int32 → jM → Option (Unit × jM)) (l1 : Int32) (l2 : Int32) (σ : jM) : Option (Unit × jM) :=
  rec7 l1 (l2 + 1) σ
noncomputable def s_X8_seatNames_7  (rec7 : Int32 → Int32 → jM → Option (Unit × jM)) (l1 : Int32) (l2 : Int32) (σ : jM) : Option (Unit × jM) :=
  (if (rI σ 3 8) ≤ l2 then some ((), σ) else (if ((jushr l1 l2) &&& 1) = 0 then bd (f_X0_nameCounts l2 σ) (fun r8 σ9 => (if r8 = 0 then f_X8_seatNames_116 rec7 l1 l2 σ9 else gd (inb l2 6) (gd (inb (rI σ9 296 5) 7) (gd (inb (rI (wI σ9 299 (Int32.toNatClampNeg (rI σ9 296 5)) l2) 296 5) 7) (gd (inb (rI (wI (wI σ9 299 (Int32.toNatClampNeg (rI σ9 296 5)) l2) 300 (Int32.toNatClampNeg (rI (wI σ9 299 (Int32.toNatClampNeg (rI σ9 296 5)) l2) 296 5)) (rI (wI σ9 299 (Int32.toNatClampNeg (rI σ9 296 5)) l2) (namX (Int32.toNatClampNeg l2)) 4)) 296 5) 7) (bd (f_X7_spell ((wI (wI σ9 299 (Int32.toNatClampNeg (rI σ9 296 5)) l2) 300 (Int32.toNatClampNeg (rI (wI σ9 299 (Int32.toNatClampNeg (rI σ9 296 5)) l2) 296 5)) (rI (wI σ9 299 (Int32.toNatClampNeg (rI σ9 296 5)) l2) (namX (Int32.toNatClampNeg l2)) 4)).2.2) (namX (Int32.toNatClampNeg l2) + 1) (rI (wI (wI σ9 299 (Int32.toNatClampNeg (rI σ9 296 5)) l2) 300 (Int32.toNatClampNeg (rI (wI σ9 299 (Int32.toNatClampNeg (rI σ9 296 5)) l2) 296 5)) (rI (wI σ9 299 (Int32.toNatClampNeg (rI σ9 296 5)) l2) (namX (Int32.toNatClampNeg l2)) 4)) (namX (Int32.toNatClampNeg l2)) 3) (303 + (Int32.toNatClampNeg (rI (wI (wI σ9 299 (Int32.toNatClampNeg (rI σ9 296 5)) l2) 300 (Int32.toNatClampNeg (rI (wI σ9 299 (Int32.toNatClampNeg (rI σ9 296 5)) l2) 296 5)) (rI (wI σ9 299 (Int32.toNatClampNeg (rI σ9 296 5)) l2) (namX (Int32.toNatClampNeg l2)) 4)) 296 5))) (wI (wI σ9 299 (Int32.toNatClampNeg (rI σ9 296 5)) l2) 300 (Int32.toNatClampNeg (rI (wI σ9 299 (Int32.toNatClampNeg (rI σ9 296 5)) l2) 296 5)) (rI (wI σ9 299 (Int32.toNatClampNeg (rI σ9 296 5)) l2) (namX (Int32.toNatClampNeg l2)) 4))) (fun r16 σ17 => gd (inb (rI (wI (wI σ9 299 (Int32.toNatClampNeg (rI σ9 296 5)) l2) 300 (Int32.toNatClampNeg (rI (wI σ9 299 (Int32.toNatClampNeg (rI σ9 296 5)) l2) 296 5)) (rI (wI σ9 299 (Int32.toNatClampNeg (rI σ9 296 5)) l2) (namX (Int32.toNatClampNeg l2)) 4)) 296 5) 7) (f_X8_seatNames_116 rec7 l1 l2 (wI (wI σ17 301 (Int32.toNatClampNeg (rI (wI (wI σ9 299 (Int32.toNatClampNeg (rI σ9 296 5)) l2) 300 (Int32.toNatClampNeg (rI (wI σ9 299 (Int32.toNatClampNeg (rI σ9 296 5)) l2) 296 5)) (rI (wI σ9 299 (Int32.toNatClampNeg (rI σ9 296 5)) l2) (namX (Int32.toNatClampNeg l2)) 4)) 296 5)) r16) 296 5 ((rI (wI σ17 301 (Int32.toNatClampNeg (rI (wI (wI σ9 299 (Int32.toNatClampNeg (rI σ9 296 5)) l2) 300 (Int32.toNatClampNeg (rI (wI σ9 299 (Int32.toNatClampNeg (rI σ9 296 5)) l2) 296 5)) (rI (wI σ9 299 (Int32.toNatClampNeg (rI σ9 296 5)) l2) (namX (Int32.toNatClampNeg l2)) 4)) 296 5)) r16) 296 5) + 1)))))))))) else f_X8_seatNames_116 rec7 l1 l2 σ))
noncomputable def f_X8_seatNames_7  (n : Nat) : Int32 → Int32 → jM → Option (Unit × jM) := Nat.rec (motive := fun _ => Int32 → Int32 → jM → Option (Unit × jM)) (fun _ _ _ => none) (fun _ q => s_X8_seatNames_7  q) n
noncomputable def f_X8_seatNames (a1 : Int32) (σ : jM) : Option (Unit × jM) :=
  f_X8_seatNames_7  Fu a1 0 (wI σ 296 5 0)
set_option maxRecDepth 20000 in
set_option maxHeartbeats 4000000 in
theorem t_X8_seatNames_116 {rec7 : Int32 → Int32 → jM → Option (Unit × jM)} (hrec7 : ∀ (l1 : Int32) (l2 : Int32) (σ : jM) (r : Unit × jM), rec7 l1 l2 σ = some r → J mi_X8_seatNames 4 0 0 (jqV r) 7 [(0, .ref 296), (1, .int l1), (2, .int l2)] [] (ms σ)) (l1 : Int32) (l2 : Int32) (σ : jM) (r : Unit × jM)  (h : f_X8_seatNames_116 rec7 l1 l2 σ = some r) : J mi_X8_seatNames 4 0 0 (jqV r) 116 [(0, .ref 296), (1, .int l1), (2, .int l2)] [] (ms σ) := by
  unfold f_X8_seatNames_116 at h
  refine J_iinc (v := (l2 + 1)) (ls' := [(2, .int (l2 + 1)), (0, .ref 296), (1, .int l1)]) 2 dX8_seatNames_116 rfl rfl (by decide) rfl ?_
  refine J_goto (tgt := 7) dX8_seatNames_119 (by decide) ?_
  refine J_pick [1, 2, 0] rfl ?_
  exact hrec7 _ _ _ _  h
set_option maxRecDepth 20000 in
set_option maxHeartbeats 4000000 in
theorem t_X8_seatNames_7  : ∀ (n : Nat) (l1 : Int32) (l2 : Int32) (σ : jM) (r : Unit × jM), f_X8_seatNames_7  n l1 l2 σ = some r → J mi_X8_seatNames 4 0 0 (jqV r) 7 [(0, .ref 296), (1, .int l1), (2, .int l2)] [] (ms σ) := by
  intro n
  induction n with
  | zero =>
    intro l1 l2 σ r  h
    have h : (none : Option (Unit × jM)) = some r := h
    cases h
  | succ n ih =>
    intro l1 l2 σ r  h
    have h : s_X8_seatNames_7  (f_X8_seatNames_7  n) l1 l2 σ = some r := h
    unfold s_X8_seatNames_7 at h
    refine J_iload_n 2 dX8_seatNames_7 rfl ?_
    refine J_aload_n 0 dX8_seatNames_8 rfl ?_
    refine M_getR gf_X8_48_7 dX8_seatNames_9 (g_296_3 _) k_296 n_296 ?_
    refine M_getI gf_X8_60_0 dX8_seatNames_12 k_3 n_3 ?_
    refine J_icmp_ge (tgt := 122) dX8_seatNames_15 (by decide) (fun c20 => ?_) (fun c20 => ?_)
    · have h := (if_pos c20).symm.trans h
      exact J_ret (v := none) rfl ⟨dX8_seatNames_122, rfl⟩ (jqV_mk h)
    · have h := (if_neg c20).symm.trans h
      refine J_iload_n 1 dX8_seatNames_18 rfl ?_
      refine J_iload_n 2 dX8_seatNames_19 rfl ?_
      refine J_iushr dX8_seatNames_20 ?_
      refine J_iconst (v := 1) dX8_seatNames_21 (by decide) ?_
      refine J_iand dX8_seatNames_22 ?_
      refine J_if_ne (tgt := 116) dX8_seatNames_23 (by decide) (fun c21 => ?_) (fun c21 => ?_)
      · have h := (if_neg c21).symm.trans h
        exact t_X8_seatNames_116 ih _ _ _ _  h
      · have h := (if_pos c21).symm.trans h
        refine J_aload_n 0 dX8_seatNames_26 rfl ?_
        refine M_getR gf_X8_48_7 dX8_seatNames_27 (g_296_3 _) k_296 n_296 ?_
        refine J_iload_n 2 dX8_seatNames_30 rfl ?_
        obtain ⟨r22, σ23, h24, h⟩ := bd_inv h
        refine M_callVI (d' := 3) (k := 3) (As := [.int l2]) (st := []) cv_X8_65 dX8_seatNames_31 rfl (by decide) rfl (Nat.le_of_ble_eq_true rfl) (Nat.le_of_ble_eq_true rfl) (by decide) n_3 k_3 rfl rfl (t_X0_nameCounts  h24) ?_
        refine J_if_eq (tgt := 116) dX8_seatNames_34 (by decide) (fun c25 => ?_) (fun c25 => ?_)
        · have h := (if_pos c25).symm.trans h
          exact t_X8_seatNames_116 ih _ _ _ _  h
        · have h := (if_neg c25).symm.trans h
          refine J_aload_n 0 dX8_seatNames_37 rfl ?_
          refine M_getR gf_X8_48_7 dX8_seatNames_38 (g_296_3 _) k_296 n_296 ?_
          refine M_getR gf_X8_69_0 dX8_seatNames_41 (g_3_7 _) k_3 n_3 ?_
          refine J_iload_n 2 dX8_seatNames_44 rfl ?_
          obtain ⟨g26, h⟩ := gd_inv h
          refine M_aald dX8_seatNames_45 a_7 (by decide) n_7 g26 (r_nam _ g26.2) ?_
          refine J_astore_n (i := 3) (ls' := [(3, .ref (namX (Int32.toNatClampNeg l2))), (0, .ref 296), (1, .int l1), (2, .int l2)]) dX8_seatNames_46 rfl (by decide) rfl ?_
          refine J_aload_n 1 dX8_seatNames_47 rfl ?_
          refine M_getR gf_X8_18_7 dX8_seatNames_48 (g_296_6 _) k_296 n_296 ?_
          refine J_aload_n 1 dX8_seatNames_51 rfl ?_
          refine M_getI gf_X8_56_7 dX8_seatNames_52 k_296 n_296 ?_
          refine J_iload_n 3 dX8_seatNames_55 rfl ?_
          obtain ⟨g27, h⟩ := gd_inv h
          refine M_iast dX8_seatNames_56 a_299 n_299 g27 ?_
          refine J_aload_n 1 dX8_seatNames_57 rfl ?_
          refine M_getR gf_X8_21_7 dX8_seatNames_58 (g_296_7 _) k_296 n_296 ?_
          refine J_aload_n 1 dX8_seatNames_61 rfl ?_
          refine M_getI gf_X8_56_7 dX8_seatNames_62 k_296 n_296 ?_
          refine J_aload_n 0 dX8_seatNames_65 rfl ?_
          refine M_getI gf_X8_73_5 dX8_seatNames_66 (k_nam g26.2) (n_nam g26.2) ?_
          obtain ⟨g28, h⟩ := gd_inv h
          refine M_iast dX8_seatNames_69 a_300 n_300 g28 ?_
          refine J_aload_n 1 dX8_seatNames_70 rfl ?_
          refine M_getR gf_X8_24_7 dX8_seatNames_71 (g_296_8 _) k_296 n_296 ?_
          refine J_aload_n 1 dX8_seatNames_74 rfl ?_
          refine M_getI gf_X8_56_7 dX8_seatNames_75 k_296 n_296 ?_
          refine J_aload_n 1 dX8_seatNames_78 rfl ?_
          refine M_getR gf_X8_48_7 dX8_seatNames_79 (g_296_3 _) k_296 n_296 ?_
          refine M_getR (q := rulX (wI (wI σ23 299 (Int32.toNatClampNeg (rI σ23 296 5)) l2) 300 (Int32.toNatClampNeg (rI (wI σ23 299 (Int32.toNatClampNeg (rI σ23 296 5)) l2) 296 5)) (rI (wI σ23 299 (Int32.toNatClampNeg (rI σ23 296 5)) l2) (namX (Int32.toNatClampNeg l2)) 4)).2.2) gf_X8_78_0 dX8_seatNames_82 rfl k_3 n_3 ?_
          refine J_aload_n 0 dX8_seatNames_85 rfl ?_
          refine M_getR gf_X8_82_5 dX8_seatNames_86 (g_nam2 _ g26.2) (k_nam g26.2) (n_nam g26.2) ?_
          refine J_aload_n 0 dX8_seatNames_89 rfl ?_
          refine M_getI gf_X8_85_5 dX8_seatNames_90 (k_nam g26.2) (n_nam g26.2) ?_
          refine J_aload_n 1 dX8_seatNames_93 rfl ?_
          refine M_getR gf_X8_29_7 dX8_seatNames_94 (g_296_9 _) k_296 n_296 ?_
          refine J_aload_n 1 dX8_seatNames_97 rfl ?_
          refine M_getI gf_X8_56_7 dX8_seatNames_98 k_296 n_296 ?_
          obtain ⟨g29, h⟩ := gd_inv h
          refine M_aald dX8_seatNames_101 a_302 (by decide) n_302 g29 (r_row302 _ g29.2) ?_
          obtain ⟨r30, σ31, h32, h⟩ := bd_inv h
          refine M_callVI (d' := 3) (k := (rulX ((wI (wI σ23 299 (Int32.toNatClampNeg (rI σ23 296 5)) l2) 300 (Int32.toNatClampNeg (rI (wI σ23 299 (Int32.toNatClampNeg (rI σ23 296 5)) l2) 296 5)) (rI (wI σ23 299 (Int32.toNatClampNeg (rI σ23 296 5)) l2) (namX (Int32.toNatClampNeg l2)) 4)).2.2))) (As := [.ref (namX (Int32.toNatClampNeg l2) + 1), .int (rI (wI (wI σ23 299 (Int32.toNatClampNeg (rI σ23 296 5)) l2) 300 (Int32.toNatClampNeg (rI (wI σ23 299 (Int32.toNatClampNeg (rI σ23 296 5)) l2) 296 5)) (rI (wI σ23 299 (Int32.toNatClampNeg (rI σ23 296 5)) l2) (namX (Int32.toNatClampNeg l2)) 4)) (namX (Int32.toNatClampNeg l2)) 3), .ref (303 + (Int32.toNatClampNeg (rI (wI (wI σ23 299 (Int32.toNatClampNeg (rI σ23 296 5)) l2) 300 (Int32.toNatClampNeg (rI (wI σ23 299 (Int32.toNatClampNeg (rI σ23 296 5)) l2) 296 5)) (rI (wI σ23 299 (Int32.toNatClampNeg (rI σ23 296 5)) l2) (namX (Int32.toNatClampNeg l2)) 4)) 296 5)))]) (st := [.int (rI (wI (wI σ23 299 (Int32.toNatClampNeg (rI σ23 296 5)) l2) 300 (Int32.toNatClampNeg (rI (wI σ23 299 (Int32.toNatClampNeg (rI σ23 296 5)) l2) 296 5)) (rI (wI σ23 299 (Int32.toNatClampNeg (rI σ23 296 5)) l2) (namX (Int32.toNatClampNeg l2)) 4)) 296 5), .ref 301]) cv_X8_88 dX8_seatNames_102 rfl (by decide) rfl (Nat.le_of_ble_eq_true rfl) (Nat.le_of_ble_eq_true rfl) (by decide) (nn_rul ((wI (wI σ23 299 (Int32.toNatClampNeg (rI σ23 296 5)) l2) 300 (Int32.toNatClampNeg (rI (wI σ23 299 (Int32.toNatClampNeg (rI σ23 296 5)) l2) 296 5)) (rI (wI σ23 299 (Int32.toNatClampNeg (rI σ23 296 5)) l2) (namX (Int32.toNatClampNeg l2)) 4)).2.2)) (kk_rul ((wI (wI σ23 299 (Int32.toNatClampNeg (rI σ23 296 5)) l2) 300 (Int32.toNatClampNeg (rI (wI σ23 299 (Int32.toNatClampNeg (rI σ23 296 5)) l2) 296 5)) (rI (wI σ23 299 (Int32.toNatClampNeg (rI σ23 296 5)) l2) (namX (Int32.toNatClampNeg l2)) 4)).2.2)) rfl rfl (t_X7_spell ⟨congrArg Prod.fst (a_nam2 g26.2), (na_nam2 g26.2)⟩ ⟨congrArg Prod.fst (a_row302 g29.2), (na_row302 g29.2)⟩ h32) ?_
          obtain ⟨g33, h⟩ := gd_inv h
          refine M_iast dX8_seatNames_105 a_301 n_301 g33 ?_
          refine J_aload_n 1 dX8_seatNames_106 rfl ?_
          refine J_dup dX8_seatNames_107 rfl ?_
          refine M_getI gf_X8_56_7 dX8_seatNames_108 k_296 n_296 ?_
          refine J_iconst (v := 1) dX8_seatNames_111 (by decide) ?_
          refine J_iadd dX8_seatNames_112 ?_
          refine M_putI pf_X8_56_7 dX8_seatNames_113 k_296 n_296 ⟨rfl, rfl⟩ ?_
          refine J_pick [1, 2, 3] rfl ?_
          exact t_X8_seatNames_116 ih _ _ _ _  h
set_option maxRecDepth 20000 in
set_option maxHeartbeats 4000000 in
theorem t_X8_seatNames {a1 : Int32} {σ : jM} {r : Unit × jM}  (h : f_X8_seatNames a1 σ = some r) : J mi_X8_seatNames 4 0 0 (jqV r) 0 [(0, .ref 296), (1, .int a1)] [] (ms σ) := by
  unfold f_X8_seatNames at h
  refine J_aload_n 0 dX8_seatNames_0 rfl ?_
  refine J_iconst (v := 0) dX8_seatNames_1 (by decide) ?_
  refine M_putI pf_X8_56_7 dX8_seatNames_2 k_296 n_296 ⟨rfl, rfl⟩ ?_
  refine J_iconst (v := 0) dX8_seatNames_5 (by decide) ?_
  refine J_istore_n (i := 2) (ls' := [(2, .int 0), (0, .ref 296), (1, .int a1)]) dX8_seatNames_6 rfl (by decide) rfl ?_
  refine J_pick [1, 2, 0] rfl ?_
  exact t_X8_seatNames_7  _ _ _ _ _  h
theorem dX8_seatNew_0 : decode cX8_seatNew 0 = .ok (.aload_n 0, 1) := by decide +kernel
theorem dX8_seatNew_1 : decode cX8_seatNew 1 = .ok (.getfield 18, 3) := by decide +kernel
theorem dX8_seatNew_4 : decode cX8_seatNew 4 = .ok (.aload_n 0, 1) := by decide +kernel
theorem dX8_seatNew_5 : decode cX8_seatNew 5 = .ok (.getfield 56, 3) := by decide +kernel
theorem dX8_seatNew_8 : decode cX8_seatNew 8 = .ok (.iconst (-1), 1) := by decide +kernel
theorem dX8_seatNew_9 : decode cX8_seatNew 9 = .ok (.iastore, 1) := by decide +kernel
theorem dX8_seatNew_10 : decode cX8_seatNew 10 = .ok (.aload_n 0, 1) := by decide +kernel
theorem dX8_seatNew_11 : decode cX8_seatNew 11 = .ok (.getfield 24, 3) := by decide +kernel
theorem dX8_seatNew_14 : decode cX8_seatNew 14 = .ok (.aload_n 0, 1) := by decide +kernel
theorem dX8_seatNew_15 : decode cX8_seatNew 15 = .ok (.getfield 56, 3) := by decide +kernel
theorem dX8_seatNew_18 : decode cX8_seatNew 18 = .ok (.aload_n 0, 1) := by decide +kernel
theorem dX8_seatNew_19 : decode cX8_seatNew 19 = .ok (.getfield 48, 3) := by decide +kernel
theorem dX8_seatNew_22 : decode cX8_seatNew 22 = .ok (.getfield 78, 3) := by decide +kernel
theorem dX8_seatNew_25 : decode cX8_seatNew 25 = .ok (.aload_n 1, 1) := by decide +kernel
theorem dX8_seatNew_26 : decode cX8_seatNew 26 = .ok (.iload_n 2, 1) := by decide +kernel
theorem dX8_seatNew_27 : decode cX8_seatNew 27 = .ok (.aload_n 0, 1) := by decide +kernel
theorem dX8_seatNew_28 : decode cX8_seatNew 28 = .ok (.getfield 29, 3) := by decide +kernel
theorem dX8_seatNew_31 : decode cX8_seatNew 31 = .ok (.aload_n 0, 1) := by decide +kernel
theorem dX8_seatNew_32 : decode cX8_seatNew 32 = .ok (.getfield 56, 3) := by decide +kernel
theorem dX8_seatNew_35 : decode cX8_seatNew 35 = .ok (.aaload, 1) := by decide +kernel
theorem dX8_seatNew_36 : decode cX8_seatNew 36 = .ok (.invokevirtual 88, 3) := by decide +kernel
theorem dX8_seatNew_39 : decode cX8_seatNew 39 = .ok (.iastore, 1) := by decide +kernel
theorem dX8_seatNew_40 : decode cX8_seatNew 40 = .ok (.return_, 1) := by decide +kernel
noncomputable def f_X8_seatNew (a1 : Nat) (a2 : Int32) (σ : jM) : Option (Unit × jM) :=
  gd (inb (rI σ 296 5) 7) (gd (inb (rI (wI σ 299 (Int32.toNatClampNeg (rI σ 296 5)) (-1)) 296 5) 7) (bd (f_X7_spell ((wI σ 299 (Int32.toNatClampNeg (rI σ 296 5)) (-1)).2.2) a1 a2 (303 + (Int32.toNatClampNeg (rI (wI σ 299 (Int32.toNatClampNeg (rI σ 296 5)) (-1)) 296 5))) (wI σ 299 (Int32.toNatClampNeg (rI σ 296 5)) (-1))) (fun r6 σ7 => gd (inb (rI (wI σ 299 (Int32.toNatClampNeg (rI σ 296 5)) (-1)) 296 5) 7) (some ((), wI σ7 301 (Int32.toNatClampNeg (rI (wI σ 299 (Int32.toNatClampNeg (rI σ 296 5)) (-1)) 296 5)) r6)))))
set_option maxRecDepth 20000 in
set_option maxHeartbeats 4000000 in
theorem t_X8_seatNew {a1 : Nat} {a2 : Int32} {σ : jM} {r : Unit × jM} (ha1 : (shf a1).1 = 14 ∧ a1 < 376) (h : f_X8_seatNew a1 a2 σ = some r) : J mi_X8_seatNew 4 0 0 (jqV r) 0 [(0, .ref 296), (1, .ref a1), (2, .int a2)] [] (ms σ) := by
  unfold f_X8_seatNew at h
  refine J_aload_n 0 dX8_seatNew_0 rfl ?_
  refine M_getR gf_X8_18_7 dX8_seatNew_1 (g_296_6 _) k_296 n_296 ?_
  refine J_aload_n 0 dX8_seatNew_4 rfl ?_
  refine M_getI gf_X8_56_7 dX8_seatNew_5 k_296 n_296 ?_
  refine J_iconst (v := (-1)) dX8_seatNew_8 (by decide) ?_
  obtain ⟨g4, h⟩ := gd_inv h
  refine M_iast dX8_seatNew_9 a_299 n_299 g4 ?_
  refine J_aload_n 0 dX8_seatNew_10 rfl ?_
  refine M_getR gf_X8_24_7 dX8_seatNew_11 (g_296_8 _) k_296 n_296 ?_
  refine J_aload_n 0 dX8_seatNew_14 rfl ?_
  refine M_getI gf_X8_56_7 dX8_seatNew_15 k_296 n_296 ?_
  refine J_aload_n 0 dX8_seatNew_18 rfl ?_
  refine M_getR gf_X8_48_7 dX8_seatNew_19 (g_296_3 _) k_296 n_296 ?_
  refine M_getR (q := rulX (wI σ 299 (Int32.toNatClampNeg (rI σ 296 5)) (-1)).2.2) gf_X8_78_0 dX8_seatNew_22 rfl k_3 n_3 ?_
  refine J_aload_n 1 dX8_seatNew_25 rfl ?_
  refine J_iload_n 2 dX8_seatNew_26 rfl ?_
  refine J_aload_n 0 dX8_seatNew_27 rfl ?_
  refine M_getR gf_X8_29_7 dX8_seatNew_28 (g_296_9 _) k_296 n_296 ?_
  refine J_aload_n 0 dX8_seatNew_31 rfl ?_
  refine M_getI gf_X8_56_7 dX8_seatNew_32 k_296 n_296 ?_
  obtain ⟨g5, h⟩ := gd_inv h
  refine M_aald dX8_seatNew_35 a_302 (by decide) n_302 g5 (r_row302 _ g5.2) ?_
  obtain ⟨r6, σ7, h8, h⟩ := bd_inv h
  refine M_callVI (d' := 3) (k := (rulX ((wI σ 299 (Int32.toNatClampNeg (rI σ 296 5)) (-1)).2.2))) (As := [.ref a1, .int a2, .ref (303 + (Int32.toNatClampNeg (rI (wI σ 299 (Int32.toNatClampNeg (rI σ 296 5)) (-1)) 296 5)))]) (st := [.int (rI (wI σ 299 (Int32.toNatClampNeg (rI σ 296 5)) (-1)) 296 5), .ref 301]) cv_X8_88 dX8_seatNew_36 rfl (by decide) rfl (Nat.le_of_ble_eq_true rfl) (Nat.le_of_ble_eq_true rfl) (by decide) (nn_rul ((wI σ 299 (Int32.toNatClampNeg (rI σ 296 5)) (-1)).2.2)) (kk_rul ((wI σ 299 (Int32.toNatClampNeg (rI σ 296 5)) (-1)).2.2)) rfl rfl (t_X7_spell ⟨congrArg Prod.fst (shf_fst ha1.1), ha1.2⟩ ⟨congrArg Prod.fst (a_row302 g5.2), (na_row302 g5.2)⟩ h8) ?_
  obtain ⟨g9, h⟩ := gd_inv h
  refine M_iast dX8_seatNew_39 a_301 n_301 g9 ?_
  exact J_ret (v := none) rfl ⟨dX8_seatNew_40, rfl⟩ (jqV_mk h)
