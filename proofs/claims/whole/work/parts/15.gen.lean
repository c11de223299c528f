theorem dX13_tablet_0 : decode cX13_tablet 0 = .ok (.aload_n 0, 1) := by decide +kernel
theorem dX13_tablet_1 : decode cX13_tablet 1 = .ok (.iconst 0, 1) := by decide +kernel
theorem dX13_tablet_2 : decode cX13_tablet 2 = .ok (.putfield 1, 3) := by decide +kernel
theorem dX13_tablet_5 : decode cX13_tablet 5 = .ok (.aload_n 0, 1) := by decide +kernel
theorem dX13_tablet_6 : decode cX13_tablet 6 = .ok (.getfield 243, 3) := by decide +kernel
theorem dX13_tablet_9 : decode cX13_tablet 9 = .ok (.bipush 24, 2) := by decide +kernel
theorem dX13_tablet_11 : decode cX13_tablet 11 = .ok (.if_icmp .ne 5, 3) := by decide +kernel
theorem dX13_tablet_14 : decode cX13_tablet 14 = .ok (.iconst (-1), 1) := by decide +kernel
theorem dX13_tablet_15 : decode cX13_tablet 15 = .ok (.ireturn, 1) := by decide +kernel
theorem dX13_tablet_16 : decode cX13_tablet 16 = .ok (.aload_n 0, 1) := by decide +kernel
theorem dX13_tablet_17 : decode cX13_tablet 17 = .ok (.invokevirtual 246, 3) := by decide +kernel
theorem dX13_tablet_20 : decode cX13_tablet 20 = .ok (.aload_n 0, 1) := by decide +kernel
theorem dX13_tablet_21 : decode cX13_tablet 21 = .ok (.getfield 20, 3) := by decide +kernel
theorem dX13_tablet_24 : decode cX13_tablet 24 = .ok (.bipush 24, 2) := by decide +kernel
theorem dX13_tablet_26 : decode cX13_tablet 26 = .ok (.iconst 0, 1) := by decide +kernel
theorem dX13_tablet_27 : decode cX13_tablet 27 = .ok (.iastore, 1) := by decide +kernel
theorem dX13_tablet_28 : decode cX13_tablet 28 = .ok (.aload_n 0, 1) := by decide +kernel
theorem dX13_tablet_29 : decode cX13_tablet 29 = .ok (.invokevirtual 249, 3) := by decide +kernel
theorem dX13_tablet_32 : decode cX13_tablet 32 = .ok (.aload_n 0, 1) := by decide +kernel
theorem dX13_tablet_33 : decode cX13_tablet 33 = .ok (.invokevirtual 222, 3) := by decide +kernel
theorem dX13_tablet_36 : decode cX13_tablet 36 = .ok (.ifCond .eq 17, 3) := by decide +kernel
theorem dX13_tablet_39 : decode cX13_tablet 39 = .ok (.aload_n 0, 1) := by decide +kernel
theorem dX13_tablet_40 : decode cX13_tablet 40 = .ok (.getfield 189, 3) := by decide +kernel
theorem dX13_tablet_43 : decode cX13_tablet 43 = .ok (.ifCond .eq 10, 3) := by decide +kernel
theorem dX13_tablet_46 : decode cX13_tablet 46 = .ok (.aload_n 0, 1) := by decide +kernel
theorem dX13_tablet_47 : decode cX13_tablet 47 = .ok (.invokevirtual 249, 3) := by decide +kernel
theorem dX13_tablet_50 : decode cX13_tablet 50 = .ok (.goto (-18), 3) := by decide +kernel
theorem dX13_tablet_53 : decode cX13_tablet 53 = .ok (.aload_n 0, 1) := by decide +kernel
theorem dX13_tablet_54 : decode cX13_tablet 54 = .ok (.invokevirtual 252, 3) := by decide +kernel
theorem dX13_tablet_57 : decode cX13_tablet 57 = .ok (.istore_n 1, 1) := by decide +kernel
theorem dX13_tablet_58 : decode cX13_tablet 58 = .ok (.iload_n 1, 1) := by decide +kernel
theorem dX13_tablet_59 : decode cX13_tablet 59 = .ok (.ifCond .ge 5, 3) := by decide +kernel
theorem dX13_tablet_62 : decode cX13_tablet 62 = .ok (.iload_n 1, 1) := by decide +kernel
theorem dX13_tablet_63 : decode cX13_tablet 63 = .ok (.ireturn, 1) := by decide +kernel
theorem dX13_tablet_64 : decode cX13_tablet 64 = .ok (.aload_n 0, 1) := by decide +kernel
theorem dX13_tablet_65 : decode cX13_tablet 65 = .ok (.getfield 243, 3) := by decide +kernel
theorem dX13_tablet_68 : decode cX13_tablet 68 = .ok (.istore_n 2, 1) := by decide +kernel
theorem dX13_tablet_69 : decode cX13_tablet 69 = .ok (.aload_n 0, 1) := by decide +kernel
theorem dX13_tablet_70 : decode cX13_tablet 70 = .ok (.getfield 20, 3) := by decide +kernel
theorem dX13_tablet_73 : decode cX13_tablet 73 = .ok (.iload_n 2, 1) := by decide +kernel
theorem dX13_tablet_74 : decode cX13_tablet 74 = .ok (.aload_n 0, 1) := by decide +kernel
theorem dX13_tablet_75 : decode cX13_tablet 75 = .ok (.getfield 20, 3) := by decide +kernel
theorem dX13_tablet_78 : decode cX13_tablet 78 = .ok (.bipush 24, 2) := by decide +kernel
theorem dX13_tablet_80 : decode cX13_tablet 80 = .ok (.iaload, 1) := by decide +kernel
theorem dX13_tablet_81 : decode cX13_tablet 81 = .ok (.iastore, 1) := by decide +kernel
theorem dX13_tablet_82 : decode cX13_tablet 82 = .ok (.iconst 0, 1) := by decide +kernel
theorem dX13_tablet_83 : decode cX13_tablet 83 = .ok (.istore_n 3, 1) := by decide +kernel
theorem dX13_tablet_84 : decode cX13_tablet 84 = .ok (.iload_n 3, 1) := by decide +kernel
theorem dX13_tablet_85 : decode cX13_tablet 85 = .ok (.bipush 8, 2) := by decide +kernel
theorem dX13_tablet_87 : decode cX13_tablet 87 = .ok (.if_icmp .ge 79, 3) := by decide +kernel
theorem dX13_tablet_90 : decode cX13_tablet 90 = .ok (.aload_n 0, 1) := by decide +kernel
theorem dX13_tablet_91 : decode cX13_tablet 91 = .ok (.getfield 23, 3) := by decide +kernel
theorem dX13_tablet_94 : decode cX13_tablet 94 = .ok (.bipush 8, 2) := by decide +kernel
theorem dX13_tablet_96 : decode cX13_tablet 96 = .ok (.iload_n 2, 1) := by decide +kernel
theorem dX13_tablet_97 : decode cX13_tablet 97 = .ok (.imul, 1) := by decide +kernel
theorem dX13_tablet_98 : decode cX13_tablet 98 = .ok (.iload_n 3, 1) := by decide +kernel
theorem dX13_tablet_99 : decode cX13_tablet 99 = .ok (.iadd, 1) := by decide +kernel
theorem dX13_tablet_100 : decode cX13_tablet 100 = .ok (.aload_n 0, 1) := by decide +kernel
theorem dX13_tablet_101 : decode cX13_tablet 101 = .ok (.getfield 23, 3) := by decide +kernel
theorem dX13_tablet_104 : decode cX13_tablet 104 = .ok (.sipush 192, 3) := by decide +kernel
theorem dX13_tablet_107 : decode cX13_tablet 107 = .ok (.iload_n 3, 1) := by decide +kernel
theorem dX13_tablet_108 : decode cX13_tablet 108 = .ok (.iadd, 1) := by decide +kernel
theorem dX13_tablet_109 : decode cX13_tablet 109 = .ok (.iaload, 1) := by decide +kernel
theorem dX13_tablet_110 : decode cX13_tablet 110 = .ok (.iastore, 1) := by decide +kernel
theorem dX13_tablet_111 : decode cX13_tablet 111 = .ok (.iconst 0, 1) := by decide +kernel
theorem dX13_tablet_112 : decode cX13_tablet 112 = .ok (.istore 4, 2) := by decide +kernel
theorem dX13_tablet_114 : decode cX13_tablet 114 = .ok (.iload 4, 2) := by decide +kernel
theorem dX13_tablet_116 : decode cX13_tablet 116 = .ok (.bipush 6, 2) := by decide +kernel
theorem dX13_tablet_118 : decode cX13_tablet 118 = .ok (.if_icmp .ge 42, 3) := by decide +kernel
theorem dX13_tablet_121 : decode cX13_tablet 121 = .ok (.aload_n 0, 1) := by decide +kernel
theorem dX13_tablet_122 : decode cX13_tablet 122 = .ok (.getfield 26, 3) := by decide +kernel
theorem dX13_tablet_125 : decode cX13_tablet 125 = .ok (.bipush 6, 2) := by decide +kernel
theorem dX13_tablet_127 : decode cX13_tablet 127 = .ok (.bipush 8, 2) := by decide +kernel
theorem dX13_tablet_129 : decode cX13_tablet 129 = .ok (.iload_n 2, 1) := by decide +kernel
theorem dX13_tablet_130 : decode cX13_tablet 130 = .ok (.imul, 1) := by decide +kernel
theorem dX13_tablet_131 : decode cX13_tablet 131 = .ok (.iload_n 3, 1) := by decide +kernel
theorem dX13_tablet_132 : decode cX13_tablet 132 = .ok (.iadd, 1) := by decide +kernel
theorem dX13_tablet_133 : decode cX13_tablet 133 = .ok (.imul, 1) := by decide +kernel
theorem dX13_tablet_134 : decode cX13_tablet 134 = .ok (.iload 4, 2) := by decide +kernel
theorem dX13_tablet_136 : decode cX13_tablet 136 = .ok (.iadd, 1) := by decide +kernel
theorem dX13_tablet_137 : decode cX13_tablet 137 = .ok (.aload_n 0, 1) := by decide +kernel
theorem dX13_tablet_138 : decode cX13_tablet 138 = .ok (.getfield 26, 3) := by decide +kernel
theorem dX13_tablet_141 : decode cX13_tablet 141 = .ok (.bipush 6, 2) := by decide +kernel
theorem dX13_tablet_143 : decode cX13_tablet 143 = .ok (.sipush 192, 3) := by decide +kernel
theorem dX13_tablet_146 : decode cX13_tablet 146 = .ok (.iload_n 3, 1) := by decide +kernel
theorem dX13_tablet_147 : decode cX13_tablet 147 = .ok (.iadd, 1) := by decide +kernel
theorem dX13_tablet_148 : decode cX13_tablet 148 = .ok (.imul, 1) := by decide +kernel
theorem dX13_tablet_149 : decode cX13_tablet 149 = .ok (.iload 4, 2) := by decide +kernel
theorem dX13_tablet_151 : decode cX13_tablet 151 = .ok (.iadd, 1) := by decide +kernel
theorem dX13_tablet_152 : decode cX13_tablet 152 = .ok (.iaload, 1) := by decide +kernel
theorem dX13_tablet_153 : decode cX13_tablet 153 = .ok (.iastore, 1) := by decide +kernel
theorem dX13_tablet_154 : decode cX13_tablet 154 = .ok (.iinc 4 1, 3) := by decide +kernel
theorem dX13_tablet_157 : decode cX13_tablet 157 = .ok (.goto (-43), 3) := by decide +kernel
theorem dX13_tablet_160 : decode cX13_tablet 160 = .ok (.iinc 3 1, 3) := by decide +kernel
theorem dX13_tablet_163 : decode cX13_tablet 163 = .ok (.goto (-79), 3) := by decide +kernel
theorem dX13_tablet_166 : decode cX13_tablet 166 = .ok (.aload_n 0, 1) := by decide +kernel
theorem dX13_tablet_167 : decode cX13_tablet 167 = .ok (.getfield 13, 3) := by decide +kernel
theorem dX13_tablet_170 : decode cX13_tablet 170 = .ok (.iload_n 2, 1) := by decide +kernel
theorem dX13_tablet_171 : decode cX13_tablet 171 = .ok (.aload_n 0, 1) := by decide +kernel
theorem dX13_tablet_172 : decode cX13_tablet 172 = .ok (.getfield 173, 3) := by decide +kernel
theorem dX13_tablet_175 : decode cX13_tablet 175 = .ok (.iastore, 1) := by decide +kernel
theorem dX13_tablet_176 : decode cX13_tablet 176 = .ok (.aload_n 0, 1) := by decide +kernel
theorem dX13_tablet_177 : decode cX13_tablet 177 = .ok (.getfield 17, 3) := by decide +kernel
theorem dX13_tablet_180 : decode cX13_tablet 180 = .ok (.iload_n 2, 1) := by decide +kernel
theorem dX13_tablet_181 : decode cX13_tablet 181 = .ok (.ldc 255, 2) := by decide +kernel
theorem dX13_tablet_183 : decode cX13_tablet 183 = .ok (.iastore, 1) := by decide +kernel
theorem dX13_tablet_184 : decode cX13_tablet 184 = .ok (.aload_n 0, 1) := by decide +kernel
theorem dX13_tablet_185 : decode cX13_tablet 185 = .ok (.dup, 1) := by decide +kernel
theorem dX13_tablet_186 : decode cX13_tablet 186 = .ok (.getfield 243, 3) := by decide +kernel
theorem dX13_tablet_189 : decode cX13_tablet 189 = .ok (.iconst 1, 1) := by decide +kernel
theorem dX13_tablet_190 : decode cX13_tablet 190 = .ok (.iadd, 1) := by decide +kernel
theorem dX13_tablet_191 : decode cX13_tablet 191 = .ok (.putfield 243, 3) := by decide +kernel
theorem dX13_tablet_194 : decode cX13_tablet 194 = .ok (.iload_n 2, 1) := by decide +kernel
theorem dX13_tablet_195 : decode cX13_tablet 195 = .ok (.ireturn, 1) := by decide +kernel
noncomputable def s_X13_tablet_114 (rec84 : Int32 → Int32 → jM → Option (Int32 × jM)) (rec114 : Int32 → Int32 → Int32 → jM → Option (Int32 × jM)) (l2 : Int32) (l3 : Int32) (l4 : Int32) (σ : jM) : Option (Int32 × jM) :=
  (if 6 ≤ l4 then rec84 l2 (l3 + 1) σ else gd (inb ((6 * (192 + l3)) + l4) 1200) (gd (inb ((6 * ((8 * l2) + l3)) + l4) 1200) (rec114 l2 l3 (l4 + 1) (wI σ 329 (Int32.toNatClampNeg ((6 * ((8 * l2) + l3)) + l4)) (rI σ 329 (Int32.toNatClampNeg ((6 * (192 + l3)) + l4)))))))
noncomputable def f_X13_tablet_114 (rec84 : Int32 → Int32 → jM → Option (Int32 × jM)) (n : Nat) : Int32 → Int32 → Int32 → jM → Option (Int32 × jM) := Nat.rec (motive := fun _ => Int32 → Int32 → Int32 → jM → Option (Int32 × jM)) (fun _ _ _ _ => none) (fun _ q => s_X13_tablet_114 rec84 q) n
noncomputable def s_X13_tablet_84  (rec84 : Int32 → Int32 → jM → Option (Int32 × jM)) (l2 : Int32) (l3 : Int32) (σ : jM) : Option (Int32 × jM) :=
  (if 8 ≤ l3 then gd (inb l2 24) (gd (inb l2 24) (some (l2, wI (wI (wI σ 325 (Int32.toNatClampNeg l2) (rI σ 324 1)) 326 (Int32.toNatClampNeg l2) 1000000) 324 2 ((rI (wI (wI σ 325 (Int32.toNatClampNeg l2) (rI σ 324 1)) 326 (Int32.toNatClampNeg l2) 1000000) 324 2) + 1)))) else gd (inb (192 + l3) 200) (gd (inb ((8 * l2) + l3) 200) (f_X13_tablet_114 rec84 Fu l2 l3 0 (wI σ 328 (Int32.toNatClampNeg ((8 * l2) + l3)) (rI σ 328 (Int32.toNatClampNeg (192 + l3)))))))
noncomputable def f_X13_tablet_84  (n : Nat) : Int32 → Int32 → jM → Option (Int32 × jM) := Nat.rec (motive := fun _ => Int32 → Int32 → jM → Option (Int32 × jM)) (fun _ _ _ => none) (fun _ q => s_X13_tablet_84  q) n
noncomputable def f_X13_tablet_53   (σ : jM) : Option (Int32 × jM) :=
  bd (f_X13_stops  σ) (fun r26 σ27 => (if 0 ≤ r26 then gd (inb 24 25) (gd (inb (rI σ27 324 2) 25) (f_X13_tablet_84  Fu (rI σ27 324 2) 0 (wI σ27 327 (Int32.toNatClampNeg (rI σ27 324 2)) (rI σ27 327 (Int32.toNatClampNeg 24))))) else some (r26, σ27)))
noncomputable def s_X13_tablet_32  (rec32 : jM → Option (Int32 × jM))  (σ : jM) : Option (Int32 × jM) :=
  bd (f_X13_isWell  σ) (fun r38 σ39 => (if r38 = 0 then f_X13_tablet_53   σ39 else (if (rI σ39 324 19) = 0 then f_X13_tablet_53   σ39 else bd (f_X13_readRow  σ39) (fun _ σ44 => rec32  σ44))))
noncomputable def f_X13_tablet_32  (n : Nat) : jM → Option (Int32 × jM) := Nat.rec (motive := fun _ => jM → Option (Int32 × jM)) (fun  _ => none) (fun _ q => s_X13_tablet_32  q) n
noncomputable def f_X13_tablet  (σ : jM) : Option (Int32 × jM) :=
  (if (rI (wI σ 324 0 0) 324 2) = 24 then some ((-1), wI σ 324 0 0) else bd (f_X13_starts  (wI σ 324 0 0)) (fun _ σ56 => gd (inb 24 25) (bd (f_X13_readRow  (wI σ56 327 (Int32.toNatClampNeg 24) 0)) (fun _ σ60 => f_X13_tablet_32  Fu  σ60))))
set_option maxRecDepth 20000 in
set_option maxHeartbeats 4000000 in
theorem t_X13_tablet_114 {rec84 : Int32 → Int32 → jM → Option (Int32 × jM)} (hrec84 : ∀ (l2 : Int32) (l3 : Int32) (σ : jM) (r : Int32 × jM), rec84 l2 l3 σ = some r → J mi_X13_tablet 5 0 0 (jqI r) 84 [(0, .ref 324), (2, .int l2), (3, .int l3)] [] (ms σ)) : ∀ (n : Nat) (l2 : Int32) (l3 : Int32) (l4 : Int32) (σ : jM) (r : Int32 × jM), f_X13_tablet_114 rec84 n l2 l3 l4 σ = some r → J mi_X13_tablet 5 0 0 (jqI r) 114 [(0, .ref 324), (2, .int l2), (3, .int l3), (4, .int l4)] [] (ms σ) := by
  intro n
  induction n with
  | zero =>
    intro l2 l3 l4 σ r  h
    have h : (none : Option (Int32 × jM)) = some r := h
    cases h
  | succ n ih =>
    intro l2 l3 l4 σ r  h
    have h : s_X13_tablet_114 rec84 (f_X13_tablet_114 rec84 n) l2 l3 l4 σ = some r := h
    unfold s_X13_tablet_114 at h
    refine J_iload 3 dX13_tablet_114 rfl ?_
    refine J_bipush (v := 6) dX13_tablet_116 (by decide) ?_
    refine J_icmp_ge (tgt := 160) dX13_tablet_118 (by decide) (fun c13 => ?_) (fun c13 => ?_)
    · have h := (if_pos c13).symm.trans h
      refine J_iinc (v := (l3 + 1)) (ls' := [(3, .int (l3 + 1)), (0, .ref 324), (2, .int l2), (4, .int l4)]) 2 dX13_tablet_160 rfl rfl (by decide) rfl ?_
      refine J_goto (tgt := 84) dX13_tablet_163 (by decide) ?_
      refine J_pick [1, 2, 0] rfl ?_
      exact hrec84 _ _ _ _  h
    · have h := (if_neg c13).symm.trans h
      refine J_aload_n 0 dX13_tablet_121 rfl ?_
      refine M_getR gf_X13_26_12 dX13_tablet_122 (g_324_7 _) k_324 n_324 ?_
      refine J_bipush (v := 6) dX13_tablet_125 (by decide) ?_
      refine J_bipush (v := 8) dX13_tablet_127 (by decide) ?_
      refine J_iload_n 1 dX13_tablet_129 rfl ?_
      refine J_imul dX13_tablet_130 ?_
      refine J_iload_n 2 dX13_tablet_131 rfl ?_
      refine J_iadd dX13_tablet_132 ?_
      refine J_imul dX13_tablet_133 ?_
      refine J_iload 3 dX13_tablet_134 rfl ?_
      refine J_iadd dX13_tablet_136 ?_
      refine J_aload_n 0 dX13_tablet_137 rfl ?_
      refine M_getR gf_X13_26_12 dX13_tablet_138 (g_324_7 _) k_324 n_324 ?_
      refine J_bipush (v := 6) dX13_tablet_141 (by decide) ?_
      refine J_sipush (v := 192) dX13_tablet_143 (by decide) ?_
      refine J_iload_n 2 dX13_tablet_146 rfl ?_
      refine J_iadd dX13_tablet_147 ?_
      refine J_imul dX13_tablet_148 ?_
      refine J_iload 3 dX13_tablet_149 rfl ?_
      refine J_iadd dX13_tablet_151 ?_
      obtain ⟨g14, h⟩ := gd_inv h
      refine M_iald dX13_tablet_152 a_329 n_329 g14 ?_
      obtain ⟨g15, h⟩ := gd_inv h
      refine M_iast dX13_tablet_153 a_329 n_329 g15 ?_
      refine J_iinc (v := (l4 + 1)) (ls' := [(4, .int (l4 + 1)), (0, .ref 324), (2, .int l2), (3, .int l3)]) 3 dX13_tablet_154 rfl rfl (by decide) rfl ?_
      refine J_goto (tgt := 114) dX13_tablet_157 (by decide) ?_
      refine J_pick [1, 2, 3, 0] rfl ?_
      exact ih _ _ _ _ _  h
set_option maxRecDepth 20000 in
set_option maxHeartbeats 4000000 in
theorem t_X13_tablet_84  : ∀ (n : Nat) (l2 : Int32) (l3 : Int32) (σ : jM) (r : Int32 × jM), f_X13_tablet_84  n l2 l3 σ = some r → J mi_X13_tablet 5 0 0 (jqI r) 84 [(0, .ref 324), (2, .int l2), (3, .int l3)] [] (ms σ) := by
  intro n
  induction n with
  | zero =>
    intro l2 l3 σ r  h
    have h : (none : Option (Int32 × jM)) = some r := h
    cases h
  | succ n ih =>
    intro l2 l3 σ r  h
    have h : s_X13_tablet_84  (f_X13_tablet_84  n) l2 l3 σ = some r := h
    unfold s_X13_tablet_84 at h
    refine J_iload_n 2 dX13_tablet_84 rfl ?_
    refine J_bipush (v := 8) dX13_tablet_85 (by decide) ?_
    refine J_icmp_ge (tgt := 166) dX13_tablet_87 (by decide) (fun c21 => ?_) (fun c21 => ?_)
    · have h := (if_pos c21).symm.trans h
      refine J_aload_n 0 dX13_tablet_166 rfl ?_
      refine M_getR gf_X13_13_12 dX13_tablet_167 (g_324_3 _) k_324 n_324 ?_
      refine J_iload_n 1 dX13_tablet_170 rfl ?_
      refine J_aload_n 0 dX13_tablet_171 rfl ?_
      refine M_getI gf_X13_173_12 dX13_tablet_172 k_324 n_324 ?_
      obtain ⟨g22, h⟩ := gd_inv h
      refine M_iast dX13_tablet_175 a_325 n_325 g22 ?_
      refine J_aload_n 0 dX13_tablet_176 rfl ?_
      refine M_getR gf_X13_17_12 dX13_tablet_177 (g_324_4 _) k_324 n_324 ?_
      refine J_iload_n 1 dX13_tablet_180 rfl ?_
      refine J_ldc dX13_tablet_181 ct_X13_255 ?_
      obtain ⟨g23, h⟩ := gd_inv h
      refine M_iast dX13_tablet_183 a_326 n_326 g23 ?_
      refine J_aload_n 0 dX13_tablet_184 rfl ?_
      refine J_dup dX13_tablet_185 rfl ?_
      refine M_getI gf_X13_243_12 dX13_tablet_186 k_324 n_324 ?_
      refine J_iconst (v := 1) dX13_tablet_189 (by decide) ?_
      refine J_iadd dX13_tablet_190 ?_
      refine M_putI pf_X13_243_12 dX13_tablet_191 k_324 n_324 ⟨rfl, rfl⟩ ?_
      refine J_iload_n 1 dX13_tablet_194 rfl ?_
      exact J_ret (v := some (.int l2)) rfl ⟨dX13_tablet_195, Or.inl rfl⟩ (jqI_mk h)
    · have h := (if_neg c21).symm.trans h
      refine J_aload_n 0 dX13_tablet_90 rfl ?_
      refine M_getR gf_X13_23_12 dX13_tablet_91 (g_324_6 _) k_324 n_324 ?_
      refine J_bipush (v := 8) dX13_tablet_94 (by decide) ?_
      refine J_iload_n 1 dX13_tablet_96 rfl ?_
      refine J_imul dX13_tablet_97 ?_
      refine J_iload_n 2 dX13_tablet_98 rfl ?_
      refine J_iadd dX13_tablet_99 ?_
      refine J_aload_n 0 dX13_tablet_100 rfl ?_
      refine M_getR gf_X13_23_12 dX13_tablet_101 (g_324_6 _) k_324 n_324 ?_
      refine J_sipush (v := 192) dX13_tablet_104 (by decide) ?_
      refine J_iload_n 2 dX13_tablet_107 rfl ?_
      refine J_iadd dX13_tablet_108 ?_
      obtain ⟨g24, h⟩ := gd_inv h
      refine M_iald dX13_tablet_109 a_328 n_328 g24 ?_
      obtain ⟨g25, h⟩ := gd_inv h
      refine M_iast dX13_tablet_110 a_328 n_328 g25 ?_
      refine J_iconst (v := 0) dX13_tablet_111 (by decide) ?_
      refine J_istore (i := 4) (ls' := [(4, .int 0), (0, .ref 324), (2, .int l2), (3, .int l3)]) dX13_tablet_112 (by decide) rfl ?_
      refine J_pick [1, 2, 3, 0] rfl ?_
      exact t_X13_tablet_114 ih _ _ _ _ _ _  h
set_option maxRecDepth 20000 in
set_option maxHeartbeats 4000000 in
theorem t_X13_tablet_53   (σ : jM) (r : Int32 × jM)  (h : f_X13_tablet_53   σ = some r) : J mi_X13_tablet 5 0 0 (jqI r) 53 [(0, .ref 324)] [] (ms σ) := by
  unfold f_X13_tablet_53 at h
  refine J_aload_n 0 dX13_tablet_53 rfl ?_
  obtain ⟨r32, σ33, h34, h⟩ := bd_inv h
  refine M_callVI (d' := 2) (k := 324) (As := []) (st := []) cv_X13_252 dX13_tablet_54 rfl (by decide) rfl (Nat.le_of_ble_eq_true rfl) (Nat.le_of_ble_eq_true rfl) (by decide) n_324 k_324 rfl rfl (t_X13_stops  h34) ?_
  refine J_istore_n (i := 1) (ls' := [(1, .int r32), (0, .ref 324)]) dX13_tablet_57 rfl (by decide) rfl ?_
  refine J_iload_n 0 dX13_tablet_58 rfl ?_
  refine J_if_ge (tgt := 64) dX13_tablet_59 (by decide) (fun c35 => ?_) (fun c35 => ?_)
  · have h := (if_pos c35).symm.trans h
    refine J_aload_n 1 dX13_tablet_64 rfl ?_
    refine M_getI gf_X13_243_12 dX13_tablet_65 k_324 n_324 ?_
    refine J_istore_n (i := 2) (ls' := [(2, .int (rI σ33 324 2)), (1, .int r32), (0, .ref 324)]) dX13_tablet_68 rfl (by decide) rfl ?_
    refine J_aload_n 2 dX13_tablet_69 rfl ?_
    refine M_getR gf_X13_20_12 dX13_tablet_70 (g_324_5 _) k_324 n_324 ?_
    refine J_iload_n 0 dX13_tablet_73 rfl ?_
    refine J_aload_n 2 dX13_tablet_74 rfl ?_
    refine M_getR gf_X13_20_12 dX13_tablet_75 (g_324_5 _) k_324 n_324 ?_
    refine J_bipush (v := 24) dX13_tablet_78 (by decide) ?_
    obtain ⟨g36, h⟩ := gd_inv h
    refine M_iald dX13_tablet_80 a_327 n_327 g36 ?_
    obtain ⟨g37, h⟩ := gd_inv h
    refine M_iast dX13_tablet_81 a_327 n_327 g37 ?_
    refine J_iconst (v := 0) dX13_tablet_82 (by decide) ?_
    refine J_istore_n (i := 3) (ls' := [(3, .int 0), (2, .int (rI σ33 324 2)), (1, .int r32), (0, .ref 324)]) dX13_tablet_83 rfl (by decide) rfl ?_
    refine J_pick [3, 1, 0] rfl ?_
    exact t_X13_tablet_84  _ _ _ _ _  h
  · have h := (if_neg c35).symm.trans h
    refine J_iload_n 0 dX13_tablet_62 rfl ?_
    exact J_ret (v := some (.int r32)) rfl ⟨dX13_tablet_63, Or.inl rfl⟩ (jqI_mk h)
set_option maxRecDepth 20000 in
set_option maxHeartbeats 4000000 in
theorem t_X13_tablet_32  : ∀ (n : Nat)  (σ : jM) (r : Int32 × jM), f_X13_tablet_32  n  σ = some r → J mi_X13_tablet 5 0 0 (jqI r) 32 [(0, .ref 324)] [] (ms σ) := by
  intro n
  induction n with
  | zero =>
    intro  σ r  h
    have h : (none : Option (Int32 × jM)) = some r := h
    cases h
  | succ n ih =>
    intro  σ r  h
    have h : s_X13_tablet_32  (f_X13_tablet_32  n)  σ = some r := h
    unfold s_X13_tablet_32 at h
    refine J_aload_n 0 dX13_tablet_32 rfl ?_
    obtain ⟨r46, σ47, h48, h⟩ := bd_inv h
    refine M_callVI (d' := 1) (k := 324) (As := []) (st := []) cv_X13_222 dX13_tablet_33 rfl (by decide) rfl (Nat.le_of_ble_eq_true rfl) (Nat.le_of_ble_eq_true rfl) (by decide) n_324 k_324 rfl rfl (t_X13_isWell  h48) ?_
    refine J_if_eq (tgt := 53) dX13_tablet_36 (by decide) (fun c49 => ?_) (fun c49 => ?_)
    · have h := (if_pos c49).symm.trans h
      exact t_X13_tablet_53   _ _  h
    · have h := (if_neg c49).symm.trans h
      refine J_aload_n 0 dX13_tablet_39 rfl ?_
      refine M_getI gf_X13_189_12 dX13_tablet_40 k_324 n_324 ?_
      refine J_if_eq (tgt := 53) dX13_tablet_43 (by decide) (fun c50 => ?_) (fun c50 => ?_)
      · have h := (if_pos c50).symm.trans h
        exact t_X13_tablet_53   _ _  h
      · have h := (if_neg c50).symm.trans h
        refine J_aload_n 0 dX13_tablet_46 rfl ?_
        obtain ⟨_, σ52, h53, h⟩ := bd_inv h
        refine M_callVV (d' := 4) (k := 324) (As := []) (st := []) cv_X13_249 dX13_tablet_47 rfl (by decide) rfl (Nat.le_of_ble_eq_true rfl) (Nat.le_of_ble_eq_true rfl) (by decide) n_324 k_324 rfl rfl (t_X13_readRow  h53) ?_
        refine J_goto (tgt := 32) dX13_tablet_50 (by decide) ?_
        exact ih  _ _  h
set_option maxRecDepth 20000 in
set_option maxHeartbeats 4000000 in
theorem t_X13_tablet  {σ : jM} {r : Int32 × jM}  (h : f_X13_tablet  σ = some r) : J mi_X13_tablet 5 0 0 (jqI r) 0 [(0, .ref 324)] [] (ms σ) := by
  unfold f_X13_tablet at h
  refine J_aload_n 0 dX13_tablet_0 rfl ?_
  refine J_iconst (v := 0) dX13_tablet_1 (by decide) ?_
  refine M_putI pf_X13_1_12 dX13_tablet_2 k_324 n_324 ⟨rfl, rfl⟩ ?_
  refine J_aload_n 0 dX13_tablet_5 rfl ?_
  refine M_getI gf_X13_243_12 dX13_tablet_6 k_324 n_324 ?_
  refine J_bipush (v := 24) dX13_tablet_9 (by decide) ?_
  refine J_icmp_ne (tgt := 16) dX13_tablet_11 (by decide) (fun c54 => ?_) (fun c54 => ?_)
  · have h := (if_neg c54).symm.trans h
    refine J_aload_n 0 dX13_tablet_16 rfl ?_
    obtain ⟨_, σ56, h57, h⟩ := bd_inv h
    refine M_callVV (d' := 3) (k := 324) (As := []) (st := []) cv_X13_246 dX13_tablet_17 rfl (by decide) rfl (Nat.le_of_ble_eq_true rfl) (Nat.le_of_ble_eq_true rfl) (by decide) n_324 k_324 rfl rfl (t_X13_starts  h57) ?_
    refine J_aload_n 0 dX13_tablet_20 rfl ?_
    refine M_getR gf_X13_20_12 dX13_tablet_21 (g_324_5 _) k_324 n_324 ?_
    refine J_bipush (v := 24) dX13_tablet_24 (by decide) ?_
    refine J_iconst (v := 0) dX13_tablet_26 (by decide) ?_
    obtain ⟨g58, h⟩ := gd_inv h
    refine M_iast dX13_tablet_27 a_327 n_327 g58 ?_
    refine J_aload_n 0 dX13_tablet_28 rfl ?_
    obtain ⟨_, σ60, h61, h⟩ := bd_inv h
    refine M_callVV (d' := 4) (k := 324) (As := []) (st := []) cv_X13_249 dX13_tablet_29 rfl (by decide) rfl (Nat.le_of_ble_eq_true rfl) (Nat.le_of_ble_eq_true rfl) (by decide) n_324 k_324 rfl rfl (t_X13_readRow  h61) ?_
    exact t_X13_tablet_32  _  _ _  h
  · have h := (if_pos c54).symm.trans h
    refine J_iconst (v := (-1)) dX13_tablet_14 (by decide) ?_
    exact J_ret (v := some (.int (-1))) rfl ⟨dX13_tablet_15, Or.inl rfl⟩ (jqI_mk h)
theorem dX13_vowel_0 : decode cX13_vowel 0 = .ok (.iload_n 0, 1) := by decide +kernel
theorem dX13_vowel_1 : decode cX13_vowel 1 = .ok (.bipush 97, 2) := by decide +kernel
theorem dX13_vowel_3 : decode cX13_vowel 3 = .ok (.if_icmp .ne 7, 3) := by decide +kernel
theorem dX13_vowel_6 : decode cX13_vowel 6 = .ok (.iconst 0, 1) := by decide +kernel
theorem dX13_vowel_7 : decode cX13_vowel 7 = .ok (.goto 44, 3) := by decide +kernel
theorem dX13_vowel_10 : decode cX13_vowel 10 = .ok (.iload_n 0, 1) := by decide +kernel
theorem dX13_vowel_11 : decode cX13_vowel 11 = .ok (.bipush 101, 2) := by decide +kernel
theorem dX13_vowel_13 : decode cX13_vowel 13 = .ok (.if_icmp .ne 7, 3) := by decide +kernel
theorem dX13_vowel_16 : decode cX13_vowel 16 = .ok (.iconst 1, 1) := by decide +kernel
theorem dX13_vowel_17 : decode cX13_vowel 17 = .ok (.goto 34, 3) := by decide +kernel
theorem dX13_vowel_20 : decode cX13_vowel 20 = .ok (.iload_n 0, 1) := by decide +kernel
theorem dX13_vowel_21 : decode cX13_vowel 21 = .ok (.bipush 105, 2) := by decide +kernel
theorem dX13_vowel_23 : decode cX13_vowel 23 = .ok (.if_icmp .ne 7, 3) := by decide +kernel
theorem dX13_vowel_26 : decode cX13_vowel 26 = .ok (.iconst 2, 1) := by decide +kernel
theorem dX13_vowel_27 : decode cX13_vowel 27 = .ok (.goto 24, 3) := by decide +kernel
theorem dX13_vowel_30 : decode cX13_vowel 30 = .ok (.iload_n 0, 1) := by decide +kernel
theorem dX13_vowel_31 : decode cX13_vowel 31 = .ok (.bipush 111, 2) := by decide +kernel
theorem dX13_vowel_33 : decode cX13_vowel 33 = .ok (.if_icmp .ne 7, 3) := by decide +kernel
theorem dX13_vowel_36 : decode cX13_vowel 36 = .ok (.iconst 3, 1) := by decide +kernel
theorem dX13_vowel_37 : decode cX13_vowel 37 = .ok (.goto 14, 3) := by decide +kernel
theorem dX13_vowel_40 : decode cX13_vowel 40 = .ok (.iload_n 0, 1) := by decide +kernel
theorem dX13_vowel_41 : decode cX13_vowel 41 = .ok (.bipush 117, 2) := by decide +kernel
theorem dX13_vowel_43 : decode cX13_vowel 43 = .ok (.if_icmp .ne 7, 3) := by decide +kernel
theorem dX13_vowel_46 : decode cX13_vowel 46 = .ok (.iconst 4, 1) := by decide +kernel
theorem dX13_vowel_47 : decode cX13_vowel 47 = .ok (.goto 4, 3) := by decide +kernel
theorem dX13_vowel_50 : decode cX13_vowel 50 = .ok (.iconst (-1), 1) := by decide +kernel
theorem dX13_vowel_51 : decode cX13_vowel 51 = .ok (.ireturn, 1) := by decide +kernel
noncomputable def f_X13_vowel_51  (s0 : Int32) (σ : jM) : Option (Int32 × jM) :=
  some (s0, σ)
noncomputable def f_X13_vowel (a0 : Int32) (σ : jM) : Option (Int32 × jM) :=
  (if a0 = 97 then f_X13_vowel_51  0 σ else (if a0 = 101 then f_X13_vowel_51  1 σ else (if a0 = 105 then f_X13_vowel_51  2 σ else (if a0 = 111 then f_X13_vowel_51  3 σ else (if a0 = 117 then f_X13_vowel_51  4 σ else f_X13_vowel_51  (-1) σ)))))
set_option maxRecDepth 20000 in
set_option maxHeartbeats 4000000 in
theorem t_X13_vowel_51  (s0 : Int32) (σ : jM) (r : Int32 × jM)  (h : f_X13_vowel_51  s0 σ = some r) : J mi_X13_vowel 1 0 0 (jqI r) 51 [] [.int s0] (ms σ) := by
  unfold f_X13_vowel_51 at h
  exact J_ret (v := some (.int s0)) rfl ⟨dX13_vowel_51, Or.inl rfl⟩ (jqI_mk h)
set_option maxRecDepth 20000 in
set_option maxHeartbeats 4000000 in
theorem t_X13_vowel {a0 : Int32} {σ : jM} {r : Int32 × jM}  (h : f_X13_vowel a0 σ = some r) : J mi_X13_vowel 1 0 0 (jqI r) 0 [(0, .int a0)] [] (ms σ) := by
  unfold f_X13_vowel at h
  refine J_iload_n 0 dX13_vowel_0 rfl ?_
  refine J_bipush (v := 97) dX13_vowel_1 (by decide) ?_
  refine J_icmp_ne (tgt := 10) dX13_vowel_3 (by decide) (fun c1 => ?_) (fun c1 => ?_)
  · have h := (if_neg c1).symm.trans h
    refine J_iload_n 0 dX13_vowel_10 rfl ?_
    refine J_bipush (v := 101) dX13_vowel_11 (by decide) ?_
    refine J_icmp_ne (tgt := 20) dX13_vowel_13 (by decide) (fun c2 => ?_) (fun c2 => ?_)
    · have h := (if_neg c2).symm.trans h
      refine J_iload_n 0 dX13_vowel_20 rfl ?_
      refine J_bipush (v := 105) dX13_vowel_21 (by decide) ?_
      refine J_icmp_ne (tgt := 30) dX13_vowel_23 (by decide) (fun c3 => ?_) (fun c3 => ?_)
      · have h := (if_neg c3).symm.trans h
        refine J_iload_n 0 dX13_vowel_30 rfl ?_
        refine J_bipush (v := 111) dX13_vowel_31 (by decide) ?_
        refine J_icmp_ne (tgt := 40) dX13_vowel_33 (by decide) (fun c4 => ?_) (fun c4 => ?_)
        · have h := (if_neg c4).symm.trans h
          refine J_iload_n 0 dX13_vowel_40 rfl ?_
          refine J_bipush (v := 117) dX13_vowel_41 (by decide) ?_
          refine J_icmp_ne (tgt := 50) dX13_vowel_43 (by decide) (fun c5 => ?_) (fun c5 => ?_)
          · have h := (if_neg c5).symm.trans h
            refine J_iconst (v := (-1)) dX13_vowel_50 (by decide) ?_
            refine J_pick [] rfl ?_
            exact t_X13_vowel_51  _ _ _  h
          · have h := (if_pos c5).symm.trans h
            refine J_iconst (v := 4) dX13_vowel_46 (by decide) ?_
            refine J_goto (tgt := 51) dX13_vowel_47 (by decide) ?_
            refine J_pick [] rfl ?_
            exact t_X13_vowel_51  _ _ _  h
        · have h := (if_pos c4).symm.trans h
          refine J_iconst (v := 3) dX13_vowel_36 (by decide) ?_
          refine J_goto (tgt := 51) dX13_vowel_37 (by decide) ?_
          refine J_pick [] rfl ?_
          exact t_X13_vowel_51  _ _ _  h
      · have h := (if_pos c3).symm.trans h
        refine J_iconst (v := 2) dX13_vowel_26 (by decide) ?_
        refine J_goto (tgt := 51) dX13_vowel_27 (by decide) ?_
        refine J_pick [] rfl ?_
        exact t_X13_vowel_51  _ _ _  h
    · have h := (if_pos c2).symm.trans h
      refine J_iconst (v := 1) dX13_vowel_16 (by decide) ?_
      refine J_goto (tgt := 51) dX13_vowel_17 (by decide) ?_
      refine J_pick [] rfl ?_
      exact t_X13_vowel_51  _ _ _  h
  · have h := (if_pos c1).symm.trans h
    refine J_iconst (v := 0) dX13_vowel_6 (by decide) ?_
    refine J_goto (tgt := 51) dX13_vowel_7 (by decide) ?_
    refine J_pick [] rfl ?_
    exact t_X13_vowel_51  _ _ _  h
theorem dX13_letterHere_0 : decode cX13_letterHere 0 = .ok (.aload_n 0, 1) := by decide +kernel
theorem dX13_letterHere_1 : decode cX13_letterHere 1 = .ok (.invokevirtual 222, 3) := by decide +kernel
theorem dX13_letterHere_4 : decode cX13_letterHere 4 = .ok (.ifCond .eq 29, 3) := by decide +kernel
theorem dX13_letterHere_7 : decode cX13_letterHere 7 = .ok (.aload_n 0, 1) := by decide +kernel
theorem dX13_letterHere_8 : decode cX13_letterHere 8 = .ok (.getfield 189, 3) := by decide +kernel
theorem dX13_letterHere_11 : decode cX13_letterHere 11 = .ok (.iconst 3, 1) := by decide +kernel
theorem dX13_letterHere_12 : decode cX13_letterHere 12 = .ok (.if_icmp .ne 16, 3) := by decide +kernel
theorem dX13_letterHere_15 : decode cX13_letterHere 15 = .ok (.aload_n 0, 1) := by decide +kernel
theorem dX13_letterHere_16 : decode cX13_letterHere 16 = .ok (.getfield 183, 3) := by decide +kernel
theorem dX13_letterHere_19 : decode cX13_letterHere 19 = .ok (.aload_n 0, 1) := by decide +kernel
theorem dX13_letterHere_20 : decode cX13_letterHere 20 = .ok (.getfield 186, 3) := by decide +kernel
theorem dX13_letterHere_23 : decode cX13_letterHere 23 = .ok (.isub, 1) := by decide +kernel
theorem dX13_letterHere_24 : decode cX13_letterHere 24 = .ok (.iconst 1, 1) := by decide +kernel
theorem dX13_letterHere_25 : decode cX13_letterHere 25 = .ok (.if_icmp .eq 8, 3) := by decide +kernel
theorem dX13_letterHere_28 : decode cX13_letterHere 28 = .ok (.aload_n 0, 1) := by decide +kernel
theorem dX13_letterHere_29 : decode cX13_letterHere 29 = .ok (.iconst 1, 1) := by decide +kernel
theorem dX13_letterHere_30 : decode cX13_letterHere 30 = .ok (.invokevirtual 232, 3) := by decide +kernel
theorem dX13_letterHere_33 : decode cX13_letterHere 33 = .ok (.aload_n 0, 1) := by decide +kernel
theorem dX13_letterHere_34 : decode cX13_letterHere 34 = .ok (.invokevirtual 222, 3) := by decide +kernel
theorem dX13_letterHere_37 : decode cX13_letterHere 37 = .ok (.ifCond .eq 10, 3) := by decide +kernel
theorem dX13_letterHere_40 : decode cX13_letterHere 40 = .ok (.aload_n 0, 1) := by decide +kernel
theorem dX13_letterHere_41 : decode cX13_letterHere 41 = .ok (.getfield 192, 3) := by decide +kernel
theorem dX13_letterHere_44 : decode cX13_letterHere 44 = .ok (.goto 5, 3) := by decide +kernel
theorem dX13_letterHere_47 : decode cX13_letterHere 47 = .ok (.bipush 97, 2) := by decide +kernel
theorem dX13_letterHere_49 : decode cX13_letterHere 49 = .ok (.ireturn, 1) := by decide +kernel
noncomputable def f_X13_letterHere_49  (s0 : Int32) (σ : jM) : Option (Int32 × jM) :=
  some (s0, σ)
noncomputable def f_X13_letterHere_33   (σ : jM) : Option (Int32 × jM) :=
  bd (f_X13_isWell  σ) (fun r1 σ2 => (if r1 = 0 then f_X13_letterHere_49  97 σ2 else f_X13_letterHere_49  (rI σ2 324 20) σ2))
noncomputable def f_X13_letterHere_28   (σ : jM) : Option (Int32 × jM) :=
  bd (f_X13_fails 1 σ) (fun _ σ10 => f_X13_letterHere_33   σ10)
noncomputable def f_X13_letterHere  (σ : jM) : Option (Int32 × jM) :=
  bd (f_X13_isWell  σ) (fun r15 σ16 => (if r15 = 0 then f_X13_letterHere_33   σ16 else (if (rI σ16 324 19) = 3 then (if ((rI σ16 324 17) - (rI σ16 324 18)) = 1 then f_X13_letterHere_33   σ16 else f_X13_letterHere_28   σ16) else f_X13_letterHere_28   σ16)))
set_option maxRecDepth 20000 in
set_option maxHeartbeats 4000000 in
theorem t_X13_letterHere_49  (s0 : Int32) (σ : jM) (r : Int32 × jM)  (h : f_X13_letterHere_49  s0 σ = some r) : J mi_X13_letterHere 2 0 0 (jqI r) 49 [] [.int s0] (ms σ) := by
  unfold f_X13_letterHere_49 at h
  exact J_ret (v := some (.int s0)) rfl ⟨dX13_letterHere_49, Or.inl rfl⟩ (jqI_mk h)
set_option maxRecDepth 20000 in
set_option maxHeartbeats 4000000 in
theorem t_X13_letterHere_33   (σ : jM) (r : Int32 × jM)  (h : f_X13_letterHere_33   σ = some r) : J mi_X13_letterHere 2 0 0 (jqI r) 33 [(0, .ref 324)] [] (ms σ) := by
  unfold f_X13_letterHere_33 at h
  refine J_aload_n 0 dX13_letterHere_33 rfl ?_
  obtain ⟨r5, σ6, h7, h⟩ := bd_inv h
  refine M_callVI (d' := 1) (k := 324) (As := []) (st := []) cv_X13_222 dX13_letterHere_34 rfl (by decide) rfl (Nat.le_of_ble_eq_true rfl) (Nat.le_of_ble_eq_true rfl) (by decide) n_324 k_324 rfl rfl (t_X13_isWell  h7) ?_
  refine J_if_eq (tgt := 47) dX13_letterHere_37 (by decide) (fun c8 => ?_) (fun c8 => ?_)
  · have h := (if_pos c8).symm.trans h
    refine J_bipush (v := 97) dX13_letterHere_47 (by decide) ?_
    refine J_pick [] rfl ?_
    exact t_X13_letterHere_49  _ _ _  h
  · have h := (if_neg c8).symm.trans h
    refine J_aload_n 0 dX13_letterHere_40 rfl ?_
    refine M_getI gf_X13_192_12 dX13_letterHere_41 k_324 n_324 ?_
    refine J_goto (tgt := 49) dX13_letterHere_44 (by decide) ?_
    refine J_pick [] rfl ?_
    exact t_X13_letterHere_49  _ _ _  h
set_option maxRecDepth 20000 in
set_option maxHeartbeats 4000000 in
theorem t_X13_letterHere_28   (σ : jM) (r : Int32 × jM)  (h : f_X13_letterHere_28   σ = some r) : J mi_X13_letterHere 2 0 0 (jqI r) 28 [(0, .ref 324)] [] (ms σ) := by
  unfold f_X13_letterHere_28 at h
  refine J_aload_n 0 dX13_letterHere_28 rfl ?_
  refine J_iconst (v := 1) dX13_letterHere_29 (by decide) ?_
  obtain ⟨_, σ13, h14, h⟩ := bd_inv h
  refine M_callVV (d' := 1) (k := 324) (As := [.int 1]) (st := []) cv_X13_232 dX13_letterHere_30 rfl (by decide) rfl (Nat.le_of_ble_eq_true rfl) (Nat.le_of_ble_eq_true rfl) (by decide) n_324 k_324 rfl rfl (t_X13_fails  h14) ?_
  exact t_X13_letterHere_33   _ _  h
set_option maxRecDepth 20000 in
set_option maxHeartbeats 4000000 in
theorem t_X13_letterHere  {σ : jM} {r : Int32 × jM}  (h : f_X13_letterHere  σ = some r) : J mi_X13_letterHere 2 0 0 (jqI r) 0 [(0, .ref 324)] [] (ms σ) := by
  unfold f_X13_letterHere at h
  refine J_aload_n 0 dX13_letterHere_0 rfl ?_
  obtain ⟨r15, σ16, h17, h⟩ := bd_inv h
  refine M_callVI (d' := 1) (k := 324) (As := []) (st := []) cv_X13_222 dX13_letterHere_1 rfl (by decide) rfl (Nat.le_of_ble_eq_true rfl) (Nat.le_of_ble_eq_true rfl) (by decide) n_324 k_324 rfl rfl (t_X13_isWell  h17) ?_
  refine J_if_eq (tgt := 33) dX13_letterHere_4 (by decide) (fun c18 => ?_) (fun c18 => ?_)
  · have h := (if_pos c18).symm.trans h
    exact t_X13_letterHere_33   _ _  h
  · have h := (if_neg c18).symm.trans h
    refine J_aload_n 0 dX13_letterHere_7 rfl ?_
    refine M_getI gf_X13_189_12 dX13_letterHere_8 k_324 n_324 ?_
    refine J_iconst (v := 3) dX13_letterHere_11 (by decide) ?_
    refine J_icmp_ne (tgt := 28) dX13_letterHere_12 (by decide) (fun c19 => ?_) (fun c19 => ?_)
    · have h := (if_neg c19).symm.trans h
      exact t_X13_letterHere_28   _ _  h
    · have h := (if_pos c19).symm.trans h
      refine J_aload_n 0 dX13_letterHere_15 rfl ?_
      refine M_getI gf_X13_183_12 dX13_letterHere_16 k_324 n_324 ?_
      refine J_aload_n 0 dX13_letterHere_19 rfl ?_
      refine M_getI gf_X13_186_12 dX13_letterHere_20 k_324 n_324 ?_
      refine J_isub dX13_letterHere_23 ?_
      refine J_iconst (v := 1) dX13_letterHere_24 (by decide) ?_
      refine J_icmp_eq (tgt := 33) dX13_letterHere_25 (by decide) (fun c20 => ?_) (fun c20 => ?_)
      · have h := (if_pos c20).symm.trans h
        exact t_X13_letterHere_33   _ _  h
      · have h := (if_neg c20).symm.trans h
        exact t_X13_letterHere_28   _ _  h
theorem dX13_readClause_0 : decode cX13_readClause 0 = .ok (.aload_n 0, 1) := by decide +kernel
theorem dX13_readClause_1 : decode cX13_readClause 1 = .ok (.ldc_w 256, 3) := by decide +kernel
theorem dX13_readClause_4 : decode cX13_readClause 4 = .ok (.invokevirtual 258, 3) := by decide +kernel
theorem dX13_readClause_7 : decode cX13_readClause 7 = .ok (.ifCond .eq 7, 3) := by decide +kernel
theorem dX13_readClause_10 : decode cX13_readClause 10 = .ok (.iconst 0, 1) := by decide +kernel
theorem dX13_readClause_11 : decode cX13_readClause 11 = .ok (.goto 46, 3) := by decide +kernel
theorem dX13_readClause_14 : decode cX13_readClause 14 = .ok (.aload_n 0, 1) := by decide +kernel
theorem dX13_readClause_15 : decode cX13_readClause 15 = .ok (.ldc_w 262, 3) := by decide +kernel
theorem dX13_readClause_18 : decode cX13_readClause 18 = .ok (.invokevirtual 258, 3) := by decide +kernel
theorem dX13_readClause_21 : decode cX13_readClause 21 = .ok (.ifCond .eq 7, 3) := by decide +kernel
theorem dX13_readClause_24 : decode cX13_readClause 24 = .ok (.iconst 1, 1) := by decide +kernel
theorem dX13_readClause_25 : decode cX13_readClause 25 = .ok (.goto 32, 3) := by decide +kernel
theorem dX13_readClause_28 : decode cX13_readClause 28 = .ok (.aload_n 0, 1) := by decide +kernel
theorem dX13_readClause_29 : decode cX13_readClause 29 = .ok (.ldc_w 264, 3) := by decide +kernel
theorem dX13_readClause_32 : decode cX13_readClause 32 = .ok (.invokevirtual 258, 3) := by decide +kernel
theorem dX13_readClause_35 : decode cX13_readClause 35 = .ok (.ifCond .eq 7, 3) := by decide +kernel
theorem dX13_readClause_38 : decode cX13_readClause 38 = .ok (.iconst 2, 1) := by decide +kernel
theorem dX13_readClause_39 : decode cX13_readClause 39 = .ok (.goto 18, 3) := by decide +kernel
theorem dX13_readClause_42 : decode cX13_readClause 42 = .ok (.aload_n 0, 1) := by decide +kernel
theorem dX13_readClause_43 : decode cX13_readClause 43 = .ok (.ldc_w 266, 3) := by decide +kernel
theorem dX13_readClause_46 : decode cX13_readClause 46 = .ok (.invokevirtual 258, 3) := by decide +kernel
theorem dX13_readClause_49 : decode cX13_readClause 49 = .ok (.ifCond .eq 7, 3) := by decide +kernel
theorem dX13_readClause_52 : decode cX13_readClause 52 = .ok (.iconst 3, 1) := by decide +kernel
theorem dX13_readClause_53 : decode cX13_readClause 53 = .ok (.goto 4, 3) := by decide +kernel
theorem dX13_readClause_56 : decode cX13_readClause 56 = .ok (.iconst (-1), 1) := by decide +kernel
theorem dX13_readClause_57 : decode cX13_readClause 57 = .ok (.istore_n 1, 1) := by decide +kernel
theorem dX13_readClause_58 : decode cX13_readClause 58 = .ok (.iload_n 1, 1) := by decide +kernel
theorem dX13_readClause_59 : decode cX13_readClause 59 = .ok (.iconst (-1), 1) := by decide +kernel
theorem dX13_readClause_60 : decode cX13_readClause 60 = .ok (.if_icmp .ne 11, 3) := by decide +kernel
theorem dX13_readClause_63 : decode cX13_readClause 63 = .ok (.aload_n 0, 1) := by decide +kernel
theorem dX13_readClause_64 : decode cX13_readClause 64 = .ok (.iconst 1, 1) := by decide +kernel
theorem dX13_readClause_65 : decode cX13_readClause 65 = .ok (.invokevirtual 232, 3) := by decide +kernel
theorem dX13_readClause_68 : decode cX13_readClause 68 = .ok (.goto 20, 3) := by decide +kernel
theorem dX13_readClause_71 : decode cX13_readClause 71 = .ok (.aload_n 0, 1) := by decide +kernel
theorem dX13_readClause_72 : decode cX13_readClause 72 = .ok (.getfield 32, 3) := by decide +kernel
theorem dX13_readClause_75 : decode cX13_readClause 75 = .ok (.bipush 10, 2) := by decide +kernel
theorem dX13_readClause_77 : decode cX13_readClause 77 = .ok (.iaload, 1) := by decide +kernel
theorem dX13_readClause_78 : decode cX13_readClause 78 = .ok (.bipush 12, 2) := by decide +kernel
theorem dX13_readClause_80 : decode cX13_readClause 80 = .ok (.if_icmp .ne 8, 3) := by decide +kernel
theorem dX13_readClause_83 : decode cX13_readClause 83 = .ok (.aload_n 0, 1) := by decide +kernel
theorem dX13_readClause_84 : decode cX13_readClause 84 = .ok (.iconst 3, 1) := by decide +kernel
theorem dX13_readClause_85 : decode cX13_readClause 85 = .ok (.invokevirtual 232, 3) := by decide +kernel
theorem dX13_readClause_88 : decode cX13_readClause 88 = .ok (.aload_n 0, 1) := by decide +kernel
theorem dX13_readClause_89 : decode cX13_readClause 89 = .ok (.invokevirtual 222, 3) := by decide +kernel
theorem dX13_readClause_92 : decode cX13_readClause 92 = .ok (.ifCond .ne 4, 3) := by decide +kernel
theorem dX13_readClause_95 : decode cX13_readClause 95 = .ok (.return_, 1) := by decide +kernel
theorem dX13_readClause_96 : decode cX13_readClause 96 = .ok (.bipush 120, 2) := by decide +kernel
theorem dX13_readClause_98 : decode cX13_readClause 98 = .ok (.aload_n 0, 1) := by decide +kernel
theorem dX13_readClause_99 : decode cX13_readClause 99 = .ok (.getfield 32, 3) := by decide +kernel
theorem dX13_readClause_102 : decode cX13_readClause 102 = .ok (.bipush 10, 2) := by decide +kernel
theorem dX13_readClause_104 : decode cX13_readClause 104 = .ok (.iaload, 1) := by decide +kernel
theorem dX13_readClause_105 : decode cX13_readClause 105 = .ok (.iadd, 1) := by decide +kernel
theorem dX13_readClause_106 : decode cX13_readClause 106 = .ok (.istore_n 2, 1) := by decide +kernel
theorem dX13_readClause_107 : decode cX13_readClause 107 = .ok (.aload_n 0, 1) := by decide +kernel
theorem dX13_readClause_108 : decode cX13_readClause 108 = .ok (.getfield 32, 3) := by decide +kernel
theorem dX13_readClause_111 : decode cX13_readClause 111 = .ok (.bipush 10, 2) := by decide +kernel
theorem dX13_readClause_113 : decode cX13_readClause 113 = .ok (.dup2, 1) := by decide +kernel
theorem dX13_readClause_114 : decode cX13_readClause 114 = .ok (.iaload, 1) := by decide +kernel
theorem dX13_readClause_115 : decode cX13_readClause 115 = .ok (.iconst 1, 1) := by decide +kernel
theorem dX13_readClause_116 : decode cX13_readClause 116 = .ok (.iadd, 1) := by decide +kernel
theorem dX13_readClause_117 : decode cX13_readClause 117 = .ok (.iastore, 1) := by decide +kernel
theorem dX13_readClause_118 : decode cX13_readClause 118 = .ok (.aload_n 0, 1) := by decide +kernel
theorem dX13_readClause_119 : decode cX13_readClause 119 = .ok (.getfield 35, 3) := by decide +kernel
theorem dX13_readClause_122 : decode cX13_readClause 122 = .ok (.iload_n 2, 1) := by decide +kernel
theorem dX13_readClause_123 : decode cX13_readClause 123 = .ok (.iload_n 1, 1) := by decide +kernel
theorem dX13_readClause_124 : decode cX13_readClause 124 = .ok (.iastore, 1) := by decide +kernel
theorem dX13_readClause_125 : decode cX13_readClause 125 = .ok (.aload_n 0, 1) := by decide +kernel
theorem dX13_readClause_126 : decode cX13_readClause 126 = .ok (.invokevirtual 229, 3) := by decide +kernel
theorem dX13_readClause_129 : decode cX13_readClause 129 = .ok (.iload_n 1, 1) := by decide +kernel
theorem dX13_readClause_130 : decode cX13_readClause 130 = .ok (.iconst 2, 1) := by decide +kernel
theorem dX13_readClause_131 : decode cX13_readClause 131 = .ok (.if_icmp .ge 150, 3) := by decide +kernel
theorem dX13_readClause_134 : decode cX13_readClause 134 = .ok (.aload_n 0, 1) := by decide +kernel
theorem dX13_readClause_135 : decode cX13_readClause 135 = .ok (.getfield 41, 3) := by decide +kernel
theorem dX13_readClause_138 : decode cX13_readClause 138 = .ok (.iload_n 2, 1) := by decide +kernel
theorem dX13_readClause_139 : decode cX13_readClause 139 = .ok (.iconst 3, 1) := by decide +kernel
theorem dX13_readClause_140 : decode cX13_readClause 140 = .ok (.iastore, 1) := by decide +kernel
theorem dX13_readClause_141 : decode cX13_readClause 141 = .ok (.aload_n 0, 1) := by decide +kernel
theorem dX13_readClause_142 : decode cX13_readClause 142 = .ok (.getfield 44, 3) := by decide +kernel
theorem dX13_readClause_145 : decode cX13_readClause 145 = .ok (.iload_n 2, 1) := by decide +kernel
theorem dX13_readClause_146 : decode cX13_readClause 146 = .ok (.iconst 1, 1) := by decide +kernel
theorem dX13_readClause_147 : decode cX13_readClause 147 = .ok (.iastore, 1) := by decide +kernel
theorem dX13_readClause_148 : decode cX13_readClause 148 = .ok (.aload_n 0, 1) := by decide +kernel
theorem dX13_readClause_149 : decode cX13_readClause 149 = .ok (.ldc_w 268, 3) := by decide +kernel
theorem dX13_readClause_152 : decode cX13_readClause 152 = .ok (.invokevirtual 258, 3) := by decide +kernel
theorem dX13_readClause_155 : decode cX13_readClause 155 = .ok (.ifCond .ne 13, 3) := by decide +kernel
theorem dX13_readClause_158 : decode cX13_readClause 158 = .ok (.aload_n 0, 1) := by decide +kernel
theorem dX13_readClause_159 : decode cX13_readClause 159 = .ok (.ldc_w 270, 3) := by decide +kernel
theorem dX13_readClause_162 : decode cX13_readClause 162 = .ok (.invokevirtual 258, 3) := by decide +kernel
theorem dX13_readClause_165 : decode cX13_readClause 165 = .ok (.ifCond .eq 32, 3) := by decide +kernel
theorem dX13_readClause_168 : decode cX13_readClause 168 = .ok (.aload_n 0, 1) := by decide +kernel
theorem dX13_readClause_169 : decode cX13_readClause 169 = .ok (.getfield 38, 3) := by decide +kernel
theorem dX13_readClause_172 : decode cX13_readClause 172 = .ok (.iload_n 2, 1) := by decide +kernel
theorem dX13_readClause_173 : decode cX13_readClause 173 = .ok (.aload_n 0, 1) := by decide +kernel
theorem dX13_readClause_174 : decode cX13_readClause 174 = .ok (.ldc_w 268, 3) := by decide +kernel
theorem dX13_readClause_177 : decode cX13_readClause 177 = .ok (.invokevirtual 258, 3) := by decide +kernel
theorem dX13_readClause_180 : decode cX13_readClause 180 = .ok (.ifCond .eq 7, 3) := by decide +kernel
theorem dX13_readClause_183 : decode cX13_readClause 183 = .ok (.iconst 0, 1) := by decide +kernel
theorem dX13_readClause_184 : decode cX13_readClause 184 = .ok (.goto 5, 3) := by decide +kernel
theorem dX13_readClause_187 : decode cX13_readClause 187 = .ok (.bipush 7, 2) := by decide +kernel
theorem dX13_readClause_189 : decode cX13_readClause 189 = .ok (.iastore, 1) := by decide +kernel
theorem dX13_readClause_190 : decode cX13_readClause 190 = .ok (.aload_n 0, 1) := by decide +kernel
theorem dX13_readClause_191 : decode cX13_readClause 191 = .ok (.invokevirtual 229, 3) := by decide +kernel
theorem dX13_readClause_194 : decode cX13_readClause 194 = .ok (.goto 16, 3) := by decide +kernel
theorem dX13_readClause_197 : decode cX13_readClause 197 = .ok (.aload_n 0, 1) := by decide +kernel
theorem dX13_readClause_198 : decode cX13_readClause 198 = .ok (.getfield 38, 3) := by decide +kernel
theorem dX13_readClause_201 : decode cX13_readClause 201 = .ok (.iload_n 2, 1) := by decide +kernel
theorem dX13_readClause_202 : decode cX13_readClause 202 = .ok (.aload_n 0, 1) := by decide +kernel
theorem dX13_readClause_203 : decode cX13_readClause 203 = .ok (.iconst 1, 1) := by decide +kernel
theorem dX13_readClause_204 : decode cX13_readClause 204 = .ok (.bipush 6, 2) := by decide +kernel
theorem dX13_readClause_206 : decode cX13_readClause 206 = .ok (.invokevirtual 236, 3) := by decide +kernel
theorem dX13_readClause_209 : decode cX13_readClause 209 = .ok (.iastore, 1) := by decide +kernel
theorem dX13_readClause_210 : decode cX13_readClause 210 = .ok (.aload_n 0, 1) := by decide +kernel
theorem dX13_readClause_211 : decode cX13_readClause 211 = .ok (.invokevirtual 222, 3) := by decide +kernel
theorem dX13_readClause_214 : decode cX13_readClause 214 = .ok (.ifCond .eq 30, 3) := by decide +kernel
theorem dX13_readClause_217 : decode cX13_readClause 217 = .ok (.aload_n 0, 1) := by decide +kernel
theorem dX13_readClause_218 : decode cX13_readClause 218 = .ok (.ldc_w 272, 3) := by decide +kernel
theorem dX13_readClause_221 : decode cX13_readClause 221 = .ok (.invokevirtual 258, 3) := by decide +kernel
theorem dX13_readClause_224 : decode cX13_readClause 224 = .ok (.ifCond .eq 20, 3) := by decide +kernel
theorem dX13_readClause_227 : decode cX13_readClause 227 = .ok (.aload_n 0, 1) := by decide +kernel
theorem dX13_readClause_228 : decode cX13_readClause 228 = .ok (.invokevirtual 229, 3) := by decide +kernel
theorem dX13_readClause_231 : decode cX13_readClause 231 = .ok (.aload_n 0, 1) := by decide +kernel
theorem dX13_readClause_232 : decode cX13_readClause 232 = .ok (.getfield 41, 3) := by decide +kernel
theorem dX13_readClause_235 : decode cX13_readClause 235 = .ok (.iload_n 2, 1) := by decide +kernel
theorem dX13_readClause_236 : decode cX13_readClause 236 = .ok (.aload_n 0, 1) := by decide +kernel
theorem dX13_readClause_237 : decode cX13_readClause 237 = .ok (.iconst 2, 1) := by decide +kernel
theorem dX13_readClause_238 : decode cX13_readClause 238 = .ok (.bipush 6, 2) := by decide +kernel
theorem dX13_readClause_240 : decode cX13_readClause 240 = .ok (.invokevirtual 236, 3) := by decide +kernel
theorem dX13_readClause_243 : decode cX13_readClause 243 = .ok (.iastore, 1) := by decide +kernel
theorem dX13_readClause_244 : decode cX13_readClause 244 = .ok (.aload_n 0, 1) := by decide +kernel
theorem dX13_readClause_245 : decode cX13_readClause 245 = .ok (.invokevirtual 222, 3) := by decide +kernel
theorem dX13_readClause_248 : decode cX13_readClause 248 = .ok (.ifCond .eq 194, 3) := by decide +kernel
theorem dX13_readClause_251 : decode cX13_readClause 251 = .ok (.aload_n 0, 1) := by decide +kernel
theorem dX13_readClause_252 : decode cX13_readClause 252 = .ok (.ldc_w 273, 3) := by decide +kernel
theorem dX13_readClause_255 : decode cX13_readClause 255 = .ok (.invokevirtual 258, 3) := by decide +kernel
theorem dX13_readClause_258 : decode cX13_readClause 258 = .ok (.ifCond .eq 184, 3) := by decide +kernel
theorem dX13_readClause_261 : decode cX13_readClause 261 = .ok (.aload_n 0, 1) := by decide +kernel
theorem dX13_readClause_262 : decode cX13_readClause 262 = .ok (.invokevirtual 229, 3) := by decide +kernel
theorem dX13_readClause_265 : decode cX13_readClause 265 = .ok (.aload_n 0, 1) := by decide +kernel
theorem dX13_readClause_266 : decode cX13_readClause 266 = .ok (.getfield 44, 3) := by decide +kernel
theorem dX13_readClause_269 : decode cX13_readClause 269 = .ok (.iload_n 2, 1) := by decide +kernel
theorem dX13_readClause_270 : decode cX13_readClause 270 = .ok (.aload_n 0, 1) := by decide +kernel
theorem dX13_readClause_271 : decode cX13_readClause 271 = .ok (.iconst 1, 1) := by decide +kernel
theorem dX13_readClause_272 : decode cX13_readClause 272 = .ok (.bipush 99, 2) := by decide +kernel
theorem dX13_readClause_274 : decode cX13_readClause 274 = .ok (.invokevirtual 236, 3) := by decide +kernel
theorem dX13_readClause_277 : decode cX13_readClause 277 = .ok (.iastore, 1) := by decide +kernel
theorem dX13_readClause_278 : decode cX13_readClause 278 = .ok (.goto 164, 3) := by decide +kernel
theorem dX13_readClause_281 : decode cX13_readClause 281 = .ok (.aload_n 0, 1) := by decide +kernel
theorem dX13_readClause_282 : decode cX13_readClause 282 = .ok (.getfield 38, 3) := by decide +kernel
theorem dX13_readClause_285 : decode cX13_readClause 285 = .ok (.iload_n 2, 1) := by decide +kernel
theorem dX13_readClause_286 : decode cX13_readClause 286 = .ok (.aload_n 0, 1) := by decide +kernel
theorem dX13_readClause_287 : decode cX13_readClause 287 = .ok (.invokevirtual 275, 3) := by decide +kernel
theorem dX13_readClause_290 : decode cX13_readClause 290 = .ok (.iastore, 1) := by decide +kernel
theorem dX13_readClause_291 : decode cX13_readClause 291 = .ok (.aload_n 0, 1) := by decide +kernel
theorem dX13_readClause_292 : decode cX13_readClause 292 = .ok (.invokevirtual 222, 3) := by decide +kernel
theorem dX13_readClause_295 : decode cX13_readClause 295 = .ok (.ifCond .eq 26, 3) := by decide +kernel
theorem dX13_readClause_298 : decode cX13_readClause 298 = .ok (.iload_n 1, 1) := by decide +kernel
theorem dX13_readClause_299 : decode cX13_readClause 299 = .ok (.iconst 3, 1) := by decide +kernel
theorem dX13_readClause_300 : decode cX13_readClause 300 = .ok (.if_icmp .ne 21, 3) := by decide +kernel
theorem dX13_readClause_303 : decode cX13_readClause 303 = .ok (.aload_n 0, 1) := by decide +kernel
theorem dX13_readClause_304 : decode cX13_readClause 304 = .ok (.getfield 38, 3) := by decide +kernel
theorem dX13_readClause_307 : decode cX13_readClause 307 = .ok (.iload_n 2, 1) := by decide +kernel
theorem dX13_readClause_308 : decode cX13_readClause 308 = .ok (.iaload, 1) := by decide +kernel
theorem dX13_readClause_309 : decode cX13_readClause 309 = .ok (.invokestatic 278, 3) := by decide +kernel
theorem dX13_readClause_312 : decode cX13_readClause 312 = .ok (.iconst (-1), 1) := by decide +kernel
theorem dX13_readClause_313 : decode cX13_readClause 313 = .ok (.if_icmp .eq 8, 3) := by decide +kernel
theorem dX13_readClause_316 : decode cX13_readClause 316 = .ok (.aload_n 0, 1) := by decide +kernel
theorem dX13_readClause_317 : decode cX13_readClause 317 = .ok (.iconst 2, 1) := by decide +kernel
theorem dX13_readClause_318 : decode cX13_readClause 318 = .ok (.invokevirtual 232, 3) := by decide +kernel
theorem dX13_readClause_321 : decode cX13_readClause 321 = .ok (.aload_n 0, 1) := by decide +kernel
theorem dX13_readClause_322 : decode cX13_readClause 322 = .ok (.invokevirtual 222, 3) := by decide +kernel
theorem dX13_readClause_325 : decode cX13_readClause 325 = .ok (.ifCond .eq 7, 3) := by decide +kernel
theorem dX13_readClause_328 : decode cX13_readClause 328 = .ok (.aload_n 0, 1) := by decide +kernel
theorem dX13_readClause_329 : decode cX13_readClause 329 = .ok (.invokevirtual 229, 3) := by decide +kernel
theorem dX13_readClause_332 : decode cX13_readClause 332 = .ok (.iload_n 1, 1) := by decide +kernel
theorem dX13_readClause_333 : decode cX13_readClause 333 = .ok (.iconst 2, 1) := by decide +kernel
theorem dX13_readClause_334 : decode cX13_readClause 334 = .ok (.if_icmp .ne 108, 3) := by decide +kernel
theorem dX13_readClause_337 : decode cX13_readClause 337 = .ok (.aload_n 0, 1) := by decide +kernel
theorem dX13_readClause_338 : decode cX13_readClause 338 = .ok (.invokevirtual 222, 3) := by decide +kernel
theorem dX13_readClause_341 : decode cX13_readClause 341 = .ok (.ifCond .eq 18, 3) := by decide +kernel
theorem dX13_readClause_344 : decode cX13_readClause 344 = .ok (.aload_n 0, 1) := by decide +kernel
theorem dX13_readClause_345 : decode cX13_readClause 345 = .ok (.ldc_w 280, 3) := by decide +kernel
theorem dX13_readClause_348 : decode cX13_readClause 348 = .ok (.invokevirtual 258, 3) := by decide +kernel
theorem dX13_readClause_351 : decode cX13_readClause 351 = .ok (.ifCond .ne 8, 3) := by decide +kernel
theorem dX13_readClause_354 : decode cX13_readClause 354 = .ok (.aload_n 0, 1) := by decide +kernel
theorem dX13_readClause_355 : decode cX13_readClause 355 = .ok (.iconst 1, 1) := by decide +kernel
theorem dX13_readClause_356 : decode cX13_readClause 356 = .ok (.invokevirtual 232, 3) := by decide +kernel
theorem dX13_readClause_359 : decode cX13_readClause 359 = .ok (.aload_n 0, 1) := by decide +kernel
theorem dX13_readClause_360 : decode cX13_readClause 360 = .ok (.invokevirtual 222, 3) := by decide +kernel
theorem dX13_readClause_363 : decode cX13_readClause 363 = .ok (.ifCond .eq 7, 3) := by decide +kernel
theorem dX13_readClause_366 : decode cX13_readClause 366 = .ok (.aload_n 0, 1) := by decide +kernel
theorem dX13_readClause_367 : decode cX13_readClause 367 = .ok (.invokevirtual 229, 3) := by decide +kernel
theorem dX13_readClause_370 : decode cX13_readClause 370 = .ok (.aload_n 0, 1) := by decide +kernel
theorem dX13_readClause_371 : decode cX13_readClause 371 = .ok (.getfield 41, 3) := by decide +kernel
theorem dX13_readClause_374 : decode cX13_readClause 374 = .ok (.iload_n 2, 1) := by decide +kernel
theorem dX13_readClause_375 : decode cX13_readClause 375 = .ok (.aload_n 0, 1) := by decide +kernel
theorem dX13_readClause_376 : decode cX13_readClause 376 = .ok (.invokevirtual 275, 3) := by decide +kernel
theorem dX13_readClause_379 : decode cX13_readClause 379 = .ok (.iastore, 1) := by decide +kernel
theorem dX13_readClause_380 : decode cX13_readClause 380 = .ok (.aload_n 0, 1) := by decide +kernel
theorem dX13_readClause_381 : decode cX13_readClause 381 = .ok (.invokevirtual 222, 3) := by decide +kernel
theorem dX13_readClause_384 : decode cX13_readClause 384 = .ok (.ifCond .eq 47, 3) := by decide +kernel
theorem dX13_readClause_387 : decode cX13_readClause 387 = .ok (.aload_n 0, 1) := by decide +kernel
theorem dX13_readClause_388 : decode cX13_readClause 388 = .ok (.getfield 38, 3) := by decide +kernel
theorem dX13_readClause_391 : decode cX13_readClause 391 = .ok (.iload_n 2, 1) := by decide +kernel
theorem dX13_readClause_392 : decode cX13_readClause 392 = .ok (.iaload, 1) := by decide +kernel
theorem dX13_readClause_393 : decode cX13_readClause 393 = .ok (.invokestatic 278, 3) := by decide +kernel
theorem dX13_readClause_396 : decode cX13_readClause 396 = .ok (.iconst (-1), 1) := by decide +kernel
theorem dX13_readClause_397 : decode cX13_readClause 397 = .ok (.if_icmp .eq 7, 3) := by decide +kernel
theorem dX13_readClause_400 : decode cX13_readClause 400 = .ok (.iconst 1, 1) := by decide +kernel
theorem dX13_readClause_401 : decode cX13_readClause 401 = .ok (.goto 4, 3) := by decide +kernel
theorem dX13_readClause_404 : decode cX13_readClause 404 = .ok (.iconst 0, 1) := by decide +kernel
theorem dX13_readClause_405 : decode cX13_readClause 405 = .ok (.aload_n 0, 1) := by decide +kernel
theorem dX13_readClause_406 : decode cX13_readClause 406 = .ok (.getfield 41, 3) := by decide +kernel
theorem dX13_readClause_409 : decode cX13_readClause 409 = .ok (.iload_n 2, 1) := by decide +kernel
theorem dX13_readClause_410 : decode cX13_readClause 410 = .ok (.iaload, 1) := by decide +kernel
theorem dX13_readClause_411 : decode cX13_readClause 411 = .ok (.invokestatic 278, 3) := by decide +kernel
theorem dX13_readClause_414 : decode cX13_readClause 414 = .ok (.iconst (-1), 1) := by decide +kernel
theorem dX13_readClause_415 : decode cX13_readClause 415 = .ok (.if_icmp .eq 7, 3) := by decide +kernel
theorem dX13_readClause_418 : decode cX13_readClause 418 = .ok (.iconst 1, 1) := by decide +kernel
theorem dX13_readClause_419 : decode cX13_readClause 419 = .ok (.goto 4, 3) := by decide +kernel
theorem dX13_readClause_422 : decode cX13_readClause 422 = .ok (.iconst 0, 1) := by decide +kernel
theorem dX13_readClause_423 : decode cX13_readClause 423 = .ok (.if_icmp .eq 8, 3) := by decide +kernel
theorem dX13_readClause_426 : decode cX13_readClause 426 = .ok (.aload_n 0, 1) := by decide +kernel
theorem dX13_readClause_427 : decode cX13_readClause 427 = .ok (.iconst 2, 1) := by decide +kernel
theorem dX13_readClause_428 : decode cX13_readClause 428 = .ok (.invokevirtual 232, 3) := by decide +kernel
theorem dX13_readClause_431 : decode cX13_readClause 431 = .ok (.aload_n 0, 1) := by decide +kernel
theorem dX13_readClause_432 : decode cX13_readClause 432 = .ok (.invokevirtual 222, 3) := by decide +kernel
theorem dX13_readClause_435 : decode cX13_readClause 435 = .ok (.ifCond .eq 7, 3) := by decide +kernel
theorem dX13_readClause_438 : decode cX13_readClause 438 = .ok (.aload_n 0, 1) := by decide +kernel
theorem dX13_readClause_439 : decode cX13_readClause 439 = .ok (.invokevirtual 229, 3) := by decide +kernel
theorem dX13_readClause_442 : decode cX13_readClause 442 = .ok (.aload_n 0, 1) := by decide +kernel
theorem dX13_readClause_443 : decode cX13_readClause 443 = .ok (.bipush 59, 2) := by decide +kernel
theorem dX13_readClause_445 : decode cX13_readClause 445 = .ok (.invokevirtual 240, 3) := by decide +kernel
theorem dX13_readClause_448 : decode cX13_readClause 448 = .ok (.return_, 1) := by decide +kernel
noncomputable def f_X13_readClause_442   (σ : jM) : Option (Unit × jM) :=
  bd (f_X13_wantSign 59 σ) (fun _ σ18 => some ((), σ18))
noncomputable def f_X13_readClause_431   (σ : jM) : Option (Unit × jM) :=
  bd (f_X13_isWell  σ) (fun r23 σ24 => (if r23 = 0 then f_X13_readClause_442   σ24 else bd (f_X13_next  σ24) (fun _ σ28 => f_X13_readClause_442   σ28)))
noncomputable def f_X13_readClause_423  (s0 : Int32) (s1 : Int32) (σ : jM) : Option (Unit × jM) :=
  (if s0 = s1 then f_X13_readClause_431   σ else bd (f_X13_fails 2 σ) (fun _ σ39 => f_X13_readClause_431   σ39))
noncomputable def f_X13_readClause_405  (l2 : Int32) (s0 : Int32) (σ : jM) : Option (Unit × jM) :=
  gd (inb l2 132) (bd (f_X13_vowel (rI σ 334 (Int32.toNatClampNeg l2)) σ) (fun r46 σ47 => (if r46 = (-1) then f_X13_readClause_423  s0 0 σ47 else f_X13_readClause_423  s0 1 σ47)))
noncomputable def f_X13_readClause_370  (l2 : Int32) (σ : jM) : Option (Unit × jM) :=
  bd (f_X13_letterHere  σ) (fun r55 σ56 => gd (inb l2 132) (bd (f_X13_isWell  (wI σ56 334 (Int32.toNatClampNeg l2) r55)) (fun r59 σ60 => (if r59 = 0 then f_X13_readClause_431   σ60 else gd (inb l2 132) (bd (f_X13_vowel (rI σ60 333 (Int32.toNatClampNeg l2)) σ60) (fun r64 σ65 => (if r64 = (-1) then f_X13_readClause_405  l2 0 σ65 else f_X13_readClause_405  l2 1 σ65)))))))
noncomputable def f_X13_readClause_359  (l2 : Int32) (σ : jM) : Option (Unit × jM) :=
  bd (f_X13_isWell  σ) (fun r81 σ82 => (if r81 = 0 then f_X13_readClause_370  l2 σ82 else bd (f_X13_next  σ82) (fun _ σ86 => f_X13_readClause_370  l2 σ86)))
noncomputable def f_X13_readClause_332  (l1 : Int32) (l2 : Int32) (σ : jM) : Option (Unit × jM) :=
  (if l1 = 2 then bd (f_X13_isWell  σ) (fun r96 σ97 => (if r96 = 0 then f_X13_readClause_359  l2 σ97 else bd (f_X13_isWord 4 σ97) (fun r100 σ101 => (if r100 = 0 then bd (f_X13_fails 1 σ101) (fun _ σ105 => f_X13_readClause_359  l2 σ105) else f_X13_readClause_359  l2 σ101)))) else f_X13_readClause_442   σ)
noncomputable def f_X13_readClause_321  (l1 : Int32) (l2 : Int32) (σ : jM) : Option (Unit × jM) :=
  bd (f_X13_isWell  σ) (fun r119 σ120 => (if r119 = 0 then f_X13_readClause_332  l1 l2 σ120 else bd (f_X13_next  σ120) (fun _ σ124 => f_X13_readClause_332  l1 l2 σ124)))
noncomputable def f_X13_readClause_244  (l2 : Int32) (σ : jM) : Option (Unit × jM) :=
  bd (f_X13_isWell  σ) (fun r133 σ134 => (if r133 = 0 then f_X13_readClause_442   σ134 else bd (f_X13_isWord 8 σ134) (fun r137 σ138 => (if r137 = 0 then f_X13_readClause_442   σ138 else bd (f_X13_next  σ138) (fun _ σ142 => bd (f_X13_number 1 99 σ142) (fun r144 σ145 => gd (inb l2 132) (f_X13_readClause_442   (wI σ145 335 (Int32.toNatClampNeg l2) r144))))))))
noncomputable def f_X13_readClause_210  (l2 : Int32) (σ : jM) : Option (Unit × jM) :=
  bd (f_X13_isWell  σ) (fun r163 σ164 => (if r163 = 0 then f_X13_readClause_244  l2 σ164 else bd (f_X13_isWord 7 σ164) (fun r167 σ168 => (if r167 = 0 then f_X13_readClause_244  l2 σ168 else bd (f_X13_next  σ168) (fun _ σ172 => bd (f_X13_number 2 6 σ172) (fun r174 σ175 => gd (inb l2 132) (f_X13_readClause_244  l2 (wI σ175 334 (Int32.toNatClampNeg l2) r174))))))))
noncomputable def f_X13_readClause_189  (l2 : Int32) (s1 : Int32) (s2 : Int32) (σ : jM) : Option (Unit × jM) :=
  gd (inb s1 132) (bd (f_X13_next  (wI σ 333 (Int32.toNatClampNeg s1) s2)) (fun _ σ195 => f_X13_readClause_210  l2 σ195))
noncomputable def f_X13_readClause_168  (l2 : Int32) (σ : jM) : Option (Unit × jM) :=
  bd (f_X13_isWord 5 σ) (fun r201 σ202 => (if r201 = 0 then f_X13_readClause_189  l2 l2 7 σ202 else f_X13_readClause_189  l2 l2 0 σ202))
noncomputable def f_X13_readClause_88  (l1 : Int32) (σ : jM) : Option (Unit × jM) :=
  bd (f_X13_isWell  σ) (fun r209 σ210 => (if r209 = 0 then some ((), σ210) else gd (inb 10 11) (gd (inb 10 11) (gd (inb 10 11) (gd (inb (120 + (rI σ210 331 (Int32.toNatClampNeg 10))) 132) (bd (f_X13_next  (wI (wI σ210 331 (Int32.toNatClampNeg 10) ((rI σ210 331 (Int32.toNatClampNeg 10)) + 1)) 332 (Int32.toNatClampNeg (120 + (rI σ210 331 (Int32.toNatClampNeg 10)))) l1)) (fun _ σ218 => (if 2 ≤ l1 then bd (f_X13_letterHere  σ218) (fun r221 σ222 => gd (inb (120 + (rI σ210 331 (Int32.toNatClampNeg 10))) 132) (bd (f_X13_isWell  (wI σ222 333 (Int32.toNatClampNeg (120 + (rI σ210 331 (Int32.toNatClampNeg 10)))) r221)) (fun r225 σ226 => (if r225 = 0 then f_X13_readClause_321  l1 (120 + (rI σ210 331 (Int32.toNatClampNeg 10))) σ226 else (if l1 = 3 then gd (inb (120 + (rI σ210 331 (Int32.toNatClampNeg 10))) 132) (bd (f_X13_vowel (rI σ226 333 (Int32.toNatClampNeg (120 + (rI σ210 331 (Int32.toNatClampNeg 10))))) σ226) (fun r231 σ232 => (if r231 = (-1) then f_X13_readClause_321  l1 (120 + (rI σ210 331 (Int32.toNatClampNeg 10))) σ232 else bd (f_X13_fails 2 σ232) (fun _ σ236 => f_X13_readClause_321  l1 (120 + (rI σ210 331 (Int32.toNatClampNeg 10))) σ236)))) else f_X13_readClause_321  l1 (120 + (rI σ210 331 (Int32.toNatClampNeg 10))) σ226))))) else gd (inb (120 + (rI σ210 331 (Int32.toNatClampNeg 10))) 132) (gd (inb (120 + (rI σ210 331 (Int32.toNatClampNeg 10))) 132) (bd (f_X13_isWord 5 (wI (wI σ218 334 (Int32.toNatClampNeg (120 + (rI σ210 331 (Int32.toNatClampNeg 10)))) 3) 335 (Int32.toNatClampNeg (120 + (rI σ210 331 (Int32.toNatClampNeg 10)))) 1)) (fun r240 σ241 => (if r240 = 0 then bd (f_X13_isWord 6 σ241) (fun r244 σ245 => (if r244 = 0 then bd (f_X13_number 1 6 σ245) (fun r248 σ249 => gd (inb (120 + (rI σ210 331 (Int32.toNatClampNeg 10))) 132) (f_X13_readClause_210  (120 + (rI σ210 331 (Int32.toNatClampNeg 10))) (wI σ249 333 (Int32.toNatClampNeg (120 + (rI σ210 331 (Int32.toNatClampNeg 10)))) r248))) else f_X13_readClause_168  (120 + (rI σ210 331 (Int32.toNatClampNeg 10))) σ245)) else f_X13_readClause_168  (120 + (rI σ210 331 (Int32.toNatClampNeg 10))) σ241))))))))))))
noncomputable def f_X13_readClause_57  (s0 : Int32) (σ : jM) : Option (Unit × jM) :=
  (if s0 = (-1) then bd (f_X13_fails 1 σ) (fun _ σ302 => f_X13_readClause_88  s0 σ302) else gd (inb 10 11) ((if (rI σ 331 (Int32.toNatClampNeg 10)) = 12 then bd (f_X13_fails 3 σ) (fun _ σ299 => f_X13_readClause_88  s0 σ299) else f_X13_readClause_88  s0 σ)))
noncomputable def f_X13_readClause  (σ : jM) : Option (Unit × jM) :=
  bd (f_X13_isWord 0 σ) (fun r313 σ314 => (if r313 = 0 then bd (f_X13_isWord 1 σ314) (fun r317 σ318 => (if r317 = 0 then bd (f_X13_isWord 2 σ318) (fun r321 σ322 => (if r321 = 0 then bd (f_X13_isWord 3 σ322) (fun r325 σ326 => (if r325 = 0 then f_X13_readClause_57  (-1) σ326 else f_X13_readClause_57  3 σ326)) else f_X13_readClause_57  2 σ322)) else f_X13_readClause_57  1 σ318)) else f_X13_readClause_57  0 σ314))
set_option maxRecDepth 20000 in
set_option maxHeartbeats 4000000 in
theorem t_X13_readClause_442   (σ : jM) (r : Unit × jM)  (h : f_X13_readClause_442   σ = some r) : J mi_X13_readClause 7 0 0 (jqV r) 442 [(0, .ref 324)] [] (ms σ) := by
  unfold f_X13_readClause_442 at h
  refine J_aload_n 0 dX13_readClause_442 rfl ?_
  refine J_bipush (v := 59) dX13_readClause_443 (by decide) ?_
  obtain ⟨_, σ21, h22, h⟩ := bd_inv h
  refine M_callVV (d' := 3) (k := 324) (As := [.int 59]) (st := []) cv_X13_240 dX13_readClause_445 rfl (by decide) rfl (Nat.le_of_ble_eq_true rfl) (Nat.le_of_ble_eq_true rfl) (by decide) n_324 k_324 rfl rfl (t_X13_wantSign  h22) ?_
  exact J_ret (v := none) rfl ⟨dX13_readClause_448, rfl⟩ (jqV_mk h)
set_option maxRecDepth 20000 in
set_option maxHeartbeats 4000000 in
theorem t_X13_readClause_431   (σ : jM) (r : Unit × jM)  (h : f_X13_readClause_431   σ = some r) : J mi_X13_readClause 7 0 0 (jqV r) 431 [(0, .ref 324)] [] (ms σ) := by
  unfold f_X13_readClause_431 at h
  refine J_aload_n 0 dX13_readClause_431 rfl ?_
  obtain ⟨r30, σ31, h32, h⟩ := bd_inv h
  refine M_callVI (d' := 1) (k := 324) (As := []) (st := []) cv_X13_222 dX13_readClause_432 rfl (by decide) rfl (Nat.le_of_ble_eq_true rfl) (Nat.le_of_ble_eq_true rfl) (by decide) n_324 k_324 rfl rfl (t_X13_isWell  h32) ?_
  refine J_if_eq (tgt := 442) dX13_readClause_435 (by decide) (fun c33 => ?_) (fun c33 => ?_)
  · have h := (if_pos c33).symm.trans h
    exact t_X13_readClause_442   _ _  h
  · have h := (if_neg c33).symm.trans h
    refine J_aload_n 0 dX13_readClause_438 rfl ?_
    obtain ⟨_, σ35, h36, h⟩ := bd_inv h
    refine M_callVV (d' := 2) (k := 324) (As := []) (st := []) cv_X13_229 dX13_readClause_439 rfl (by decide) rfl (Nat.le_of_ble_eq_true rfl) (Nat.le_of_ble_eq_true rfl) (by decide) n_324 k_324 rfl rfl (t_X13_next  h36) ?_
    exact t_X13_readClause_442   _ _  h
set_option maxRecDepth 20000 in
set_option maxHeartbeats 4000000 in
theorem t_X13_readClause_423  (s0 : Int32) (s1 : Int32) (σ : jM) (r : Unit × jM)  (h : f_X13_readClause_423  s0 s1 σ = some r) : J mi_X13_readClause 7 0 0 (jqV r) 423 [(0, .ref 324)] [.int s1, .int s0] (ms σ) := by
  unfold f_X13_readClause_423 at h
  refine J_icmp_eq (tgt := 431) dX13_readClause_423 (by decide) (fun c41 => ?_) (fun c41 => ?_)
  · have h := (if_pos c41).symm.trans h
    exact t_X13_readClause_431   _ _  h
  · have h := (if_neg c41).symm.trans h
    refine J_aload_n 0 dX13_readClause_426 rfl ?_
    refine J_iconst (v := 2) dX13_readClause_427 (by decide) ?_
    obtain ⟨_, σ43, h44, h⟩ := bd_inv h
    refine M_callVV (d' := 1) (k := 324) (As := [.int 2]) (st := []) cv_X13_232 dX13_readClause_428 rfl (by decide) rfl (Nat.le_of_ble_eq_true rfl) (Nat.le_of_ble_eq_true rfl) (by decide) n_324 k_324 rfl rfl (t_X13_fails  h44) ?_
    exact t_X13_readClause_431   _ _  h
set_option maxRecDepth 20000 in
set_option maxHeartbeats 4000000 in
theorem t_X13_readClause_405  (l2 : Int32) (s0 : Int32) (σ : jM) (r : Unit × jM)  (h : f_X13_readClause_405  l2 s0 σ = some r) : J mi_X13_readClause 7 0 0 (jqV r) 405 [(0, .ref 324), (2, .int l2)] [.int s0] (ms σ) := by
  unfold f_X13_readClause_405 at h
  refine J_aload_n 0 dX13_readClause_405 rfl ?_
  refine M_getR gf_X13_41_12 dX13_readClause_406 (g_324_13 _) k_324 n_324 ?_
  refine J_iload_n 1 dX13_readClause_409 rfl ?_
  obtain ⟨g50, h⟩ := gd_inv h
  refine M_iald dX13_readClause_410 a_334 n_334 g50 ?_
  obtain ⟨r51, σ52, h53, h⟩ := bd_inv h
  refine M_callSI (d' := 1) (As := [.int (rI σ 334 (Int32.toNatClampNeg l2))]) (st := [.int s0]) cs_X13_278 dX13_readClause_411 rfl (Nat.le_of_ble_eq_true rfl) (Nat.le_of_ble_eq_true rfl) (by decide) rfl rfl (t_X13_vowel  h53) ?_
  refine J_iconst (v := (-1)) dX13_readClause_414 (by decide) ?_
  refine J_icmp_eq (tgt := 422) dX13_readClause_415 (by decide) (fun c54 => ?_) (fun c54 => ?_)
  · have h := (if_pos c54).symm.trans h
    refine J_iconst (v := 0) dX13_readClause_422 (by decide) ?_
    refine J_pick [0] rfl ?_
    exact t_X13_readClause_423  _ _ _ _  h
  · have h := (if_neg c54).symm.trans h
    refine J_iconst (v := 1) dX13_readClause_418 (by decide) ?_
    refine J_goto (tgt := 423) dX13_readClause_419 (by decide) ?_
    refine J_pick [0] rfl ?_
    exact t_X13_readClause_423  _ _ _ _  h
set_option maxRecDepth 20000 in
set_option maxHeartbeats 4000000 in
theorem t_X13_readClause_370  (l2 : Int32) (σ : jM) (r : Unit × jM)  (h : f_X13_readClause_370  l2 σ = some r) : J mi_X13_readClause 7 0 0 (jqV r) 370 [(0, .ref 324), (2, .int l2)] [] (ms σ) := by
  unfold f_X13_readClause_370 at h
  refine J_aload_n 0 dX13_readClause_370 rfl ?_
  refine M_getR gf_X13_41_12 dX13_readClause_371 (g_324_13 _) k_324 n_324 ?_
  refine J_iload_n 1 dX13_readClause_374 rfl ?_
  refine J_aload_n 0 dX13_readClause_375 rfl ?_
  obtain ⟨r68, σ69, h70, h⟩ := bd_inv h
  refine M_callVI (d' := 2) (k := 324) (As := []) (st := [.int l2, .ref 334]) cv_X13_275 dX13_readClause_376 rfl (by decide) rfl (Nat.le_of_ble_eq_true rfl) (Nat.le_of_ble_eq_true rfl) (by decide) n_324 k_324 rfl rfl (t_X13_letterHere  h70) ?_
  obtain ⟨g71, h⟩ := gd_inv h
  refine M_iast dX13_readClause_379 a_334 n_334 g71 ?_
  refine J_aload_n 0 dX13_readClause_380 rfl ?_
  obtain ⟨r72, σ73, h74, h⟩ := bd_inv h
  refine M_callVI (d' := 1) (k := 324) (As := []) (st := []) cv_X13_222 dX13_readClause_381 rfl (by decide) rfl (Nat.le_of_ble_eq_true rfl) (Nat.le_of_ble_eq_true rfl) (by decide) n_324 k_324 rfl rfl (t_X13_isWell  h74) ?_
  refine J_if_eq (tgt := 431) dX13_readClause_384 (by decide) (fun c75 => ?_) (fun c75 => ?_)
  · have h := (if_pos c75).symm.trans h
    refine J_pick [0] rfl ?_
    exact t_X13_readClause_431   _ _  h
  · have h := (if_neg c75).symm.trans h
    refine J_aload_n 0 dX13_readClause_387 rfl ?_
    refine M_getR gf_X13_38_12 dX13_readClause_388 (g_324_12 _) k_324 n_324 ?_
    refine J_iload_n 1 dX13_readClause_391 rfl ?_
    obtain ⟨g76, h⟩ := gd_inv h
    refine M_iald dX13_readClause_392 a_333 n_333 g76 ?_
    obtain ⟨r77, σ78, h79, h⟩ := bd_inv h
    refine M_callSI (d' := 1) (As := [.int (rI σ73 333 (Int32.toNatClampNeg l2))]) (st := []) cs_X13_278 dX13_readClause_393 rfl (Nat.le_of_ble_eq_true rfl) (Nat.le_of_ble_eq_true rfl) (by decide) rfl rfl (t_X13_vowel  h79) ?_
    refine J_iconst (v := (-1)) dX13_readClause_396 (by decide) ?_
    refine J_icmp_eq (tgt := 404) dX13_readClause_397 (by decide) (fun c80 => ?_) (fun c80 => ?_)
    · have h := (if_pos c80).symm.trans h
      refine J_iconst (v := 0) dX13_readClause_404 (by decide) ?_
      exact t_X13_readClause_405  _ _ _ _  h
    · have h := (if_neg c80).symm.trans h
      refine J_iconst (v := 1) dX13_readClause_400 (by decide) ?_
      refine J_goto (tgt := 405) dX13_readClause_401 (by decide) ?_
      exact t_X13_readClause_405  _ _ _ _  h
set_option maxRecDepth 20000 in
set_option maxHeartbeats 4000000 in
theorem t_X13_readClause_359  (l2 : Int32) (σ : jM) (r : Unit × jM)  (h : f_X13_readClause_359  l2 σ = some r) : J mi_X13_readClause 7 0 0 (jqV r) 359 [(0, .ref 324), (2, .int l2)] [] (ms σ) := by
  unfold f_X13_readClause_359 at h
  refine J_aload_n 0 dX13_readClause_359 rfl ?_
  obtain ⟨r88, σ89, h90, h⟩ := bd_inv h
  refine M_callVI (d' := 1) (k := 324) (As := []) (st := []) cv_X13_222 dX13_readClause_360 rfl (by decide) rfl (Nat.le_of_ble_eq_true rfl) (Nat.le_of_ble_eq_true rfl) (by decide) n_324 k_324 rfl rfl (t_X13_isWell  h90) ?_
  refine J_if_eq (tgt := 370) dX13_readClause_363 (by decide) (fun c91 => ?_) (fun c91 => ?_)
  · have h := (if_pos c91).symm.trans h
    exact t_X13_readClause_370  _ _ _  h
  · have h := (if_neg c91).symm.trans h
    refine J_aload_n 0 dX13_readClause_366 rfl ?_
    obtain ⟨_, σ93, h94, h⟩ := bd_inv h
    refine M_callVV (d' := 2) (k := 324) (As := []) (st := []) cv_X13_229 dX13_readClause_367 rfl (by decide) rfl (Nat.le_of_ble_eq_true rfl) (Nat.le_of_ble_eq_true rfl) (by decide) n_324 k_324 rfl rfl (t_X13_next  h94) ?_
    exact t_X13_readClause_370  _ _ _  h
set_option maxRecDepth 20000 in
set_option maxHeartbeats 4000000 in
theorem t_X13_readClause_332  (l1 : Int32) (l2 : Int32) (σ : jM) (r : Unit × jM)  (h : f_X13_readClause_332  l1 l2 σ = some r) : J mi_X13_readClause 7 0 0 (jqV r) 332 [(0, .ref 324), (1, .int l1), (2, .int l2)] [] (ms σ) := by
  unfold f_X13_readClause_332 at h
  refine J_iload_n 1 dX13_readClause_332 rfl ?_
  refine J_iconst (v := 2) dX13_readClause_333 (by decide) ?_
  refine J_icmp_ne (tgt := 442) dX13_readClause_334 (by decide) (fun c107 => ?_) (fun c107 => ?_)
  · have h := (if_neg c107).symm.trans h
    refine J_pick [0] rfl ?_
    exact t_X13_readClause_442   _ _  h
  · have h := (if_pos c107).symm.trans h
    refine J_aload_n 0 dX13_readClause_337 rfl ?_
    obtain ⟨r108, σ109, h110, h⟩ := bd_inv h
    refine M_callVI (d' := 1) (k := 324) (As := []) (st := []) cv_X13_222 dX13_readClause_338 rfl (by decide) rfl (Nat.le_of_ble_eq_true rfl) (Nat.le_of_ble_eq_true rfl) (by decide) n_324 k_324 rfl rfl (t_X13_isWell  h110) ?_
    refine J_if_eq (tgt := 359) dX13_readClause_341 (by decide) (fun c111 => ?_) (fun c111 => ?_)
    · have h := (if_pos c111).symm.trans h
      refine J_pick [0, 2] rfl ?_
      exact t_X13_readClause_359  _ _ _  h
    · have h := (if_neg c111).symm.trans h
      refine J_aload_n 0 dX13_readClause_344 rfl ?_
      refine M_ldcSw (w := 4) (tx := "as") dX13_readClause_345 (by decide +kernel) ?_
      obtain ⟨r112, σ113, h114, h⟩ := bd_inv h
      refine M_callVI (d' := 6) (k := 324) (As := [.ref (1000000 + 4)]) (st := []) cv_X13_258 dX13_readClause_348 rfl (by decide) rfl (Nat.le_of_ble_eq_true rfl) (Nat.le_of_ble_eq_true rfl) (by decide) n_324 k_324 rfl rfl (t_X13_isWord (by decide) h114) ?_
      refine J_if_ne (tgt := 359) dX13_readClause_351 (by decide) (fun c115 => ?_) (fun c115 => ?_)
      · have h := (if_neg c115).symm.trans h
        refine J_pick [0, 2] rfl ?_
        exact t_X13_readClause_359  _ _ _  h
      · have h := (if_pos c115).symm.trans h
        refine J_aload_n 0 dX13_readClause_354 rfl ?_
        refine J_iconst (v := 1) dX13_readClause_355 (by decide) ?_
        obtain ⟨_, σ117, h118, h⟩ := bd_inv h
        refine M_callVV (d' := 1) (k := 324) (As := [.int 1]) (st := []) cv_X13_232 dX13_readClause_356 rfl (by decide) rfl (Nat.le_of_ble_eq_true rfl) (Nat.le_of_ble_eq_true rfl) (by decide) n_324 k_324 rfl rfl (t_X13_fails  h118) ?_
        refine J_pick [0, 2] rfl ?_
        exact t_X13_readClause_359  _ _ _  h
set_option maxRecDepth 20000 in
set_option maxHeartbeats 4000000 in
theorem t_X13_readClause_321  (l1 : Int32) (l2 : Int32) (σ : jM) (r : Unit × jM)  (h : f_X13_readClause_321  l1 l2 σ = some r) : J mi_X13_readClause 7 0 0 (jqV r) 321 [(0, .ref 324), (1, .int l1), (2, .int l2)] [] (ms σ) := by
  unfold f_X13_readClause_321 at h
  refine J_aload_n 0 dX13_readClause_321 rfl ?_
  obtain ⟨r126, σ127, h128, h⟩ := bd_inv h
  refine M_callVI (d' := 1) (k := 324) (As := []) (st := []) cv_X13_222 dX13_readClause_322 rfl (by decide) rfl (Nat.le_of_ble_eq_true rfl) (Nat.le_of_ble_eq_true rfl) (by decide) n_324 k_324 rfl rfl (t_X13_isWell  h128) ?_
  refine J_if_eq (tgt := 332) dX13_readClause_325 (by decide) (fun c129 => ?_) (fun c129 => ?_)
  · have h := (if_pos c129).symm.trans h
    exact t_X13_readClause_332  _ _ _ _  h
  · have h := (if_neg c129).symm.trans h
    refine J_aload_n 0 dX13_readClause_328 rfl ?_
    obtain ⟨_, σ131, h132, h⟩ := bd_inv h
    refine M_callVV (d' := 2) (k := 324) (As := []) (st := []) cv_X13_229 dX13_readClause_329 rfl (by decide) rfl (Nat.le_of_ble_eq_true rfl) (Nat.le_of_ble_eq_true rfl) (by decide) n_324 k_324 rfl rfl (t_X13_next  h132) ?_
    exact t_X13_readClause_332  _ _ _ _  h
set_option maxRecDepth 20000 in
set_option maxHeartbeats 4000000 in
theorem t_X13_readClause_244  (l2 : Int32) (σ : jM) (r : Unit × jM)  (h : f_X13_readClause_244  l2 σ = some r) : J mi_X13_readClause 7 0 0 (jqV r) 244 [(0, .ref 324), (2, .int l2)] [] (ms σ) := by
  unfold f_X13_readClause_244 at h
  refine J_aload_n 0 dX13_readClause_244 rfl ?_
  obtain ⟨r148, σ149, h150, h⟩ := bd_inv h
  refine M_callVI (d' := 1) (k := 324) (As := []) (st := []) cv_X13_222 dX13_readClause_245 rfl (by decide) rfl (Nat.le_of_ble_eq_true rfl) (Nat.le_of_ble_eq_true rfl) (by decide) n_324 k_324 rfl rfl (t_X13_isWell  h150) ?_
  refine J_if_eq (tgt := 442) dX13_readClause_248 (by decide) (fun c151 => ?_) (fun c151 => ?_)
  · have h := (if_pos c151).symm.trans h
    refine J_pick [0] rfl ?_
    exact t_X13_readClause_442   _ _  h
  · have h := (if_neg c151).symm.trans h
    refine J_aload_n 0 dX13_readClause_251 rfl ?_
    refine M_ldcSw (w := 8) (tx := "count") dX13_readClause_252 (by decide +kernel) ?_
    obtain ⟨r152, σ153, h154, h⟩ := bd_inv h
    refine M_callVI (d' := 6) (k := 324) (As := [.ref (1000000 + 8)]) (st := []) cv_X13_258 dX13_readClause_255 rfl (by decide) rfl (Nat.le_of_ble_eq_true rfl) (Nat.le_of_ble_eq_true rfl) (by decide) n_324 k_324 rfl rfl (t_X13_isWord (by decide) h154) ?_
    refine J_if_eq (tgt := 442) dX13_readClause_258 (by decide) (fun c155 => ?_) (fun c155 => ?_)
    · have h := (if_pos c155).symm.trans h
      refine J_pick [0] rfl ?_
      exact t_X13_readClause_442   _ _  h
    · have h := (if_neg c155).symm.trans h
      refine J_aload_n 0 dX13_readClause_261 rfl ?_
      obtain ⟨_, σ157, h158, h⟩ := bd_inv h
      refine M_callVV (d' := 2) (k := 324) (As := []) (st := []) cv_X13_229 dX13_readClause_262 rfl (by decide) rfl (Nat.le_of_ble_eq_true rfl) (Nat.le_of_ble_eq_true rfl) (by decide) n_324 k_324 rfl rfl (t_X13_next  h158) ?_
      refine J_aload_n 0 dX13_readClause_265 rfl ?_
      refine M_getR gf_X13_44_12 dX13_readClause_266 (g_324_14 _) k_324 n_324 ?_
      refine J_iload_n 1 dX13_readClause_269 rfl ?_
      refine J_aload_n 0 dX13_readClause_270 rfl ?_
      refine J_iconst (v := 1) dX13_readClause_271 (by decide) ?_
      refine J_bipush (v := 99) dX13_readClause_272 (by decide) ?_
      obtain ⟨r159, σ160, h161, h⟩ := bd_inv h
      refine M_callVI (d' := 3) (k := 324) (As := [.int 1, .int 99]) (st := [.int l2, .ref 335]) cv_X13_236 dX13_readClause_274 rfl (by decide) rfl (Nat.le_of_ble_eq_true rfl) (Nat.le_of_ble_eq_true rfl) (by decide) n_324 k_324 rfl rfl (t_X13_number  h161) ?_
      obtain ⟨g162, h⟩ := gd_inv h
      refine M_iast dX13_readClause_277 a_335 n_335 g162 ?_
      refine J_goto (tgt := 442) dX13_readClause_278 (by decide) ?_
      refine J_pick [0] rfl ?_
      exact t_X13_readClause_442   _ _  h
set_option maxRecDepth 20000 in
set_option maxHeartbeats 4000000 in
theorem t_X13_readClause_210  (l2 : Int32) (σ : jM) (r : Unit × jM)  (h : f_X13_readClause_210  l2 σ = some r) : J mi_X13_readClause 7 0 0 (jqV r) 210 [(0, .ref 324), (2, .int l2)] [] (ms σ) := by
  unfold f_X13_readClause_210 at h
  refine J_aload_n 0 dX13_readClause_210 rfl ?_
  obtain ⟨r178, σ179, h180, h⟩ := bd_inv h
  refine M_callVI (d' := 1) (k := 324) (As := []) (st := []) cv_X13_222 dX13_readClause_211 rfl (by decide) rfl (Nat.le_of_ble_eq_true rfl) (Nat.le_of_ble_eq_true rfl) (by decide) n_324 k_324 rfl rfl (t_X13_isWell  h180) ?_
  refine J_if_eq (tgt := 244) dX13_readClause_214 (by decide) (fun c181 => ?_) (fun c181 => ?_)
  · have h := (if_pos c181).symm.trans h
    exact t_X13_readClause_244  _ _ _  h
  · have h := (if_neg c181).symm.trans h
    refine J_aload_n 0 dX13_readClause_217 rfl ?_
    refine M_ldcSw (w := 7) (tx := "length") dX13_readClause_218 (by decide +kernel) ?_
    obtain ⟨r182, σ183, h184, h⟩ := bd_inv h
    refine M_callVI (d' := 6) (k := 324) (As := [.ref (1000000 + 7)]) (st := []) cv_X13_258 dX13_readClause_221 rfl (by decide) rfl (Nat.le_of_ble_eq_true rfl) (Nat.le_of_ble_eq_true rfl) (by decide) n_324 k_324 rfl rfl (t_X13_isWord (by decide) h184) ?_
    refine J_if_eq (tgt := 244) dX13_readClause_224 (by decide) (fun c185 => ?_) (fun c185 => ?_)
    · have h := (if_pos c185).symm.trans h
      exact t_X13_readClause_244  _ _ _  h
    · have h := (if_neg c185).symm.trans h
      refine J_aload_n 0 dX13_readClause_227 rfl ?_
      obtain ⟨_, σ187, h188, h⟩ := bd_inv h
      refine M_callVV (d' := 2) (k := 324) (As := []) (st := []) cv_X13_229 dX13_readClause_228 rfl (by decide) rfl (Nat.le_of_ble_eq_true rfl) (Nat.le_of_ble_eq_true rfl) (by decide) n_324 k_324 rfl rfl (t_X13_next  h188) ?_
      refine J_aload_n 0 dX13_readClause_231 rfl ?_
      refine M_getR gf_X13_41_12 dX13_readClause_232 (g_324_13 _) k_324 n_324 ?_
      refine J_iload_n 1 dX13_readClause_235 rfl ?_
      refine J_aload_n 0 dX13_readClause_236 rfl ?_
      refine J_iconst (v := 2) dX13_readClause_237 (by decide) ?_
      refine J_bipush (v := 6) dX13_readClause_238 (by decide) ?_
      obtain ⟨r189, σ190, h191, h⟩ := bd_inv h
      refine M_callVI (d' := 3) (k := 324) (As := [.int 2, .int 6]) (st := [.int l2, .ref 334]) cv_X13_236 dX13_readClause_240 rfl (by decide) rfl (Nat.le_of_ble_eq_true rfl) (Nat.le_of_ble_eq_true rfl) (by decide) n_324 k_324 rfl rfl (t_X13_number  h191) ?_
      obtain ⟨g192, h⟩ := gd_inv h
      refine M_iast dX13_readClause_243 a_334 n_334 g192 ?_
      exact t_X13_readClause_244  _ _ _  h
set_option maxRecDepth 20000 in
set_option maxHeartbeats 4000000 in
theorem t_X13_readClause_189  (l2 : Int32) (s1 : Int32) (s2 : Int32) (σ : jM) (r : Unit × jM)  (h : f_X13_readClause_189  l2 s1 s2 σ = some r) : J mi_X13_readClause 7 0 0 (jqV r) 189 [(0, .ref 324), (2, .int l2)] [.int s2, .int s1, .ref 333] (ms σ) := by
  unfold f_X13_readClause_189 at h
  obtain ⟨g197, h⟩ := gd_inv h
  refine M_iast dX13_readClause_189 a_333 n_333 g197 ?_
  refine J_aload_n 0 dX13_readClause_190 rfl ?_
  obtain ⟨_, σ199, h200, h⟩ := bd_inv h
  refine M_callVV (d' := 2) (k := 324) (As := []) (st := []) cv_X13_229 dX13_readClause_191 rfl (by decide) rfl (Nat.le_of_ble_eq_true rfl) (Nat.le_of_ble_eq_true rfl) (by decide) n_324 k_324 rfl rfl (t_X13_next  h200) ?_
  refine J_goto (tgt := 210) dX13_readClause_194 (by decide) ?_
  exact t_X13_readClause_210  _ _ _  h
set_option maxRecDepth 20000 in
set_option maxHeartbeats 4000000 in
theorem t_X13_readClause_168  (l2 : Int32) (σ : jM) (r : Unit × jM)  (h : f_X13_readClause_168  l2 σ = some r) : J mi_X13_readClause 7 0 0 (jqV r) 168 [(0, .ref 324), (2, .int l2)] [] (ms σ) := by
  unfold f_X13_readClause_168 at h
  refine J_aload_n 0 dX13_readClause_168 rfl ?_
  refine M_getR gf_X13_38_12 dX13_readClause_169 (g_324_12 _) k_324 n_324 ?_
  refine J_iload_n 1 dX13_readClause_172 rfl ?_
  refine J_aload_n 0 dX13_readClause_173 rfl ?_
  refine M_ldcSw (w := 5) (tx := "first") dX13_readClause_174 (by decide +kernel) ?_
  obtain ⟨r205, σ206, h207, h⟩ := bd_inv h
  refine M_callVI (d' := 6) (k := 324) (As := [.ref (1000000 + 5)]) (st := [.int l2, .ref 333]) cv_X13_258 dX13_readClause_177 rfl (by decide) rfl (Nat.le_of_ble_eq_true rfl) (Nat.le_of_ble_eq_true rfl) (by decide) n_324 k_324 rfl rfl (t_X13_isWord (by decide) h207) ?_
  refine J_if_eq (tgt := 187) dX13_readClause_180 (by decide) (fun c208 => ?_) (fun c208 => ?_)
  · have h := (if_pos c208).symm.trans h
    refine J_bipush (v := 7) dX13_readClause_187 (by decide) ?_
    exact t_X13_readClause_189  _ _ _ _ _  h
  · have h := (if_neg c208).symm.trans h
    refine J_iconst (v := 0) dX13_readClause_183 (by decide) ?_
    refine J_goto (tgt := 189) dX13_readClause_184 (by decide) ?_
    exact t_X13_readClause_189  _ _ _ _ _  h
set_option maxRecDepth 20000 in
set_option maxHeartbeats 4000000 in
theorem t_X13_readClause_88  (l1 : Int32) (σ : jM) (r : Unit × jM)  (h : f_X13_readClause_88  l1 σ = some r) : J mi_X13_readClause 7 0 0 (jqV r) 88 [(0, .ref 324), (1, .int l1)] [] (ms σ) := by
  unfold f_X13_readClause_88 at h
  refine J_aload_n 0 dX13_readClause_88 rfl ?_
  obtain ⟨r252, σ253, h254, h⟩ := bd_inv h
  refine M_callVI (d' := 1) (k := 324) (As := []) (st := []) cv_X13_222 dX13_readClause_89 rfl (by decide) rfl (Nat.le_of_ble_eq_true rfl) (Nat.le_of_ble_eq_true rfl) (by decide) n_324 k_324 rfl rfl (t_X13_isWell  h254) ?_
  refine J_if_ne (tgt := 96) dX13_readClause_92 (by decide) (fun c255 => ?_) (fun c255 => ?_)
  · have h := (if_neg c255).symm.trans h
    refine J_bipush (v := 120) dX13_readClause_96 (by decide) ?_
    refine J_aload_n 0 dX13_readClause_98 rfl ?_
    refine M_getR gf_X13_32_12 dX13_readClause_99 (g_324_10 _) k_324 n_324 ?_
    refine J_bipush (v := 10) dX13_readClause_102 (by decide) ?_
    obtain ⟨g256, h⟩ := gd_inv h
    refine M_iald dX13_readClause_104 a_331 n_331 g256 ?_
    refine J_iadd dX13_readClause_105 ?_
    refine J_istore_n (i := 2) (ls' := [(2, .int (120 + (rI σ253 331 (Int32.toNatClampNeg 10)))), (0, .ref 324), (1, .int l1)]) dX13_readClause_106 rfl (by decide) rfl ?_
    refine J_aload_n 1 dX13_readClause_107 rfl ?_
    refine M_getR gf_X13_32_12 dX13_readClause_108 (g_324_10 _) k_324 n_324 ?_
    refine J_bipush (v := 10) dX13_readClause_111 (by decide) ?_
    refine J_dup2 dX13_readClause_113 rfl rfl ?_
    obtain ⟨g257, h⟩ := gd_inv h
    refine M_iald dX13_readClause_114 a_331 n_331 g257 ?_
    refine J_iconst (v := 1) dX13_readClause_115 (by decide) ?_
    refine J_iadd dX13_readClause_116 ?_
    obtain ⟨g258, h⟩ := gd_inv h
    refine M_iast dX13_readClause_117 a_331 n_331 g258 ?_
    refine J_aload_n 1 dX13_readClause_118 rfl ?_
    refine M_getR gf_X13_35_12 dX13_readClause_119 (g_324_11 _) k_324 n_324 ?_
    refine J_iload_n 0 dX13_readClause_122 rfl ?_
    refine J_iload_n 2 dX13_readClause_123 rfl ?_
    obtain ⟨g259, h⟩ := gd_inv h
    refine M_iast dX13_readClause_124 a_332 n_332 g259 ?_
    refine J_aload_n 1 dX13_readClause_125 rfl ?_
    obtain ⟨_, σ261, h262, h⟩ := bd_inv h
    refine M_callVV (d' := 2) (k := 324) (As := []) (st := []) cv_X13_229 dX13_readClause_126 rfl (by decide) rfl (Nat.le_of_ble_eq_true rfl) (Nat.le_of_ble_eq_true rfl) (by decide) n_324 k_324 rfl rfl (t_X13_next  h262) ?_
    refine J_iload_n 2 dX13_readClause_129 rfl ?_
    refine J_iconst (v := 2) dX13_readClause_130 (by decide) ?_
    refine J_icmp_ge (tgt := 281) dX13_readClause_131 (by decide) (fun c263 => ?_) (fun c263 => ?_)
    · have h := (if_pos c263).symm.trans h
      refine J_aload_n 1 dX13_readClause_281 rfl ?_
      refine M_getR gf_X13_38_12 dX13_readClause_282 (g_324_12 _) k_324 n_324 ?_
      refine J_iload_n 0 dX13_readClause_285 rfl ?_
      refine J_aload_n 1 dX13_readClause_286 rfl ?_
      obtain ⟨r264, σ265, h266, h⟩ := bd_inv h
      refine M_callVI (d' := 2) (k := 324) (As := []) (st := [.int (120 + (rI σ253 331 (Int32.toNatClampNeg 10))), .ref 333]) cv_X13_275 dX13_readClause_287 rfl (by decide) rfl (Nat.le_of_ble_eq_true rfl) (Nat.le_of_ble_eq_true rfl) (by decide) n_324 k_324 rfl rfl (t_X13_letterHere  h266) ?_
      obtain ⟨g267, h⟩ := gd_inv h
      refine M_iast dX13_readClause_290 a_333 n_333 g267 ?_
      refine J_aload_n 1 dX13_readClause_291 rfl ?_
      obtain ⟨r268, σ269, h270, h⟩ := bd_inv h
      refine M_callVI (d' := 1) (k := 324) (As := []) (st := []) cv_X13_222 dX13_readClause_292 rfl (by decide) rfl (Nat.le_of_ble_eq_true rfl) (Nat.le_of_ble_eq_true rfl) (by decide) n_324 k_324 rfl rfl (t_X13_isWell  h270) ?_
      refine J_if_eq (tgt := 321) dX13_readClause_295 (by decide) (fun c271 => ?_) (fun c271 => ?_)
      · have h := (if_pos c271).symm.trans h
        refine J_pick [1, 2, 0] rfl ?_
        exact t_X13_readClause_321  _ _ _ _  h
      · have h := (if_neg c271).symm.trans h
        refine J_iload_n 2 dX13_readClause_298 rfl ?_
        refine J_iconst (v := 3) dX13_readClause_299 (by decide) ?_
        refine J_icmp_ne (tgt := 321) dX13_readClause_300 (by decide) (fun c272 => ?_) (fun c272 => ?_)
        · have h := (if_neg c272).symm.trans h
          refine J_pick [1, 2, 0] rfl ?_
          exact t_X13_readClause_321  _ _ _ _  h
        · have h := (if_pos c272).symm.trans h
          refine J_aload_n 1 dX13_readClause_303 rfl ?_
          refine M_getR gf_X13_38_12 dX13_readClause_304 (g_324_12 _) k_324 n_324 ?_
          refine J_iload_n 0 dX13_readClause_307 rfl ?_
          obtain ⟨g273, h⟩ := gd_inv h
          refine M_iald dX13_readClause_308 a_333 n_333 g273 ?_
          obtain ⟨r274, σ275, h276, h⟩ := bd_inv h
          refine M_callSI (d' := 1) (As := [.int (rI σ269 333 (Int32.toNatClampNeg (120 + (rI σ253 331 (Int32.toNatClampNeg 10)))))]) (st := []) cs_X13_278 dX13_readClause_309 rfl (Nat.le_of_ble_eq_true rfl) (Nat.le_of_ble_eq_true rfl) (by decide) rfl rfl (t_X13_vowel  h276) ?_
          refine J_iconst (v := (-1)) dX13_readClause_312 (by decide) ?_
          refine J_icmp_eq (tgt := 321) dX13_readClause_313 (by decide) (fun c277 => ?_) (fun c277 => ?_)
          · have h := (if_pos c277).symm.trans h
            refine J_pick [1, 2, 0] rfl ?_
            exact t_X13_readClause_321  _ _ _ _  h
          · have h := (if_neg c277).symm.trans h
            refine J_aload_n 1 dX13_readClause_316 rfl ?_
            refine J_iconst (v := 2) dX13_readClause_317 (by decide) ?_
            obtain ⟨_, σ279, h280, h⟩ := bd_inv h
            refine M_callVV (d' := 1) (k := 324) (As := [.int 2]) (st := []) cv_X13_232 dX13_readClause_318 rfl (by decide) rfl (Nat.le_of_ble_eq_true rfl) (Nat.le_of_ble_eq_true rfl) (by decide) n_324 k_324 rfl rfl (t_X13_fails  h280) ?_
            refine J_pick [1, 2, 0] rfl ?_
            exact t_X13_readClause_321  _ _ _ _  h
    · have h := (if_neg c263).symm.trans h
      refine J_aload_n 1 dX13_readClause_134 rfl ?_
      refine M_getR gf_X13_41_12 dX13_readClause_135 (g_324_13 _) k_324 n_324 ?_
      refine J_iload_n 0 dX13_readClause_138 rfl ?_
      refine J_iconst (v := 3) dX13_readClause_139 (by decide) ?_
      obtain ⟨g281, h⟩ := gd_inv h
      refine M_iast dX13_readClause_140 a_334 n_334 g281 ?_
      refine J_aload_n 1 dX13_readClause_141 rfl ?_
      refine M_getR gf_X13_44_12 dX13_readClause_142 (g_324_14 _) k_324 n_324 ?_
      refine J_iload_n 0 dX13_readClause_145 rfl ?_
      refine J_iconst (v := 1) dX13_readClause_146 (by decide) ?_
      obtain ⟨g282, h⟩ := gd_inv h
      refine M_iast dX13_readClause_147 a_335 n_335 g282 ?_
      refine J_aload_n 1 dX13_readClause_148 rfl ?_
      refine M_ldcSw (w := 5) (tx := "first") dX13_readClause_149 (by decide +kernel) ?_
      obtain ⟨r283, σ284, h285, h⟩ := bd_inv h
      refine M_callVI (d' := 6) (k := 324) (As := [.ref (1000000 + 5)]) (st := []) cv_X13_258 dX13_readClause_152 rfl (by decide) rfl (Nat.le_of_ble_eq_true rfl) (Nat.le_of_ble_eq_true rfl) (by decide) n_324 k_324 rfl rfl (t_X13_isWord (by decide) h285) ?_
      refine J_if_ne (tgt := 168) dX13_readClause_155 (by decide) (fun c286 => ?_) (fun c286 => ?_)
      · have h := (if_neg c286).symm.trans h
        refine J_pick [1, 0] rfl ?_
        exact t_X13_readClause_168  _ _ _  h
      · have h := (if_pos c286).symm.trans h
        refine J_aload_n 1 dX13_readClause_158 rfl ?_
        refine M_ldcSw (w := 6) (tx := "last") dX13_readClause_159 (by decide +kernel) ?_
        obtain ⟨r287, σ288, h289, h⟩ := bd_inv h
        refine M_callVI (d' := 6) (k := 324) (As := [.ref (1000000 + 6)]) (st := []) cv_X13_258 dX13_readClause_162 rfl (by decide) rfl (Nat.le_of_ble_eq_true rfl) (Nat.le_of_ble_eq_true rfl) (by decide) n_324 k_324 rfl rfl (t_X13_isWord (by decide) h289) ?_
        refine J_if_eq (tgt := 197) dX13_readClause_165 (by decide) (fun c290 => ?_) (fun c290 => ?_)
        · have h := (if_pos c290).symm.trans h
          refine J_aload_n 1 dX13_readClause_197 rfl ?_
          refine M_getR gf_X13_38_12 dX13_readClause_198 (g_324_12 _) k_324 n_324 ?_
          refine J_iload_n 0 dX13_readClause_201 rfl ?_
          refine J_aload_n 1 dX13_readClause_202 rfl ?_
          refine J_iconst (v := 1) dX13_readClause_203 (by decide) ?_
          refine J_bipush (v := 6) dX13_readClause_204 (by decide) ?_
          obtain ⟨r291, σ292, h293, h⟩ := bd_inv h
          refine M_callVI (d' := 3) (k := 324) (As := [.int 1, .int 6]) (st := [.int (120 + (rI σ253 331 (Int32.toNatClampNeg 10))), .ref 333]) cv_X13_236 dX13_readClause_206 rfl (by decide) rfl (Nat.le_of_ble_eq_true rfl) (Nat.le_of_ble_eq_true rfl) (by decide) n_324 k_324 rfl rfl (t_X13_number  h293) ?_
          obtain ⟨g294, h⟩ := gd_inv h
          refine M_iast dX13_readClause_209 a_333 n_333 g294 ?_
          refine J_pick [1, 0] rfl ?_
          exact t_X13_readClause_210  _ _ _  h
        · have h := (if_neg c290).symm.trans h
          refine J_pick [1, 0] rfl ?_
          exact t_X13_readClause_168  _ _ _  h
  · have h := (if_pos c255).symm.trans h
    exact J_ret (v := none) rfl ⟨dX13_readClause_95, rfl⟩ (jqV_mk h)
set_option maxRecDepth 20000 in
set_option maxHeartbeats 4000000 in
theorem t_X13_readClause_57  (s0 : Int32) (σ : jM) (r : Unit × jM)  (h : f_X13_readClause_57  s0 σ = some r) : J mi_X13_readClause 7 0 0 (jqV r) 57 [(0, .ref 324)] [.int s0] (ms σ) := by
  unfold f_X13_readClause_57 at h
  refine J_istore_n (i := 1) (ls' := [(1, .int s0), (0, .ref 324)]) dX13_readClause_57 rfl (by decide) rfl ?_
  refine J_iload_n 0 dX13_readClause_58 rfl ?_
  refine J_iconst (v := (-1)) dX13_readClause_59 (by decide) ?_
  refine J_icmp_ne (tgt := 71) dX13_readClause_60 (by decide) (fun c304 => ?_) (fun c304 => ?_)
  · have h := (if_neg c304).symm.trans h
    refine J_aload_n 1 dX13_readClause_71 rfl ?_
    refine M_getR gf_X13_32_12 dX13_readClause_72 (g_324_10 _) k_324 n_324 ?_
    refine J_bipush (v := 10) dX13_readClause_75 (by decide) ?_
    obtain ⟨g305, h⟩ := gd_inv h
    refine M_iald dX13_readClause_77 a_331 n_331 g305 ?_
    refine J_bipush (v := 12) dX13_readClause_78 (by decide) ?_
    refine J_icmp_ne (tgt := 88) dX13_readClause_80 (by decide) (fun c306 => ?_) (fun c306 => ?_)
    · have h := (if_neg c306).symm.trans h
      refine J_pick [1, 0] rfl ?_
      exact t_X13_readClause_88  _ _ _  h
    · have h := (if_pos c306).symm.trans h
      refine J_aload_n 1 dX13_readClause_83 rfl ?_
      refine J_iconst (v := 3) dX13_readClause_84 (by decide) ?_
      obtain ⟨_, σ308, h309, h⟩ := bd_inv h
      refine M_callVV (d' := 1) (k := 324) (As := [.int 3]) (st := []) cv_X13_232 dX13_readClause_85 rfl (by decide) rfl (Nat.le_of_ble_eq_true rfl) (Nat.le_of_ble_eq_true rfl) (by decide) n_324 k_324 rfl rfl (t_X13_fails  h309) ?_
      refine J_pick [1, 0] rfl ?_
      exact t_X13_readClause_88  _ _ _  h
  · have h := (if_pos c304).symm.trans h
    refine J_aload_n 1 dX13_readClause_63 rfl ?_
    refine J_iconst (v := 1) dX13_readClause_64 (by decide) ?_
    obtain ⟨_, σ311, h312, h⟩ := bd_inv h
    refine M_callVV (d' := 1) (k := 324) (As := [.int 1]) (st := []) cv_X13_232 dX13_readClause_65 rfl (by decide) rfl (Nat.le_of_ble_eq_true rfl) (Nat.le_of_ble_eq_true rfl) (by decide) n_324 k_324 rfl rfl (t_X13_fails  h312) ?_
    refine J_goto (tgt := 88) dX13_readClause_68 (by decide) ?_
    refine J_pick [1, 0] rfl ?_
    exact t_X13_readClause_88  _ _ _  h
set_option maxRecDepth 20000 in
set_option maxHeartbeats 4000000 in
theorem t_X13_readClause  {σ : jM} {r : Unit × jM}  (h : f_X13_readClause  σ = some r) : J mi_X13_readClause 7 0 0 (jqV r) 0 [(0, .ref 324)] [] (ms σ) := by
  unfold f_X13_readClause at h
  refine J_aload_n 0 dX13_readClause_0 rfl ?_
  refine M_ldcSw (w := 0) (tx := "consonant") dX13_readClause_1 (by decide +kernel) ?_
  obtain ⟨r313, σ314, h315, h⟩ := bd_inv h
  refine M_callVI (d' := 6) (k := 324) (As := [.ref (1000000 + 0)]) (st := []) cv_X13_258 dX13_readClause_4 rfl (by decide) rfl (Nat.le_of_ble_eq_true rfl) (Nat.le_of_ble_eq_true rfl) (by decide) n_324 k_324 rfl rfl (t_X13_isWord (by decide) h315) ?_
  refine J_if_eq (tgt := 14) dX13_readClause_7 (by decide) (fun c316 => ?_) (fun c316 => ?_)
  · have h := (if_pos c316).symm.trans h
    refine J_aload_n 0 dX13_readClause_14 rfl ?_
    refine M_ldcSw (w := 1) (tx := "vowel") dX13_readClause_15 (by decide +kernel) ?_
    obtain ⟨r317, σ318, h319, h⟩ := bd_inv h
    refine M_callVI (d' := 6) (k := 324) (As := [.ref (1000000 + 1)]) (st := []) cv_X13_258 dX13_readClause_18 rfl (by decide) rfl (Nat.le_of_ble_eq_true rfl) (Nat.le_of_ble_eq_true rfl) (by decide) n_324 k_324 rfl rfl (t_X13_isWord (by decide) h319) ?_
    refine J_if_eq (tgt := 28) dX13_readClause_21 (by decide) (fun c320 => ?_) (fun c320 => ?_)
    · have h := (if_pos c320).symm.trans h
      refine J_aload_n 0 dX13_readClause_28 rfl ?_
      refine M_ldcSw (w := 2) (tx := "write") dX13_readClause_29 (by decide +kernel) ?_
      obtain ⟨r321, σ322, h323, h⟩ := bd_inv h
      refine M_callVI (d' := 6) (k := 324) (As := [.ref (1000000 + 2)]) (st := []) cv_X13_258 dX13_readClause_32 rfl (by decide) rfl (Nat.le_of_ble_eq_true rfl) (Nat.le_of_ble_eq_true rfl) (by decide) n_324 k_324 rfl rfl (t_X13_isWord (by decide) h323) ?_
      refine J_if_eq (tgt := 42) dX13_readClause_35 (by decide) (fun c324 => ?_) (fun c324 => ?_)
      · have h := (if_pos c324).symm.trans h
        refine J_aload_n 0 dX13_readClause_42 rfl ?_
        refine M_ldcSw (w := 3) (tx := "drop") dX13_readClause_43 (by decide +kernel) ?_
        obtain ⟨r325, σ326, h327, h⟩ := bd_inv h
        refine M_callVI (d' := 6) (k := 324) (As := [.ref (1000000 + 3)]) (st := []) cv_X13_258 dX13_readClause_46 rfl (by decide) rfl (Nat.le_of_ble_eq_true rfl) (Nat.le_of_ble_eq_true rfl) (by decide) n_324 k_324 rfl rfl (t_X13_isWord (by decide) h327) ?_
        refine J_if_eq (tgt := 56) dX13_readClause_49 (by decide) (fun c328 => ?_) (fun c328 => ?_)
        · have h := (if_pos c328).symm.trans h
          refine J_iconst (v := (-1)) dX13_readClause_56 (by decide) ?_
          exact t_X13_readClause_57  _ _ _  h
        · have h := (if_neg c328).symm.trans h
          refine J_iconst (v := 3) dX13_readClause_52 (by decide) ?_
          refine J_goto (tgt := 57) dX13_readClause_53 (by decide) ?_
          exact t_X13_readClause_57  _ _ _  h
      · have h := (if_neg c324).symm.trans h
        refine J_iconst (v := 2) dX13_readClause_38 (by decide) ?_
        refine J_goto (tgt := 57) dX13_readClause_39 (by decide) ?_
        exact t_X13_readClause_57  _ _ _  h
    · have h := (if_neg c320).symm.trans h
      refine J_iconst (v := 1) dX13_readClause_24 (by decide) ?_
      refine J_goto (tgt := 57) dX13_readClause_25 (by decide) ?_
      exact t_X13_readClause_57  _ _ _  h
  · have h := (if_neg c316).symm.trans h
    refine J_iconst (v := 0) dX13_readClause_10 (by decide) ?_
    refine J_goto (tgt := 57) dX13_readClause_11 (by decide) ?_
    exact t_X13_readClause_57  _ _ _  h
