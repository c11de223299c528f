theorem dX13_linksBy_0 : decode cX13_linksBy 0 = .ok (.iconst 0, 1) := by decide +kernel
theorem dX13_linksBy_1 : decode cX13_linksBy 1 = .ok (.istore_n 2, 1) := by decide +kernel
theorem dX13_linksBy_2 : decode cX13_linksBy 2 = .ok (.iload_n 2, 1) := by decide +kernel
theorem dX13_linksBy_3 : decode cX13_linksBy 3 = .ok (.sipush 1600, 3) := by decide +kernel
theorem dX13_linksBy_6 : decode cX13_linksBy 6 = .ok (.if_icmp .ge 16, 3) := by decide +kernel
theorem dX13_linksBy_9 : decode cX13_linksBy 9 = .ok (.aload_n 0, 1) := by decide +kernel
theorem dX13_linksBy_10 : decode cX13_linksBy 10 = .ok (.getfield 109, 3) := by decide +kernel
theorem dX13_linksBy_13 : decode cX13_linksBy 13 = .ok (.iload_n 2, 1) := by decide +kernel
theorem dX13_linksBy_14 : decode cX13_linksBy 14 = .ok (.iconst 0, 1) := by decide +kernel
theorem dX13_linksBy_15 : decode cX13_linksBy 15 = .ok (.iastore, 1) := by decide +kernel
theorem dX13_linksBy_16 : decode cX13_linksBy 16 = .ok (.iinc 2 1, 3) := by decide +kernel
theorem dX13_linksBy_19 : decode cX13_linksBy 19 = .ok (.goto (-17), 3) := by decide +kernel
theorem dX13_linksBy_22 : decode cX13_linksBy 22 = .ok (.iconst 0, 1) := by decide +kernel
theorem dX13_linksBy_23 : decode cX13_linksBy 23 = .ok (.istore_n 2, 1) := by decide +kernel
theorem dX13_linksBy_24 : decode cX13_linksBy 24 = .ok (.iload_n 2, 1) := by decide +kernel
theorem dX13_linksBy_25 : decode cX13_linksBy 25 = .ok (.aload_n 0, 1) := by decide +kernel
theorem dX13_linksBy_26 : decode cX13_linksBy 26 = .ok (.getfield 307, 3) := by decide +kernel
theorem dX13_linksBy_29 : decode cX13_linksBy 29 = .ok (.if_icmp .ge 111, 3) := by decide +kernel
theorem dX13_linksBy_32 : decode cX13_linksBy 32 = .ok (.iload_n 2, 1) := by decide +kernel
theorem dX13_linksBy_33 : decode cX13_linksBy 33 = .ok (.iconst 1, 1) := by decide +kernel
theorem dX13_linksBy_34 : decode cX13_linksBy 34 = .ok (.iadd, 1) := by decide +kernel
theorem dX13_linksBy_35 : decode cX13_linksBy 35 = .ok (.istore_n 3, 1) := by decide +kernel
theorem dX13_linksBy_36 : decode cX13_linksBy 36 = .ok (.iload_n 3, 1) := by decide +kernel
theorem dX13_linksBy_37 : decode cX13_linksBy 37 = .ok (.aload_n 0, 1) := by decide +kernel
theorem dX13_linksBy_38 : decode cX13_linksBy 38 = .ok (.getfield 307, 3) := by decide +kernel
theorem dX13_linksBy_41 : decode cX13_linksBy 41 = .ok (.if_icmp .ge 93, 3) := by decide +kernel
theorem dX13_linksBy_44 : decode cX13_linksBy 44 = .ok (.aload_n 0, 1) := by decide +kernel
theorem dX13_linksBy_45 : decode cX13_linksBy 45 = .ok (.iload_n 1, 1) := by decide +kernel
theorem dX13_linksBy_46 : decode cX13_linksBy 46 = .ok (.iload_n 2, 1) := by decide +kernel
theorem dX13_linksBy_47 : decode cX13_linksBy 47 = .ok (.iload_n 3, 1) := by decide +kernel
theorem dX13_linksBy_48 : decode cX13_linksBy 48 = .ok (.invokevirtual 323, 3) := by decide +kernel
theorem dX13_linksBy_51 : decode cX13_linksBy 51 = .ok (.ifCond .ne 6, 3) := by decide +kernel
theorem dX13_linksBy_54 : decode cX13_linksBy 54 = .ok (.goto 74, 3) := by decide +kernel
theorem dX13_linksBy_57 : decode cX13_linksBy 57 = .ok (.aload_n 0, 1) := by decide +kernel
theorem dX13_linksBy_58 : decode cX13_linksBy 58 = .ok (.iload_n 2, 1) := by decide +kernel
theorem dX13_linksBy_59 : decode cX13_linksBy 59 = .ok (.iload_n 3, 1) := by decide +kernel
theorem dX13_linksBy_60 : decode cX13_linksBy 60 = .ok (.invokevirtual 320, 3) := by decide +kernel
theorem dX13_linksBy_63 : decode cX13_linksBy 63 = .ok (.istore 4, 2) := by decide +kernel
theorem dX13_linksBy_65 : decode cX13_linksBy 65 = .ok (.aload_n 0, 1) := by decide +kernel
theorem dX13_linksBy_66 : decode cX13_linksBy 66 = .ok (.getfield 97, 3) := by decide +kernel
theorem dX13_linksBy_69 : decode cX13_linksBy 69 = .ok (.bipush 6, 2) := by decide +kernel
theorem dX13_linksBy_71 : decode cX13_linksBy 71 = .ok (.iload_n 2, 1) := by decide +kernel
theorem dX13_linksBy_72 : decode cX13_linksBy 72 = .ok (.imul, 1) := by decide +kernel
theorem dX13_linksBy_73 : decode cX13_linksBy 73 = .ok (.iload 4, 2) := by decide +kernel
theorem dX13_linksBy_75 : decode cX13_linksBy 75 = .ok (.iadd, 1) := by decide +kernel
theorem dX13_linksBy_76 : decode cX13_linksBy 76 = .ok (.iaload, 1) := by decide +kernel
theorem dX13_linksBy_77 : decode cX13_linksBy 77 = .ok (.istore 5, 2) := by decide +kernel
theorem dX13_linksBy_79 : decode cX13_linksBy 79 = .ok (.aload_n 0, 1) := by decide +kernel
theorem dX13_linksBy_80 : decode cX13_linksBy 80 = .ok (.getfield 97, 3) := by decide +kernel
theorem dX13_linksBy_83 : decode cX13_linksBy 83 = .ok (.bipush 6, 2) := by decide +kernel
theorem dX13_linksBy_85 : decode cX13_linksBy 85 = .ok (.iload_n 3, 1) := by decide +kernel
theorem dX13_linksBy_86 : decode cX13_linksBy 86 = .ok (.imul, 1) := by decide +kernel
theorem dX13_linksBy_87 : decode cX13_linksBy 87 = .ok (.iload 4, 2) := by decide +kernel
theorem dX13_linksBy_89 : decode cX13_linksBy 89 = .ok (.iadd, 1) := by decide +kernel
theorem dX13_linksBy_90 : decode cX13_linksBy 90 = .ok (.iaload, 1) := by decide +kernel
theorem dX13_linksBy_91 : decode cX13_linksBy 91 = .ok (.istore 6, 2) := by decide +kernel
theorem dX13_linksBy_93 : decode cX13_linksBy 93 = .ok (.aload_n 0, 1) := by decide +kernel
theorem dX13_linksBy_94 : decode cX13_linksBy 94 = .ok (.getfield 109, 3) := by decide +kernel
theorem dX13_linksBy_97 : decode cX13_linksBy 97 = .ok (.iload 5, 2) := by decide +kernel
theorem dX13_linksBy_99 : decode cX13_linksBy 99 = .ok (.iload 6, 2) := by decide +kernel
theorem dX13_linksBy_101 : decode cX13_linksBy 101 = .ok (.if_icmp .ge 14, 3) := by decide +kernel
theorem dX13_linksBy_104 : decode cX13_linksBy 104 = .ok (.bipush 40, 2) := by decide +kernel
theorem dX13_linksBy_106 : decode cX13_linksBy 106 = .ok (.iload 5, 2) := by decide +kernel
theorem dX13_linksBy_108 : decode cX13_linksBy 108 = .ok (.imul, 1) := by decide +kernel
theorem dX13_linksBy_109 : decode cX13_linksBy 109 = .ok (.iload 6, 2) := by decide +kernel
theorem dX13_linksBy_111 : decode cX13_linksBy 111 = .ok (.iadd, 1) := by decide +kernel
theorem dX13_linksBy_112 : decode cX13_linksBy 112 = .ok (.goto 11, 3) := by decide +kernel
theorem dX13_linksBy_115 : decode cX13_linksBy 115 = .ok (.bipush 40, 2) := by decide +kernel
theorem dX13_linksBy_117 : decode cX13_linksBy 117 = .ok (.iload 6, 2) := by decide +kernel
theorem dX13_linksBy_119 : decode cX13_linksBy 119 = .ok (.imul, 1) := by decide +kernel
theorem dX13_linksBy_120 : decode cX13_linksBy 120 = .ok (.iload 5, 2) := by decide +kernel
theorem dX13_linksBy_122 : decode cX13_linksBy 122 = .ok (.iadd, 1) := by decide +kernel
theorem dX13_linksBy_123 : decode cX13_linksBy 123 = .ok (.dup2, 1) := by decide +kernel
theorem dX13_linksBy_124 : decode cX13_linksBy 124 = .ok (.iaload, 1) := by decide +kernel
theorem dX13_linksBy_125 : decode cX13_linksBy 125 = .ok (.iconst 1, 1) := by decide +kernel
theorem dX13_linksBy_126 : decode cX13_linksBy 126 = .ok (.iadd, 1) := by decide +kernel
theorem dX13_linksBy_127 : decode cX13_linksBy 127 = .ok (.iastore, 1) := by decide +kernel
theorem dX13_linksBy_128 : decode cX13_linksBy 128 = .ok (.iinc 3 1, 3) := by decide +kernel
theorem dX13_linksBy_131 : decode cX13_linksBy 131 = .ok (.goto (-95), 3) := by decide +kernel
theorem dX13_linksBy_134 : decode cX13_linksBy 134 = .ok (.iinc 2 1, 3) := by decide +kernel
theorem dX13_linksBy_137 : decode cX13_linksBy 137 = .ok (.goto (-113), 3) := by decide +kernel
theorem dX13_linksBy_140 : decode cX13_linksBy 140 = .ok (.iconst 0, 1) := by decide +kernel
theorem dX13_linksBy_141 : decode cX13_linksBy 141 = .ok (.istore_n 2, 1) := by decide +kernel
theorem dX13_linksBy_142 : decode cX13_linksBy 142 = .ok (.iload_n 2, 1) := by decide +kernel
theorem dX13_linksBy_143 : decode cX13_linksBy 143 = .ok (.sipush 1600, 3) := by decide +kernel
theorem dX13_linksBy_146 : decode cX13_linksBy 146 = .ok (.if_icmp .ge 42, 3) := by decide +kernel
theorem dX13_linksBy_149 : decode cX13_linksBy 149 = .ok (.aload_n 0, 1) := by decide +kernel
theorem dX13_linksBy_150 : decode cX13_linksBy 150 = .ok (.getfield 109, 3) := by decide +kernel
theorem dX13_linksBy_153 : decode cX13_linksBy 153 = .ok (.iload_n 2, 1) := by decide +kernel
theorem dX13_linksBy_154 : decode cX13_linksBy 154 = .ok (.iaload, 1) := by decide +kernel
theorem dX13_linksBy_155 : decode cX13_linksBy 155 = .ok (.aload_n 0, 1) := by decide +kernel
theorem dX13_linksBy_156 : decode cX13_linksBy 156 = .ok (.getfield 44, 3) := by decide +kernel
theorem dX13_linksBy_159 : decode cX13_linksBy 159 = .ok (.iload_n 1, 1) := by decide +kernel
theorem dX13_linksBy_160 : decode cX13_linksBy 160 = .ok (.iaload, 1) := by decide +kernel
theorem dX13_linksBy_161 : decode cX13_linksBy 161 = .ok (.if_icmp .lt 21, 3) := by decide +kernel
theorem dX13_linksBy_164 : decode cX13_linksBy 164 = .ok (.aload_n 0, 1) := by decide +kernel
theorem dX13_linksBy_165 : decode cX13_linksBy 165 = .ok (.aload_n 0, 1) := by decide +kernel
theorem dX13_linksBy_166 : decode cX13_linksBy 166 = .ok (.getfield 35, 3) := by decide +kernel
theorem dX13_linksBy_169 : decode cX13_linksBy 169 = .ok (.iload_n 1, 1) := by decide +kernel
theorem dX13_linksBy_170 : decode cX13_linksBy 170 = .ok (.iaload, 1) := by decide +kernel
theorem dX13_linksBy_171 : decode cX13_linksBy 171 = .ok (.iload_n 2, 1) := by decide +kernel
theorem dX13_linksBy_172 : decode cX13_linksBy 172 = .ok (.bipush 40, 2) := by decide +kernel
theorem dX13_linksBy_174 : decode cX13_linksBy 174 = .ok (.idiv, 1) := by decide +kernel
theorem dX13_linksBy_175 : decode cX13_linksBy 175 = .ok (.iload_n 2, 1) := by decide +kernel
theorem dX13_linksBy_176 : decode cX13_linksBy 176 = .ok (.bipush 40, 2) := by decide +kernel
theorem dX13_linksBy_178 : decode cX13_linksBy 178 = .ok (.irem, 1) := by decide +kernel
theorem dX13_linksBy_179 : decode cX13_linksBy 179 = .ok (.invokevirtual 338, 3) := by decide +kernel
theorem dX13_linksBy_182 : decode cX13_linksBy 182 = .ok (.iinc 2 1, 3) := by decide +kernel
theorem dX13_linksBy_185 : decode cX13_linksBy 185 = .ok (.goto (-43), 3) := by decide +kernel
theorem dX13_linksBy_188 : decode cX13_linksBy 188 = .ok (.return_, 1) := by decide +kernel
noncomputable def f_X13_linksBy_182 (rec142 : Int32 → Int32 → jM → Option (Unit × jM)) (l1 : Int32) (l2 : Int32) (σ : jM) : Option (Unit × jM) :=
  rec142 l1 (l2 + 1) σ
noncomputable def s_X13_linksBy_142  (rec142 : Int32 → Int32 → jM → Option (Unit × jM)) (l1 : Int32) (l2 : Int32) (σ : jM) : Option (Unit × jM) :=
  (if 1600 ≤ l2 then some ((), σ) else gd (inb l2 1600) (gd (inb l1 132) ((if (rI σ 355 (Int32.toNatClampNeg l2)) < (rI σ 335 (Int32.toNatClampNeg l1)) then f_X13_linksBy_182 rec142 l1 l2 σ else gd (inb l1 132) (bd (f_X13_links (rI σ 332 (Int32.toNatClampNeg l1)) (l2 / 40) (l2 - l2 / 40 * 40) σ) (fun _ σ15 => f_X13_linksBy_182 rec142 l1 l2 σ15))))))
noncomputable def f_X13_linksBy_142  (n : Nat) : Int32 → Int32 → jM → Option (Unit × jM) := Nat.rec (motive := fun _ => Int32 → Int32 → jM → Option (Unit × jM)) (fun _ _ _ => none) (fun _ q => s_X13_linksBy_142  q) n
noncomputable def f_X13_linksBy_128 (rec24 : Int32 → Int32 → jM → Option (Unit × jM)) (rec36 : Int32 → Int32 → Int32 → jM → Option (Unit × jM)) (l1 : Int32) (l2 : Int32) (l3 : Int32) (σ : jM) : Option (Unit × jM) :=
  rec36 l1 l2 (l3 + 1) σ
noncomputable def f_X13_linksBy_123 (rec24 : Int32 → Int32 → jM → Option (Unit × jM)) (rec36 : Int32 → Int32 → Int32 → jM → Option (Unit × jM)) (l1 : Int32) (l2 : Int32) (l3 : Int32) (s1 : Int32) (σ : jM) : Option (Unit × jM) :=
  gd (inb s1 1600) (gd (inb s1 1600) (f_X13_linksBy_128 rec24 rec36 l1 l2 l3 (wI σ 355 (Int32.toNatClampNeg s1) ((rI σ 355 (Int32.toNatClampNeg s1)) + 1))))
noncomputable def s_X13_linksBy_36 (rec24 : Int32 → Int32 → jM → Option (Unit × jM)) (rec36 : Int32 → Int32 → Int32 → jM → Option (Unit × jM)) (l1 : Int32) (l2 : Int32) (l3 : Int32) (σ : jM) : Option (Unit × jM) :=
  (if (rI σ 324 39) ≤ l3 then rec24 l1 (l2 + 1) σ else bd (f_X13_tellsBy l1 l2 l3 σ) (fun r30 σ31 => (if r30 = 0 then f_X13_linksBy_128 rec24 rec36 l1 l2 l3 σ31 else bd (f_X13_unlikeAt l2 l3 σ31) (fun r34 σ35 => gd (inb ((6 * l2) + r34) 1152) (gd (inb ((6 * l3) + r34) 1152) ((if (rI σ35 351 (Int32.toNatClampNeg ((6 * l3) + r34))) ≤ (rI σ35 351 (Int32.toNatClampNeg ((6 * l2) + r34))) then f_X13_linksBy_123 rec24 rec36 l1 l2 l3 ((40 * (rI σ35 351 (Int32.toNatClampNeg ((6 * l3) + r34)))) + (rI σ35 351 (Int32.toNatClampNeg ((6 * l2) + r34)))) σ35 else f_X13_linksBy_123 rec24 rec36 l1 l2 l3 ((40 * (rI σ35 351 (Int32.toNatClampNeg ((6 * l2) + r34)))) + (rI σ35 351 (Int32.toNatClampNeg ((6 * l3) + r34)))) σ35)))))))
noncomputable def f_X13_linksBy_36 (rec24 : Int32 → Int32 → jM → Option (Unit × jM)) (n : Nat) : Int32 → Int32 → Int32 → jM → Option (Unit × jM) := Nat.rec (motive := fun _ => Int32 → Int32 → Int32 → jM → Option (Unit × jM)) (fun _ _ _ _ => none) (fun _ q => s_X13_linksBy_36 rec24 q) n
noncomputable def s_X13_linksBy_24  (rec24 : Int32 → Int32 → jM → Option (Unit × jM)) (l1 : Int32) (l2 : Int32) (σ : jM) : Option (Unit × jM) :=
  (if (rI σ 324 39) ≤ l2 then f_X13_linksBy_142  Fu l1 0 σ else f_X13_linksBy_36 rec24 Fu l1 l2 (l2 + 1) σ)
noncomputable def f_X13_linksBy_24  (n : Nat) : Int32 → Int32 → jM → Option (Unit × jM) := Nat.rec (motive := fun _ => Int32 → Int32 → jM → Option (Unit × jM)) (fun _ _ _ => none) (fun _ q => s_X13_linksBy_24  q) n
noncomputable def s_X13_linksBy_2  (rec2 : Int32 → Int32 → jM → Option (Unit × jM)) (l1 : Int32) (l2 : Int32) (σ : jM) : Option (Unit × jM) :=
  (if 1600 ≤ l2 then f_X13_linksBy_24  Fu l1 0 σ else gd (inb l2 1600) (rec2 l1 (l2 + 1) (wI σ 355 (Int32.toNatClampNeg l2) 0)))
noncomputable def f_X13_linksBy_2  (n : Nat) : Int32 → Int32 → jM → Option (Unit × jM) := Nat.rec (motive := fun _ => Int32 → Int32 → jM → Option (Unit × jM)) (fun _ _ _ => none) (fun _ q => s_X13_linksBy_2  q) n
noncomputable def f_X13_linksBy (a1 : Int32) (σ : jM) : Option (Unit × jM) :=
  f_X13_linksBy_2  Fu a1 0 σ
set_option maxRecDepth 20000 in
set_option maxHeartbeats 4000000 in
theorem t_X13_linksBy_182 {rec142 : Int32 → Int32 → jM → Option (Unit × jM)} (hrec142 : ∀ (l1 : Int32) (l2 : Int32) (σ : jM) (r : Unit × jM), rec142 l1 l2 σ = some r → J mi_X13_linksBy 3 0 0 (jqV r) 142 [(0, .ref 324), (1, .int l1), (2, .int l2)] [] (ms σ)) (l1 : Int32) (l2 : Int32) (σ : jM) (r : Unit × jM)  (h : f_X13_linksBy_182 rec142 l1 l2 σ = some r) : J mi_X13_linksBy 3 0 0 (jqV r) 182 [(0, .ref 324), (1, .int l1), (2, .int l2)] [] (ms σ) := by
  unfold f_X13_linksBy_182 at h
  refine J_iinc (v := (l2 + 1)) (ls' := [(2, .int (l2 + 1)), (0, .ref 324), (1, .int l1)]) 2 dX13_linksBy_182 rfl rfl (by decide) rfl ?_
  refine J_goto (tgt := 142) dX13_linksBy_185 (by decide) ?_
  refine J_pick [1, 2, 0] rfl ?_
  exact hrec142 _ _ _ _  h
set_option maxRecDepth 20000 in
set_option maxHeartbeats 4000000 in
theorem t_X13_linksBy_142  : ∀ (n : Nat) (l1 : Int32) (l2 : Int32) (σ : jM) (r : Unit × jM), f_X13_linksBy_142  n l1 l2 σ = some r → J mi_X13_linksBy 3 0 0 (jqV r) 142 [(0, .ref 324), (1, .int l1), (2, .int l2)] [] (ms σ) := by
  intro n
  induction n with
  | zero =>
    intro l1 l2 σ r  h
    have h : (none : Option (Unit × jM)) = some r := h
    cases h
  | succ n ih =>
    intro l1 l2 σ r  h
    have h : s_X13_linksBy_142  (f_X13_linksBy_142  n) l1 l2 σ = some r := h
    unfold s_X13_linksBy_142 at h
    refine J_iload_n 2 dX13_linksBy_142 rfl ?_
    refine J_sipush (v := 1600) dX13_linksBy_143 (by decide) ?_
    refine J_icmp_ge (tgt := 188) dX13_linksBy_146 (by decide) (fun c17 => ?_) (fun c17 => ?_)
    · have h := (if_pos c17).symm.trans h
      exact J_ret (v := none) rfl ⟨dX13_linksBy_188, rfl⟩ (jqV_mk h)
    · have h := (if_neg c17).symm.trans h
      refine J_aload_n 0 dX13_linksBy_149 rfl ?_
      refine M_getR gf_X13_109_12 dX13_linksBy_150 (g_324_45 _) k_324 n_324 ?_
      refine J_iload_n 2 dX13_linksBy_153 rfl ?_
      obtain ⟨g18, h⟩ := gd_inv h
      refine M_iald dX13_linksBy_154 a_355 n_355 g18 ?_
      refine J_aload_n 0 dX13_linksBy_155 rfl ?_
      refine M_getR gf_X13_44_12 dX13_linksBy_156 (g_324_14 _) k_324 n_324 ?_
      refine J_iload_n 1 dX13_linksBy_159 rfl ?_
      obtain ⟨g19, h⟩ := gd_inv h
      refine M_iald dX13_linksBy_160 a_335 n_335 g19 ?_
      refine J_icmp_lt (tgt := 182) dX13_linksBy_161 (by decide) (fun c20 => ?_) (fun c20 => ?_)
      · have h := (if_pos c20).symm.trans h
        exact t_X13_linksBy_182 ih _ _ _ _  h
      · have h := (if_neg c20).symm.trans h
        refine J_aload_n 0 dX13_linksBy_164 rfl ?_
        refine J_aload_n 0 dX13_linksBy_165 rfl ?_
        refine M_getR gf_X13_35_12 dX13_linksBy_166 (g_324_11 _) k_324 n_324 ?_
        refine J_iload_n 1 dX13_linksBy_169 rfl ?_
        obtain ⟨g21, h⟩ := gd_inv h
        refine M_iald dX13_linksBy_170 a_332 n_332 g21 ?_
        refine J_iload_n 2 dX13_linksBy_171 rfl ?_
        refine J_bipush (v := 40) dX13_linksBy_172 (by decide) ?_
        refine J_idiv dX13_linksBy_174 (by decide) ?_
        refine J_iload_n 2 dX13_linksBy_175 rfl ?_
        refine J_bipush (v := 40) dX13_linksBy_176 (by decide) ?_
        refine J_irem dX13_linksBy_178 (by decide) ?_
        obtain ⟨_, σ23, h24, h⟩ := bd_inv h
        refine M_callVV (d' := 1) (k := 324) (As := [.int (rI σ 332 (Int32.toNatClampNeg l1)), .int (l2 / 40), .int (l2 - l2 / 40 * 40)]) (st := []) cv_X13_338 dX13_linksBy_179 rfl (by decide) rfl (Nat.le_of_ble_eq_true rfl) (Nat.le_of_ble_eq_true rfl) (by decide) n_324 k_324 rfl rfl (t_X13_links  h24) ?_
        exact t_X13_linksBy_182 ih _ _ _ _  h
set_option maxRecDepth 20000 in
set_option maxHeartbeats 4000000 in
theorem t_X13_linksBy_128 {rec24 : Int32 → Int32 → jM → Option (Unit × jM)} (hrec24 : ∀ (l1 : Int32) (l2 : Int32) (σ : jM) (r : Unit × jM), rec24 l1 l2 σ = some r → J mi_X13_linksBy 3 0 0 (jqV r) 24 [(0, .ref 324), (1, .int l1), (2, .int l2)] [] (ms σ)) {rec36 : Int32 → Int32 → Int32 → jM → Option (Unit × jM)} (hrec36 : ∀ (l1 : Int32) (l2 : Int32) (l3 : Int32) (σ : jM) (r : Unit × jM), rec36 l1 l2 l3 σ = some r → J mi_X13_linksBy 3 0 0 (jqV r) 36 [(0, .ref 324), (1, .int l1), (2, .int l2), (3, .int l3)] [] (ms σ)) (l1 : Int32) (l2 : Int32) (l3 : Int32) (σ : jM) (r : Unit × jM)  (h : f_X13_linksBy_128 rec24 rec36 l1 l2 l3 σ = some r) : J mi_X13_linksBy 3 0 0 (jqV r) 128 [(0, .ref 324), (1, .int l1), (2, .int l2), (3, .int l3)] [] (ms σ) := by
  unfold f_X13_linksBy_128 at h
  refine J_iinc (v := (l3 + 1)) (ls' := [(3, .int (l3 + 1)), (0, .ref 324), (1, .int l1), (2, .int l2)]) 3 dX13_linksBy_128 rfl rfl (by decide) rfl ?_
  refine J_goto (tgt := 36) dX13_linksBy_131 (by decide) ?_
  refine J_pick [1, 2, 3, 0] rfl ?_
  exact hrec36 _ _ _ _ _  h
set_option maxRecDepth 20000 in
set_option maxHeartbeats 4000000 in
theorem t_X13_linksBy_123 {rec24 : Int32 → Int32 → jM → Option (Unit × jM)} (hrec24 : ∀ (l1 : Int32) (l2 : Int32) (σ : jM) (r : Unit × jM), rec24 l1 l2 σ = some r → J mi_X13_linksBy 3 0 0 (jqV r) 24 [(0, .ref 324), (1, .int l1), (2, .int l2)] [] (ms σ)) {rec36 : Int32 → Int32 → Int32 → jM → Option (Unit × jM)} (hrec36 : ∀ (l1 : Int32) (l2 : Int32) (l3 : Int32) (σ : jM) (r : Unit × jM), rec36 l1 l2 l3 σ = some r → J mi_X13_linksBy 3 0 0 (jqV r) 36 [(0, .ref 324), (1, .int l1), (2, .int l2), (3, .int l3)] [] (ms σ)) (l1 : Int32) (l2 : Int32) (l3 : Int32) (s1 : Int32) (σ : jM) (r : Unit × jM)  (h : f_X13_linksBy_123 rec24 rec36 l1 l2 l3 s1 σ = some r) : J mi_X13_linksBy 3 0 0 (jqV r) 123 [(0, .ref 324), (1, .int l1), (2, .int l2), (3, .int l3)] [.int s1, .ref 355] (ms σ) := by
  unfold f_X13_linksBy_123 at h
  refine J_dup2 dX13_linksBy_123 rfl rfl ?_
  obtain ⟨g27, h⟩ := gd_inv h
  refine M_iald dX13_linksBy_124 a_355 n_355 g27 ?_
  refine J_iconst (v := 1) dX13_linksBy_125 (by decide) ?_
  refine J_iadd dX13_linksBy_126 ?_
  obtain ⟨g28, h⟩ := gd_inv h
  refine M_iast dX13_linksBy_127 a_355 n_355 g28 ?_
  exact t_X13_linksBy_128 hrec24 hrec36 _ _ _ _ _  h
set_option maxRecDepth 20000 in
set_option maxHeartbeats 4000000 in
theorem t_X13_linksBy_36 {rec24 : Int32 → Int32 → jM → Option (Unit × jM)} (hrec24 : ∀ (l1 : Int32) (l2 : Int32) (σ : jM) (r : Unit × jM), rec24 l1 l2 σ = some r → J mi_X13_linksBy 3 0 0 (jqV r) 24 [(0, .ref 324), (1, .int l1), (2, .int l2)] [] (ms σ)) : ∀ (n : Nat) (l1 : Int32) (l2 : Int32) (l3 : Int32) (σ : jM) (r : Unit × jM), f_X13_linksBy_36 rec24 n l1 l2 l3 σ = some r → J mi_X13_linksBy 3 0 0 (jqV r) 36 [(0, .ref 324), (1, .int l1), (2, .int l2), (3, .int l3)] [] (ms σ) := by
  intro n
  induction n with
  | zero =>
    intro l1 l2 l3 σ r  h
    have h : (none : Option (Unit × jM)) = some r := h
    cases h
  | succ n ih =>
    intro l1 l2 l3 σ r  h
    have h : s_X13_linksBy_36 rec24 (f_X13_linksBy_36 rec24 n) l1 l2 l3 σ = some r := h
    unfold s_X13_linksBy_36 at h
    refine J_iload_n 3 dX13_linksBy_36 rfl ?_
    refine J_aload_n 0 dX13_linksBy_37 rfl ?_
    refine M_getI gf_X13_307_12 dX13_linksBy_38 k_324 n_324 ?_
    refine J_icmp_ge (tgt := 134) dX13_linksBy_41 (by decide) (fun c40 => ?_) (fun c40 => ?_)
    · have h := (if_pos c40).symm.trans h
      refine J_iinc (v := (l2 + 1)) (ls' := [(2, .int (l2 + 1)), (0, .ref 324), (1, .int l1), (3, .int l3)]) 2 dX13_linksBy_134 rfl rfl (by decide) rfl ?_
      refine J_goto (tgt := 24) dX13_linksBy_137 (by decide) ?_
      refine J_pick [1, 2, 0] rfl ?_
      exact hrec24 _ _ _ _  h
    · have h := (if_neg c40).symm.trans h
      refine J_aload_n 0 dX13_linksBy_44 rfl ?_
      refine J_iload_n 1 dX13_linksBy_45 rfl ?_
      refine J_iload_n 2 dX13_linksBy_46 rfl ?_
      refine J_iload_n 3 dX13_linksBy_47 rfl ?_
      obtain ⟨r41, σ42, h43, h⟩ := bd_inv h
      refine M_callVI (d' := 2) (k := 324) (As := [.int l1, .int l2, .int l3]) (st := []) cv_X13_323 dX13_linksBy_48 rfl (by decide) rfl (Nat.le_of_ble_eq_true rfl) (Nat.le_of_ble_eq_true rfl) (by decide) n_324 k_324 rfl rfl (t_X13_tellsBy  h43) ?_
      refine J_if_ne (tgt := 57) dX13_linksBy_51 (by decide) (fun c44 => ?_) (fun c44 => ?_)
      · have h := (if_neg c44).symm.trans h
        refine J_aload_n 0 dX13_linksBy_57 rfl ?_
        refine J_iload_n 2 dX13_linksBy_58 rfl ?_
        refine J_iload_n 3 dX13_linksBy_59 rfl ?_
        obtain ⟨r45, σ46, h47, h⟩ := bd_inv h
        refine M_callVI (d' := 1) (k := 324) (As := [.int l2, .int l3]) (st := []) cv_X13_320 dX13_linksBy_60 rfl (by decide) rfl (Nat.le_of_ble_eq_true rfl) (Nat.le_of_ble_eq_true rfl) (by decide) n_324 k_324 rfl rfl (t_X13_unlikeAt  h47) ?_
        refine J_istore (i := 4) (ls' := [(4, .int r45), (0, .ref 324), (1, .int l1), (2, .int l2), (3, .int l3)]) dX13_linksBy_63 (by decide) rfl ?_
        refine J_aload_n 1 dX13_linksBy_65 rfl ?_
        refine M_getR gf_X13_97_12 dX13_linksBy_66 (g_324_41 _) k_324 n_324 ?_
        refine J_bipush (v := 6) dX13_linksBy_69 (by decide) ?_
        refine J_iload_n 3 dX13_linksBy_71 rfl ?_
        refine J_imul dX13_linksBy_72 ?_
        refine J_iload 0 dX13_linksBy_73 rfl ?_
        refine J_iadd dX13_linksBy_75 ?_
        obtain ⟨g48, h⟩ := gd_inv h
        refine M_iald dX13_linksBy_76 a_351 n_351 g48 ?_
        refine J_istore (i := 5) (ls' := [(5, .int (rI σ46 351 (Int32.toNatClampNeg ((6 * l2) + r45)))), (4, .int r45), (0, .ref 324), (1, .int l1), (2, .int l2), (3, .int l3)]) dX13_linksBy_77 (by decide) rfl ?_
        refine J_aload_n 2 dX13_linksBy_79 rfl ?_
        refine M_getR gf_X13_97_12 dX13_linksBy_80 (g_324_41 _) k_324 n_324 ?_
        refine J_bipush (v := 6) dX13_linksBy_83 (by decide) ?_
        refine J_iload_n 5 dX13_linksBy_85 rfl ?_
        refine J_imul dX13_linksBy_86 ?_
        refine J_iload 1 dX13_linksBy_87 rfl ?_
        refine J_iadd dX13_linksBy_89 ?_
        obtain ⟨g49, h⟩ := gd_inv h
        refine M_iald dX13_linksBy_90 a_351 n_351 g49 ?_
        refine J_istore (i := 6) (ls' := [(6, .int (rI σ46 351 (Int32.toNatClampNeg ((6 * l3) + r45)))), (5, .int (rI σ46 351 (Int32.toNatClampNeg ((6 * l2) + r45)))), (4, .int r45), (0, .ref 324), (1, .int l1), (2, .int l2), (3, .int l3)]) dX13_linksBy_91 (by decide) rfl ?_
        refine J_aload_n 3 dX13_linksBy_93 rfl ?_
        refine M_getR gf_X13_109_12 dX13_linksBy_94 (g_324_45 _) k_324 n_324 ?_
        refine J_iload 1 dX13_linksBy_97 rfl ?_
        refine J_iload 0 dX13_linksBy_99 rfl ?_
        refine J_icmp_ge (tgt := 115) dX13_linksBy_101 (by decide) (fun c50 => ?_) (fun c50 => ?_)
        · have h := (if_pos c50).symm.trans h
          refine J_bipush (v := 40) dX13_linksBy_115 (by decide) ?_
          refine J_iload 0 dX13_linksBy_117 rfl ?_
          refine J_imul dX13_linksBy_119 ?_
          refine J_iload 1 dX13_linksBy_120 rfl ?_
          refine J_iadd dX13_linksBy_122 ?_
          refine J_pick [3, 4, 5, 6] rfl ?_
          exact t_X13_linksBy_123 hrec24 ih _ _ _ _ _ _  h
        · have h := (if_neg c50).symm.trans h
          refine J_bipush (v := 40) dX13_linksBy_104 (by decide) ?_
          refine J_iload 1 dX13_linksBy_106 rfl ?_
          refine J_imul dX13_linksBy_108 ?_
          refine J_iload 0 dX13_linksBy_109 rfl ?_
          refine J_iadd dX13_linksBy_111 ?_
          refine J_goto (tgt := 123) dX13_linksBy_112 (by decide) ?_
          refine J_pick [3, 4, 5, 6] rfl ?_
          exact t_X13_linksBy_123 hrec24 ih _ _ _ _ _ _  h
      · have h := (if_pos c44).symm.trans h
        refine J_goto (tgt := 128) dX13_linksBy_54 (by decide) ?_
        exact t_X13_linksBy_128 hrec24 ih _ _ _ _ _  h
set_option maxRecDepth 20000 in
set_option maxHeartbeats 4000000 in
theorem t_X13_linksBy_24  : ∀ (n : Nat) (l1 : Int32) (l2 : Int32) (σ : jM) (r : Unit × jM), f_X13_linksBy_24  n l1 l2 σ = some r → J mi_X13_linksBy 3 0 0 (jqV r) 24 [(0, .ref 324), (1, .int l1), (2, .int l2)] [] (ms σ) := by
  intro n
  induction n with
  | zero =>
    intro l1 l2 σ r  h
    have h : (none : Option (Unit × jM)) = some r := h
    cases h
  | succ n ih =>
    intro l1 l2 σ r  h
    have h : s_X13_linksBy_24  (f_X13_linksBy_24  n) l1 l2 σ = some r := h
    unfold s_X13_linksBy_24 at h
    refine J_iload_n 2 dX13_linksBy_24 rfl ?_
    refine J_aload_n 0 dX13_linksBy_25 rfl ?_
    refine M_getI gf_X13_307_12 dX13_linksBy_26 k_324 n_324 ?_
    refine J_icmp_ge (tgt := 140) dX13_linksBy_29 (by decide) (fun c52 => ?_) (fun c52 => ?_)
    · have h := (if_pos c52).symm.trans h
      refine J_iconst (v := 0) dX13_linksBy_140 (by decide) ?_
      refine J_istore_n (i := 2) (ls' := [(2, .int 0), (0, .ref 324), (1, .int l1)]) dX13_linksBy_141 rfl (by decide) rfl ?_
      refine J_pick [1, 2, 0] rfl ?_
      exact t_X13_linksBy_142  _ _ _ _ _  h
    · have h := (if_neg c52).symm.trans h
      refine J_iload_n 2 dX13_linksBy_32 rfl ?_
      refine J_iconst (v := 1) dX13_linksBy_33 (by decide) ?_
      refine J_iadd dX13_linksBy_34 ?_
      refine J_istore_n (i := 3) (ls' := [(3, .int (l2 + 1)), (0, .ref 324), (1, .int l1), (2, .int l2)]) dX13_linksBy_35 rfl (by decide) rfl ?_
      refine J_pick [1, 2, 3, 0] rfl ?_
      exact t_X13_linksBy_36 ih _ _ _ _ _ _  h
set_option maxRecDepth 20000 in
set_option maxHeartbeats 4000000 in
theorem t_X13_linksBy_2  : ∀ (n : Nat) (l1 : Int32) (l2 : Int32) (σ : jM) (r : Unit × jM), f_X13_linksBy_2  n l1 l2 σ = some r → J mi_X13_linksBy 3 0 0 (jqV r) 2 [(0, .ref 324), (1, .int l1), (2, .int l2)] [] (ms σ) := by
  intro n
  induction n with
  | zero =>
    intro l1 l2 σ r  h
    have h : (none : Option (Unit × jM)) = some r := h
    cases h
  | succ n ih =>
    intro l1 l2 σ r  h
    have h : s_X13_linksBy_2  (f_X13_linksBy_2  n) l1 l2 σ = some r := h
    unfold s_X13_linksBy_2 at h
    refine J_iload_n 2 dX13_linksBy_2 rfl ?_
    refine J_sipush (v := 1600) dX13_linksBy_3 (by decide) ?_
    refine J_icmp_ge (tgt := 22) dX13_linksBy_6 (by decide) (fun c55 => ?_) (fun c55 => ?_)
    · have h := (if_pos c55).symm.trans h
      refine J_iconst (v := 0) dX13_linksBy_22 (by decide) ?_
      refine J_istore_n (i := 2) (ls' := [(2, .int 0), (0, .ref 324), (1, .int l1)]) dX13_linksBy_23 rfl (by decide) rfl ?_
      refine J_pick [1, 2, 0] rfl ?_
      exact t_X13_linksBy_24  _ _ _ _ _  h
    · have h := (if_neg c55).symm.trans h
      refine J_aload_n 0 dX13_linksBy_9 rfl ?_
      refine M_getR gf_X13_109_12 dX13_linksBy_10 (g_324_45 _) k_324 n_324 ?_
      refine J_iload_n 2 dX13_linksBy_13 rfl ?_
      refine J_iconst (v := 0) dX13_linksBy_14 (by decide) ?_
      obtain ⟨g56, h⟩ := gd_inv h
      refine M_iast dX13_linksBy_15 a_355 n_355 g56 ?_
      refine J_iinc (v := (l2 + 1)) (ls' := [(2, .int (l2 + 1)), (0, .ref 324), (1, .int l1)]) 2 dX13_linksBy_16 rfl rfl (by decide) rfl ?_
      refine J_goto (tgt := 2) dX13_linksBy_19 (by decide) ?_
      refine J_pick [1, 2, 0] rfl ?_
      exact ih _ _ _ _  h
set_option maxRecDepth 20000 in
set_option maxHeartbeats 4000000 in
theorem t_X13_linksBy {a1 : Int32} {σ : jM} {r : Unit × jM}  (h : f_X13_linksBy a1 σ = some r) : J mi_X13_linksBy 3 0 0 (jqV r) 0 [(0, .ref 324), (1, .int a1)] [] (ms σ) := by
  unfold f_X13_linksBy at h
  refine J_iconst (v := 0) dX13_linksBy_0 (by decide) ?_
  refine J_istore_n (i := 2) (ls' := [(2, .int 0), (0, .ref 324), (1, .int a1)]) dX13_linksBy_1 rfl (by decide) rfl ?_
  refine J_pick [1, 2, 0] rfl ?_
  exact t_X13_linksBy_2  _ _ _ _ _  h
theorem dX13_findClasses_0 : decode cX13_findClasses 0 = .ok (.iconst 0, 1) := by decide +kernel
theorem dX13_findClasses_1 : decode cX13_findClasses 1 = .ok (.istore_n 1, 1) := by decide +kernel
theorem dX13_findClasses_2 : decode cX13_findClasses 2 = .ok (.iload_n 1, 1) := by decide +kernel
theorem dX13_findClasses_3 : decode cX13_findClasses 3 = .ok (.iconst 2, 1) := by decide +kernel
theorem dX13_findClasses_4 : decode cX13_findClasses 4 = .ok (.if_icmp .ge 134, 3) := by decide +kernel
theorem dX13_findClasses_7 : decode cX13_findClasses 7 = .ok (.iconst 0, 1) := by decide +kernel
theorem dX13_findClasses_8 : decode cX13_findClasses 8 = .ok (.istore_n 2, 1) := by decide +kernel
theorem dX13_findClasses_9 : decode cX13_findClasses 9 = .ok (.iload_n 2, 1) := by decide +kernel
theorem dX13_findClasses_10 : decode cX13_findClasses 10 = .ok (.bipush 40, 2) := by decide +kernel
theorem dX13_findClasses_12 : decode cX13_findClasses 12 = .ok (.if_icmp .ge 21, 3) := by decide +kernel
theorem dX13_findClasses_15 : decode cX13_findClasses 15 = .ok (.aload_n 0, 1) := by decide +kernel
theorem dX13_findClasses_16 : decode cX13_findClasses 16 = .ok (.getfield 106, 3) := by decide +kernel
theorem dX13_findClasses_19 : decode cX13_findClasses 19 = .ok (.bipush 40, 2) := by decide +kernel
theorem dX13_findClasses_21 : decode cX13_findClasses 21 = .ok (.iload_n 1, 1) := by decide +kernel
theorem dX13_findClasses_22 : decode cX13_findClasses 22 = .ok (.imul, 1) := by decide +kernel
theorem dX13_findClasses_23 : decode cX13_findClasses 23 = .ok (.iload_n 2, 1) := by decide +kernel
theorem dX13_findClasses_24 : decode cX13_findClasses 24 = .ok (.iadd, 1) := by decide +kernel
theorem dX13_findClasses_25 : decode cX13_findClasses 25 = .ok (.iload_n 2, 1) := by decide +kernel
theorem dX13_findClasses_26 : decode cX13_findClasses 26 = .ok (.iastore, 1) := by decide +kernel
theorem dX13_findClasses_27 : decode cX13_findClasses 27 = .ok (.iinc 2 1, 3) := by decide +kernel
theorem dX13_findClasses_30 : decode cX13_findClasses 30 = .ok (.goto (-21), 3) := by decide +kernel
theorem dX13_findClasses_33 : decode cX13_findClasses 33 = .ok (.iconst 1, 1) := by decide +kernel
theorem dX13_findClasses_34 : decode cX13_findClasses 34 = .ok (.istore_n 2, 1) := by decide +kernel
theorem dX13_findClasses_35 : decode cX13_findClasses 35 = .ok (.iload_n 2, 1) := by decide +kernel
theorem dX13_findClasses_36 : decode cX13_findClasses 36 = .ok (.ifCond .eq 96, 3) := by decide +kernel
theorem dX13_findClasses_39 : decode cX13_findClasses 39 = .ok (.iconst 0, 1) := by decide +kernel
theorem dX13_findClasses_40 : decode cX13_findClasses 40 = .ok (.istore_n 2, 1) := by decide +kernel
theorem dX13_findClasses_41 : decode cX13_findClasses 41 = .ok (.iconst 0, 1) := by decide +kernel
theorem dX13_findClasses_42 : decode cX13_findClasses 42 = .ok (.istore_n 3, 1) := by decide +kernel
theorem dX13_findClasses_43 : decode cX13_findClasses 43 = .ok (.iload_n 3, 1) := by decide +kernel
theorem dX13_findClasses_44 : decode cX13_findClasses 44 = .ok (.sipush 1600, 3) := by decide +kernel
theorem dX13_findClasses_47 : decode cX13_findClasses 47 = .ok (.if_icmp .ge 82, 3) := by decide +kernel
theorem dX13_findClasses_50 : decode cX13_findClasses 50 = .ok (.bipush 40, 2) := by decide +kernel
theorem dX13_findClasses_52 : decode cX13_findClasses 52 = .ok (.iload_n 1, 1) := by decide +kernel
theorem dX13_findClasses_53 : decode cX13_findClasses 53 = .ok (.imul, 1) := by decide +kernel
theorem dX13_findClasses_54 : decode cX13_findClasses 54 = .ok (.iload_n 3, 1) := by decide +kernel
theorem dX13_findClasses_55 : decode cX13_findClasses 55 = .ok (.bipush 40, 2) := by decide +kernel
theorem dX13_findClasses_57 : decode cX13_findClasses 57 = .ok (.idiv, 1) := by decide +kernel
theorem dX13_findClasses_58 : decode cX13_findClasses 58 = .ok (.iadd, 1) := by decide +kernel
theorem dX13_findClasses_59 : decode cX13_findClasses 59 = .ok (.istore 4, 2) := by decide +kernel
theorem dX13_findClasses_61 : decode cX13_findClasses 61 = .ok (.bipush 40, 2) := by decide +kernel
theorem dX13_findClasses_63 : decode cX13_findClasses 63 = .ok (.iload_n 1, 1) := by decide +kernel
theorem dX13_findClasses_64 : decode cX13_findClasses 64 = .ok (.imul, 1) := by decide +kernel
theorem dX13_findClasses_65 : decode cX13_findClasses 65 = .ok (.iload_n 3, 1) := by decide +kernel
theorem dX13_findClasses_66 : decode cX13_findClasses 66 = .ok (.bipush 40, 2) := by decide +kernel
theorem dX13_findClasses_68 : decode cX13_findClasses 68 = .ok (.irem, 1) := by decide +kernel
theorem dX13_findClasses_69 : decode cX13_findClasses 69 = .ok (.iadd, 1) := by decide +kernel
theorem dX13_findClasses_70 : decode cX13_findClasses 70 = .ok (.istore 5, 2) := by decide +kernel
theorem dX13_findClasses_72 : decode cX13_findClasses 72 = .ok (.aload_n 0, 1) := by decide +kernel
theorem dX13_findClasses_73 : decode cX13_findClasses 73 = .ok (.getfield 100, 3) := by decide +kernel
theorem dX13_findClasses_76 : decode cX13_findClasses 76 = .ok (.sipush 1600, 3) := by decide +kernel
theorem dX13_findClasses_79 : decode cX13_findClasses 79 = .ok (.iload_n 1, 1) := by decide +kernel
theorem dX13_findClasses_80 : decode cX13_findClasses 80 = .ok (.imul, 1) := by decide +kernel
theorem dX13_findClasses_81 : decode cX13_findClasses 81 = .ok (.iload_n 3, 1) := by decide +kernel
theorem dX13_findClasses_82 : decode cX13_findClasses 82 = .ok (.iadd, 1) := by decide +kernel
theorem dX13_findClasses_83 : decode cX13_findClasses 83 = .ok (.baload, 1) := by decide +kernel
theorem dX13_findClasses_84 : decode cX13_findClasses 84 = .ok (.ifCond .eq 39, 3) := by decide +kernel
theorem dX13_findClasses_87 : decode cX13_findClasses 87 = .ok (.aload_n 0, 1) := by decide +kernel
theorem dX13_findClasses_88 : decode cX13_findClasses 88 = .ok (.getfield 106, 3) := by decide +kernel
theorem dX13_findClasses_91 : decode cX13_findClasses 91 = .ok (.iload 4, 2) := by decide +kernel
theorem dX13_findClasses_93 : decode cX13_findClasses 93 = .ok (.iaload, 1) := by decide +kernel
theorem dX13_findClasses_94 : decode cX13_findClasses 94 = .ok (.aload_n 0, 1) := by decide +kernel
theorem dX13_findClasses_95 : decode cX13_findClasses 95 = .ok (.getfield 106, 3) := by decide +kernel
theorem dX13_findClasses_98 : decode cX13_findClasses 98 = .ok (.iload 5, 2) := by decide +kernel
theorem dX13_findClasses_100 : decode cX13_findClasses 100 = .ok (.iaload, 1) := by decide +kernel
theorem dX13_findClasses_101 : decode cX13_findClasses 101 = .ok (.if_icmp .gt 6, 3) := by decide +kernel
theorem dX13_findClasses_104 : decode cX13_findClasses 104 = .ok (.goto 19, 3) := by decide +kernel
theorem dX13_findClasses_107 : decode cX13_findClasses 107 = .ok (.aload_n 0, 1) := by decide +kernel
theorem dX13_findClasses_108 : decode cX13_findClasses 108 = .ok (.getfield 106, 3) := by decide +kernel
theorem dX13_findClasses_111 : decode cX13_findClasses 111 = .ok (.iload 4, 2) := by decide +kernel
theorem dX13_findClasses_113 : decode cX13_findClasses 113 = .ok (.aload_n 0, 1) := by decide +kernel
theorem dX13_findClasses_114 : decode cX13_findClasses 114 = .ok (.getfield 106, 3) := by decide +kernel
theorem dX13_findClasses_117 : decode cX13_findClasses 117 = .ok (.iload 5, 2) := by decide +kernel
theorem dX13_findClasses_119 : decode cX13_findClasses 119 = .ok (.iaload, 1) := by decide +kernel
theorem dX13_findClasses_120 : decode cX13_findClasses 120 = .ok (.iastore, 1) := by decide +kernel
theorem dX13_findClasses_121 : decode cX13_findClasses 121 = .ok (.iconst 1, 1) := by decide +kernel
theorem dX13_findClasses_122 : decode cX13_findClasses 122 = .ok (.istore_n 2, 1) := by decide +kernel
theorem dX13_findClasses_123 : decode cX13_findClasses 123 = .ok (.iinc 3 1, 3) := by decide +kernel
theorem dX13_findClasses_126 : decode cX13_findClasses 126 = .ok (.goto (-83), 3) := by decide +kernel
theorem dX13_findClasses_129 : decode cX13_findClasses 129 = .ok (.goto (-94), 3) := by decide +kernel
theorem dX13_findClasses_132 : decode cX13_findClasses 132 = .ok (.iinc 1 1, 3) := by decide +kernel
theorem dX13_findClasses_135 : decode cX13_findClasses 135 = .ok (.goto (-133), 3) := by decide +kernel
theorem dX13_findClasses_138 : decode cX13_findClasses 138 = .ok (.return_, 1) := by decide +kernel
noncomputable def f_X13_findClasses_123 (rec2 : Int32 → jM → Option (Unit × jM)) (rec35 : Int32 → Int32 → jM → Option (Unit × jM)) (rec43 : Int32 → Int32 → Int32 → jM → Option (Unit × jM)) (l1 : Int32) (l2 : Int32) (l3 : Int32) (σ : jM) : Option (Unit × jM) :=
  rec43 l1 l2 (l3 + 1) σ
noncomputable def s_X13_findClasses_43 (rec2 : Int32 → jM → Option (Unit × jM)) (rec35 : Int32 → Int32 → jM → Option (Unit × jM)) (rec43 : Int32 → Int32 → Int32 → jM → Option (Unit × jM)) (l1 : Int32) (l2 : Int32) (l3 : Int32) (σ : jM) : Option (Unit × jM) :=
  (if 1600 ≤ l3 then rec35 l1 l2 σ else gd (inb ((1600 * l1) + l3) 3200) ((if (rI σ 352 (Int32.toNatClampNeg ((1600 * l1) + l3))) = 0 then f_X13_findClasses_123 rec2 rec35 rec43 l1 l2 l3 σ else gd (inb ((40 * l1) + (l3 / 40)) 80) (gd (inb ((40 * l1) + (l3 - l3 / 40 * 40)) 80) ((if (rI σ 354 (Int32.toNatClampNeg ((40 * l1) + (l3 - l3 / 40 * 40)))) < (rI σ 354 (Int32.toNatClampNeg ((40 * l1) + (l3 / 40)))) then gd (inb ((40 * l1) + (l3 - l3 / 40 * 40)) 80) (gd (inb ((40 * l1) + (l3 / 40)) 80) (f_X13_findClasses_123 rec2 rec35 rec43 l1 1 l3 (wI σ 354 (Int32.toNatClampNeg ((40 * l1) + (l3 / 40))) (rI σ 354 (Int32.toNatClampNeg ((40 * l1) + (l3 - l3 / 40 * 40))))))) else f_X13_findClasses_123 rec2 rec35 rec43 l1 l2 l3 σ))))))
noncomputable def f_X13_findClasses_43 (rec2 : Int32 → jM → Option (Unit × jM)) (rec35 : Int32 → Int32 → jM → Option (Unit × jM)) (n : Nat) : Int32 → Int32 → Int32 → jM → Option (Unit × jM) := Nat.rec (motive := fun _ => Int32 → Int32 → Int32 → jM → Option (Unit × jM)) (fun _ _ _ _ => none) (fun _ q => s_X13_findClasses_43 rec2 rec35 q) n
noncomputable def s_X13_findClasses_35 (rec2 : Int32 → jM → Option (Unit × jM)) (rec35 : Int32 → Int32 → jM → Option (Unit × jM)) (l1 : Int32) (l2 : Int32) (σ : jM) : Option (Unit × jM) :=
  (if l2 = 0 then rec2 (l1 + 1) σ else f_X13_findClasses_43 rec2 rec35 Fu l1 0 0 σ)
noncomputable def f_X13_findClasses_35 (rec2 : Int32 → jM → Option (Unit × jM)) (n : Nat) : Int32 → Int32 → jM → Option (Unit × jM) := Nat.rec (motive := fun _ => Int32 → Int32 → jM → Option (Unit × jM)) (fun _ _ _ => none) (fun _ q => s_X13_findClasses_35 rec2 q) n
noncomputable def s_X13_findClasses_9 (rec2 : Int32 → jM → Option (Unit × jM)) (rec9 : Int32 → Int32 → jM → Option (Unit × jM)) (l1 : Int32) (l2 : Int32) (σ : jM) : Option (Unit × jM) :=
  (if 40 ≤ l2 then f_X13_findClasses_35 rec2 Fu l1 1 σ else gd (inb ((40 * l1) + l2) 80) (rec9 l1 (l2 + 1) (wI σ 354 (Int32.toNatClampNeg ((40 * l1) + l2)) l2)))
noncomputable def f_X13_findClasses_9 (rec2 : Int32 → jM → Option (Unit × jM)) (n : Nat) : Int32 → Int32 → jM → Option (Unit × jM) := Nat.rec (motive := fun _ => Int32 → Int32 → jM → Option (Unit × jM)) (fun _ _ _ => none) (fun _ q => s_X13_findClasses_9 rec2 q) n
noncomputable def s_X13_findClasses_2  (rec2 : Int32 → jM → Option (Unit × jM)) (l1 : Int32) (σ : jM) : Option (Unit × jM) :=
  (if 2 ≤ l1 then some ((), σ) else f_X13_findClasses_9 rec2 Fu l1 0 σ)
noncomputable def f_X13_findClasses_2  (n : Nat) : Int32 → jM → Option (Unit × jM) := Nat.rec (motive := fun _ => Int32 → jM → Option (Unit × jM)) (fun _ _ => none) (fun _ q => s_X13_findClasses_2  q) n
noncomputable def f_X13_findClasses  (σ : jM) : Option (Unit × jM) :=
  f_X13_findClasses_2  Fu 0 σ
set_option maxRecDepth 20000 in
set_option maxHeartbeats 4000000 in
theorem t_X13_findClasses_123 {rec2 : Int32 → jM → Option (Unit × jM)} (hrec2 : ∀ (l1 : Int32) (σ : jM) (r : Unit × jM), rec2 l1 σ = some r → J mi_X13_findClasses 1 0 0 (jqV r) 2 [(0, .ref 324), (1, .int l1)] [] (ms σ)) {rec35 : Int32 → Int32 → jM → Option (Unit × jM)} (hrec35 : ∀ (l1 : Int32) (l2 : Int32) (σ : jM) (r : Unit × jM), rec35 l1 l2 σ = some r → J mi_X13_findClasses 1 0 0 (jqV r) 35 [(0, .ref 324), (1, .int l1), (2, .int l2)] [] (ms σ)) {rec43 : Int32 → Int32 → Int32 → jM → Option (Unit × jM)} (hrec43 : ∀ (l1 : Int32) (l2 : Int32) (l3 : Int32) (σ : jM) (r : Unit × jM), rec43 l1 l2 l3 σ = some r → J mi_X13_findClasses 1 0 0 (jqV r) 43 [(0, .ref 324), (1, .int l1), (2, .int l2), (3, .int l3)] [] (ms σ)) (l1 : Int32) (l2 : Int32) (l3 : Int32) (σ : jM) (r : Unit × jM)  (h : f_X13_findClasses_123 rec2 rec35 rec43 l1 l2 l3 σ = some r) : J mi_X13_findClasses 1 0 0 (jqV r) 123 [(0, .ref 324), (1, .int l1), (2, .int l2), (3, .int l3)] [] (ms σ) := by
  unfold f_X13_findClasses_123 at h
  refine J_iinc (v := (l3 + 1)) (ls' := [(3, .int (l3 + 1)), (0, .ref 324), (1, .int l1), (2, .int l2)]) 3 dX13_findClasses_123 rfl rfl (by decide) rfl ?_
  refine J_goto (tgt := 43) dX13_findClasses_126 (by decide) ?_
  refine J_pick [1, 2, 3, 0] rfl ?_
  exact hrec43 _ _ _ _ _  h
set_option maxRecDepth 20000 in
set_option maxHeartbeats 4000000 in
theorem t_X13_findClasses_43 {rec2 : Int32 → jM → Option (Unit × jM)} (hrec2 : ∀ (l1 : Int32) (σ : jM) (r : Unit × jM), rec2 l1 σ = some r → J mi_X13_findClasses 1 0 0 (jqV r) 2 [(0, .ref 324), (1, .int l1)] [] (ms σ)) {rec35 : Int32 → Int32 → jM → Option (Unit × jM)} (hrec35 : ∀ (l1 : Int32) (l2 : Int32) (σ : jM) (r : Unit × jM), rec35 l1 l2 σ = some r → J mi_X13_findClasses 1 0 0 (jqV r) 35 [(0, .ref 324), (1, .int l1), (2, .int l2)] [] (ms σ)) : ∀ (n : Nat) (l1 : Int32) (l2 : Int32) (l3 : Int32) (σ : jM) (r : Unit × jM), f_X13_findClasses_43 rec2 rec35 n l1 l2 l3 σ = some r → J mi_X13_findClasses 1 0 0 (jqV r) 43 [(0, .ref 324), (1, .int l1), (2, .int l2), (3, .int l3)] [] (ms σ) := by
  intro n
  induction n with
  | zero =>
    intro l1 l2 l3 σ r  h
    have h : (none : Option (Unit × jM)) = some r := h
    cases h
  | succ n ih =>
    intro l1 l2 l3 σ r  h
    have h : s_X13_findClasses_43 rec2 rec35 (f_X13_findClasses_43 rec2 rec35 n) l1 l2 l3 σ = some r := h
    unfold s_X13_findClasses_43 at h
    refine J_iload_n 3 dX13_findClasses_43 rfl ?_
    refine J_sipush (v := 1600) dX13_findClasses_44 (by decide) ?_
    refine J_icmp_ge (tgt := 129) dX13_findClasses_47 (by decide) (fun c15 => ?_) (fun c15 => ?_)
    · have h := (if_pos c15).symm.trans h
      refine J_goto (tgt := 35) dX13_findClasses_129 (by decide) ?_
      refine J_pick [0, 1, 2] rfl ?_
      exact hrec35 _ _ _ _  h
    · have h := (if_neg c15).symm.trans h
      refine J_bipush (v := 40) dX13_findClasses_50 (by decide) ?_
      refine J_iload_n 1 dX13_findClasses_52 rfl ?_
      refine J_imul dX13_findClasses_53 ?_
      refine J_iload_n 3 dX13_findClasses_54 rfl ?_
      refine J_bipush (v := 40) dX13_findClasses_55 (by decide) ?_
      refine J_idiv dX13_findClasses_57 (by decide) ?_
      refine J_iadd dX13_findClasses_58 ?_
      refine J_istore (i := 4) (ls' := [(4, .int ((40 * l1) + (l3 / 40))), (0, .ref 324), (1, .int l1), (2, .int l2), (3, .int l3)]) dX13_findClasses_59 (by decide) rfl ?_
      refine J_bipush (v := 40) dX13_findClasses_61 (by decide) ?_
      refine J_iload_n 2 dX13_findClasses_63 rfl ?_
      refine J_imul dX13_findClasses_64 ?_
      refine J_iload_n 4 dX13_findClasses_65 rfl ?_
      refine J_bipush (v := 40) dX13_findClasses_66 (by decide) ?_
      refine J_irem dX13_findClasses_68 (by decide) ?_
      refine J_iadd dX13_findClasses_69 ?_
      refine J_istore (i := 5) (ls' := [(5, .int ((40 * l1) + (l3 - l3 / 40 * 40))), (4, .int ((40 * l1) + (l3 / 40))), (0, .ref 324), (1, .int l1), (2, .int l2), (3, .int l3)]) dX13_findClasses_70 (by decide) rfl ?_
      refine J_aload_n 2 dX13_findClasses_72 rfl ?_
      refine M_getR gf_X13_100_12 dX13_findClasses_73 (g_324_42 _) k_324 n_324 ?_
      refine J_sipush (v := 1600) dX13_findClasses_76 (by decide) ?_
      refine J_iload_n 3 dX13_findClasses_79 rfl ?_
      refine J_imul dX13_findClasses_80 ?_
      refine J_iload_n 5 dX13_findClasses_81 rfl ?_
      refine J_iadd dX13_findClasses_82 ?_
      obtain ⟨g16, h⟩ := gd_inv h
      refine M_zald dX13_findClasses_83 a_352 n_352 g16 ?_
      refine J_if_eq (tgt := 123) dX13_findClasses_84 (by decide) (fun c17 => ?_) (fun c17 => ?_)
      · have h := (if_pos c17).symm.trans h
        refine J_pick [2, 3, 4, 5] rfl ?_
        exact t_X13_findClasses_123 hrec2 hrec35 ih _ _ _ _ _  h
      · have h := (if_neg c17).symm.trans h
        refine J_aload_n 2 dX13_findClasses_87 rfl ?_
        refine M_getR gf_X13_106_12 dX13_findClasses_88 (g_324_44 _) k_324 n_324 ?_
        refine J_iload 1 dX13_findClasses_91 rfl ?_
        obtain ⟨g18, h⟩ := gd_inv h
        refine M_iald dX13_findClasses_93 a_354 n_354 g18 ?_
        refine J_aload_n 2 dX13_findClasses_94 rfl ?_
        refine M_getR gf_X13_106_12 dX13_findClasses_95 (g_324_44 _) k_324 n_324 ?_
        refine J_iload 0 dX13_findClasses_98 rfl ?_
        obtain ⟨g19, h⟩ := gd_inv h
        refine M_iald dX13_findClasses_100 a_354 n_354 g19 ?_
        refine J_icmp_gt (tgt := 107) dX13_findClasses_101 (by decide) (fun c20 => ?_) (fun c20 => ?_)
        · have h := (if_pos c20).symm.trans h
          refine J_aload_n 2 dX13_findClasses_107 rfl ?_
          refine M_getR gf_X13_106_12 dX13_findClasses_108 (g_324_44 _) k_324 n_324 ?_
          refine J_iload 1 dX13_findClasses_111 rfl ?_
          refine J_aload_n 2 dX13_findClasses_113 rfl ?_
          refine M_getR gf_X13_106_12 dX13_findClasses_114 (g_324_44 _) k_324 n_324 ?_
          refine J_iload 0 dX13_findClasses_117 rfl ?_
          obtain ⟨g21, h⟩ := gd_inv h
          refine M_iald dX13_findClasses_119 a_354 n_354 g21 ?_
          obtain ⟨g22, h⟩ := gd_inv h
          refine M_iast dX13_findClasses_120 a_354 n_354 g22 ?_
          refine J_iconst (v := 1) dX13_findClasses_121 (by decide) ?_
          refine J_istore_n (i := 2) (ls' := [(2, .int 1), (5, .int ((40 * l1) + (l3 - l3 / 40 * 40))), (4, .int ((40 * l1) + (l3 / 40))), (0, .ref 324), (1, .int l1), (3, .int l3)]) dX13_findClasses_122 rfl (by decide) rfl ?_
          refine J_pick [3, 4, 0, 5] rfl ?_
          exact t_X13_findClasses_123 hrec2 hrec35 ih _ _ _ _ _  h
        · have h := (if_neg c20).symm.trans h
          refine J_goto (tgt := 123) dX13_findClasses_104 (by decide) ?_
          refine J_pick [2, 3, 4, 5] rfl ?_
          exact t_X13_findClasses_123 hrec2 hrec35 ih _ _ _ _ _  h
set_option maxRecDepth 20000 in
set_option maxHeartbeats 4000000 in
theorem t_X13_findClasses_35 {rec2 : Int32 → jM → Option (Unit × jM)} (hrec2 : ∀ (l1 : Int32) (σ : jM) (r : Unit × jM), rec2 l1 σ = some r → J mi_X13_findClasses 1 0 0 (jqV r) 2 [(0, .ref 324), (1, .int l1)] [] (ms σ)) : ∀ (n : Nat) (l1 : Int32) (l2 : Int32) (σ : jM) (r : Unit × jM), f_X13_findClasses_35 rec2 n l1 l2 σ = some r → J mi_X13_findClasses 1 0 0 (jqV r) 35 [(0, .ref 324), (1, .int l1), (2, .int l2)] [] (ms σ) := by
  intro n
  induction n with
  | zero =>
    intro l1 l2 σ r  h
    have h : (none : Option (Unit × jM)) = some r := h
    cases h
  | succ n ih =>
    intro l1 l2 σ r  h
    have h : s_X13_findClasses_35 rec2 (f_X13_findClasses_35 rec2 n) l1 l2 σ = some r := h
    unfold s_X13_findClasses_35 at h
    refine J_iload_n 2 dX13_findClasses_35 rfl ?_
    refine J_if_eq (tgt := 132) dX13_findClasses_36 (by decide) (fun c24 => ?_) (fun c24 => ?_)
    · have h := (if_pos c24).symm.trans h
      refine J_iinc (v := (l1 + 1)) (ls' := [(1, .int (l1 + 1)), (0, .ref 324), (2, .int l2)]) 1 dX13_findClasses_132 rfl rfl (by decide) rfl ?_
      refine J_goto (tgt := 2) dX13_findClasses_135 (by decide) ?_
      refine J_pick [1, 0] rfl ?_
      exact hrec2 _ _ _  h
    · have h := (if_neg c24).symm.trans h
      refine J_iconst (v := 0) dX13_findClasses_39 (by decide) ?_
      refine J_istore_n (i := 2) (ls' := [(2, .int 0), (0, .ref 324), (1, .int l1)]) dX13_findClasses_40 rfl (by decide) rfl ?_
      refine J_iconst (v := 0) dX13_findClasses_41 (by decide) ?_
      refine J_istore_n (i := 3) (ls' := [(3, .int 0), (2, .int 0), (0, .ref 324), (1, .int l1)]) dX13_findClasses_42 rfl (by decide) rfl ?_
      refine J_pick [2, 3, 1, 0] rfl ?_
      exact t_X13_findClasses_43 hrec2 ih _ _ _ _ _ _  h
set_option maxRecDepth 20000 in
set_option maxHeartbeats 4000000 in
theorem t_X13_findClasses_9 {rec2 : Int32 → jM → Option (Unit × jM)} (hrec2 : ∀ (l1 : Int32) (σ : jM) (r : Unit × jM), rec2 l1 σ = some r → J mi_X13_findClasses 1 0 0 (jqV r) 2 [(0, .ref 324), (1, .int l1)] [] (ms σ)) : ∀ (n : Nat) (l1 : Int32) (l2 : Int32) (σ : jM) (r : Unit × jM), f_X13_findClasses_9 rec2 n l1 l2 σ = some r → J mi_X13_findClasses 1 0 0 (jqV r) 9 [(0, .ref 324), (1, .int l1), (2, .int l2)] [] (ms σ) := by
  intro n
  induction n with
  | zero =>
    intro l1 l2 σ r  h
    have h : (none : Option (Unit × jM)) = some r := h
    cases h
  | succ n ih =>
    intro l1 l2 σ r  h
    have h : s_X13_findClasses_9 rec2 (f_X13_findClasses_9 rec2 n) l1 l2 σ = some r := h
    unfold s_X13_findClasses_9 at h
    refine J_iload_n 2 dX13_findClasses_9 rfl ?_
    refine J_bipush (v := 40) dX13_findClasses_10 (by decide) ?_
    refine J_icmp_ge (tgt := 33) dX13_findClasses_12 (by decide) (fun c27 => ?_) (fun c27 => ?_)
    · have h := (if_pos c27).symm.trans h
      refine J_iconst (v := 1) dX13_findClasses_33 (by decide) ?_
      refine J_istore_n (i := 2) (ls' := [(2, .int 1), (0, .ref 324), (1, .int l1)]) dX13_findClasses_34 rfl (by decide) rfl ?_
      refine J_pick [1, 2, 0] rfl ?_
      exact t_X13_findClasses_35 hrec2 _ _ _ _ _  h
    · have h := (if_neg c27).symm.trans h
      refine J_aload_n 0 dX13_findClasses_15 rfl ?_
      refine M_getR gf_X13_106_12 dX13_findClasses_16 (g_324_44 _) k_324 n_324 ?_
      refine J_bipush (v := 40) dX13_findClasses_19 (by decide) ?_
      refine J_iload_n 1 dX13_findClasses_21 rfl ?_
      refine J_imul dX13_findClasses_22 ?_
      refine J_iload_n 2 dX13_findClasses_23 rfl ?_
      refine J_iadd dX13_findClasses_24 ?_
      refine J_iload_n 2 dX13_findClasses_25 rfl ?_
      obtain ⟨g28, h⟩ := gd_inv h
      refine M_iast dX13_findClasses_26 a_354 n_354 g28 ?_
      refine J_iinc (v := (l2 + 1)) (ls' := [(2, .int (l2 + 1)), (0, .ref 324), (1, .int l1)]) 2 dX13_findClasses_27 rfl rfl (by decide) rfl ?_
      refine J_goto (tgt := 9) dX13_findClasses_30 (by decide) ?_
      refine J_pick [1, 2, 0] rfl ?_
      exact ih _ _ _ _  h
set_option maxRecDepth 20000 in
set_option maxHeartbeats 4000000 in
theorem t_X13_findClasses_2  : ∀ (n : Nat) (l1 : Int32) (σ : jM) (r : Unit × jM), f_X13_findClasses_2  n l1 σ = some r → J mi_X13_findClasses 1 0 0 (jqV r) 2 [(0, .ref 324), (1, .int l1)] [] (ms σ) := by
  intro n
  induction n with
  | zero =>
    intro l1 σ r  h
    have h : (none : Option (Unit × jM)) = some r := h
    cases h
  | succ n ih =>
    intro l1 σ r  h
    have h : s_X13_findClasses_2  (f_X13_findClasses_2  n) l1 σ = some r := h
    unfold s_X13_findClasses_2 at h
    refine J_iload_n 1 dX13_findClasses_2 rfl ?_
    refine J_iconst (v := 2) dX13_findClasses_3 (by decide) ?_
    refine J_icmp_ge (tgt := 138) dX13_findClasses_4 (by decide) (fun c30 => ?_) (fun c30 => ?_)
    · have h := (if_pos c30).symm.trans h
      exact J_ret (v := none) rfl ⟨dX13_findClasses_138, rfl⟩ (jqV_mk h)
    · have h := (if_neg c30).symm.trans h
      refine J_iconst (v := 0) dX13_findClasses_7 (by decide) ?_
      refine J_istore_n (i := 2) (ls' := [(2, .int 0), (0, .ref 324), (1, .int l1)]) dX13_findClasses_8 rfl (by decide) rfl ?_
      refine J_pick [1, 2, 0] rfl ?_
      exact t_X13_findClasses_9 ih _ _ _ _ _  h
set_option maxRecDepth 20000 in
set_option maxHeartbeats 4000000 in
theorem t_X13_findClasses  {σ : jM} {r : Unit × jM}  (h : f_X13_findClasses  σ = some r) : J mi_X13_findClasses 1 0 0 (jqV r) 0 [(0, .ref 324)] [] (ms σ) := by
  unfold f_X13_findClasses at h
  refine J_iconst (v := 0) dX13_findClasses_0 (by decide) ?_
  refine J_istore_n (i := 1) (ls' := [(1, .int 0), (0, .ref 324)]) dX13_findClasses_1 rfl (by decide) rfl ?_
  refine J_pick [1, 0] rfl ?_
  exact t_X13_findClasses_2  _ _ _ _  h
theorem dX13_findFar_0 : decode cX13_findFar 0 = .ok (.iconst 0, 1) := by decide +kernel
theorem dX13_findFar_1 : decode cX13_findFar 1 = .ok (.istore_n 3, 1) := by decide +kernel
theorem dX13_findFar_2 : decode cX13_findFar 2 = .ok (.iload_n 3, 1) := by decide +kernel
theorem dX13_findFar_3 : decode cX13_findFar 3 = .ok (.bipush 40, 2) := by decide +kernel
theorem dX13_findFar_5 : decode cX13_findFar 5 = .ok (.if_icmp .ge 26, 3) := by decide +kernel
theorem dX13_findFar_8 : decode cX13_findFar 8 = .ok (.aload_n 0, 1) := by decide +kernel
theorem dX13_findFar_9 : decode cX13_findFar 9 = .ok (.getfield 112, 3) := by decide +kernel
theorem dX13_findFar_12 : decode cX13_findFar 12 = .ok (.iload_n 3, 1) := by decide +kernel
theorem dX13_findFar_13 : decode cX13_findFar 13 = .ok (.iload_n 3, 1) := by decide +kernel
theorem dX13_findFar_14 : decode cX13_findFar 14 = .ok (.iload_n 2, 1) := by decide +kernel
theorem dX13_findFar_15 : decode cX13_findFar 15 = .ok (.if_icmp .ne 7, 3) := by decide +kernel
theorem dX13_findFar_18 : decode cX13_findFar 18 = .ok (.iconst 0, 1) := by decide +kernel
theorem dX13_findFar_19 : decode cX13_findFar 19 = .ok (.goto 5, 3) := by decide +kernel
theorem dX13_findFar_22 : decode cX13_findFar 22 = .ok (.ldc 255, 2) := by decide +kernel
theorem dX13_findFar_24 : decode cX13_findFar 24 = .ok (.iastore, 1) := by decide +kernel
theorem dX13_findFar_25 : decode cX13_findFar 25 = .ok (.iinc 3 1, 3) := by decide +kernel
theorem dX13_findFar_28 : decode cX13_findFar 28 = .ok (.goto (-26), 3) := by decide +kernel
theorem dX13_findFar_31 : decode cX13_findFar 31 = .ok (.iconst 1, 1) := by decide +kernel
theorem dX13_findFar_32 : decode cX13_findFar 32 = .ok (.istore_n 3, 1) := by decide +kernel
theorem dX13_findFar_33 : decode cX13_findFar 33 = .ok (.iload_n 3, 1) := by decide +kernel
theorem dX13_findFar_34 : decode cX13_findFar 34 = .ok (.ifCond .eq 93, 3) := by decide +kernel
theorem dX13_findFar_37 : decode cX13_findFar 37 = .ok (.iconst 0, 1) := by decide +kernel
theorem dX13_findFar_38 : decode cX13_findFar 38 = .ok (.istore_n 3, 1) := by decide +kernel
theorem dX13_findFar_39 : decode cX13_findFar 39 = .ok (.iconst 0, 1) := by decide +kernel
theorem dX13_findFar_40 : decode cX13_findFar 40 = .ok (.istore 4, 2) := by decide +kernel
theorem dX13_findFar_42 : decode cX13_findFar 42 = .ok (.iload 4, 2) := by decide +kernel
theorem dX13_findFar_44 : decode cX13_findFar 44 = .ok (.sipush 1600, 3) := by decide +kernel
theorem dX13_findFar_47 : decode cX13_findFar 47 = .ok (.if_icmp .ge 77, 3) := by decide +kernel
theorem dX13_findFar_50 : decode cX13_findFar 50 = .ok (.aload_n 0, 1) := by decide +kernel
theorem dX13_findFar_51 : decode cX13_findFar 51 = .ok (.getfield 100, 3) := by decide +kernel
theorem dX13_findFar_54 : decode cX13_findFar 54 = .ok (.sipush 1600, 3) := by decide +kernel
theorem dX13_findFar_57 : decode cX13_findFar 57 = .ok (.iload_n 1, 1) := by decide +kernel
theorem dX13_findFar_58 : decode cX13_findFar 58 = .ok (.imul, 1) := by decide +kernel
theorem dX13_findFar_59 : decode cX13_findFar 59 = .ok (.iload 4, 2) := by decide +kernel
theorem dX13_findFar_61 : decode cX13_findFar 61 = .ok (.iadd, 1) := by decide +kernel
theorem dX13_findFar_62 : decode cX13_findFar 62 = .ok (.baload, 1) := by decide +kernel
theorem dX13_findFar_63 : decode cX13_findFar 63 = .ok (.ifCond .eq 55, 3) := by decide +kernel
theorem dX13_findFar_66 : decode cX13_findFar 66 = .ok (.aload_n 0, 1) := by decide +kernel
theorem dX13_findFar_67 : decode cX13_findFar 67 = .ok (.getfield 112, 3) := by decide +kernel
theorem dX13_findFar_70 : decode cX13_findFar 70 = .ok (.iload 4, 2) := by decide +kernel
theorem dX13_findFar_72 : decode cX13_findFar 72 = .ok (.bipush 40, 2) := by decide +kernel
theorem dX13_findFar_74 : decode cX13_findFar 74 = .ok (.irem, 1) := by decide +kernel
theorem dX13_findFar_75 : decode cX13_findFar 75 = .ok (.iaload, 1) := by decide +kernel
theorem dX13_findFar_76 : decode cX13_findFar 76 = .ok (.aload_n 0, 1) := by decide +kernel
theorem dX13_findFar_77 : decode cX13_findFar 77 = .ok (.getfield 112, 3) := by decide +kernel
theorem dX13_findFar_80 : decode cX13_findFar 80 = .ok (.iload 4, 2) := by decide +kernel
theorem dX13_findFar_82 : decode cX13_findFar 82 = .ok (.bipush 40, 2) := by decide +kernel
theorem dX13_findFar_84 : decode cX13_findFar 84 = .ok (.idiv, 1) := by decide +kernel
theorem dX13_findFar_85 : decode cX13_findFar 85 = .ok (.iaload, 1) := by decide +kernel
theorem dX13_findFar_86 : decode cX13_findFar 86 = .ok (.iconst 1, 1) := by decide +kernel
theorem dX13_findFar_87 : decode cX13_findFar 87 = .ok (.iadd, 1) := by decide +kernel
theorem dX13_findFar_88 : decode cX13_findFar 88 = .ok (.if_icmp .gt 6, 3) := by decide +kernel
theorem dX13_findFar_91 : decode cX13_findFar 91 = .ok (.goto 27, 3) := by decide +kernel
theorem dX13_findFar_94 : decode cX13_findFar 94 = .ok (.aload_n 0, 1) := by decide +kernel
theorem dX13_findFar_95 : decode cX13_findFar 95 = .ok (.getfield 112, 3) := by decide +kernel
theorem dX13_findFar_98 : decode cX13_findFar 98 = .ok (.iload 4, 2) := by decide +kernel
theorem dX13_findFar_100 : decode cX13_findFar 100 = .ok (.bipush 40, 2) := by decide +kernel
theorem dX13_findFar_102 : decode cX13_findFar 102 = .ok (.irem, 1) := by decide +kernel
theorem dX13_findFar_103 : decode cX13_findFar 103 = .ok (.aload_n 0, 1) := by decide +kernel
theorem dX13_findFar_104 : decode cX13_findFar 104 = .ok (.getfield 112, 3) := by decide +kernel
theorem dX13_findFar_107 : decode cX13_findFar 107 = .ok (.iload 4, 2) := by decide +kernel
theorem dX13_findFar_109 : decode cX13_findFar 109 = .ok (.bipush 40, 2) := by decide +kernel
theorem dX13_findFar_111 : decode cX13_findFar 111 = .ok (.idiv, 1) := by decide +kernel
theorem dX13_findFar_112 : decode cX13_findFar 112 = .ok (.iaload, 1) := by decide +kernel
theorem dX13_findFar_113 : decode cX13_findFar 113 = .ok (.iconst 1, 1) := by decide +kernel
theorem dX13_findFar_114 : decode cX13_findFar 114 = .ok (.iadd, 1) := by decide +kernel
theorem dX13_findFar_115 : decode cX13_findFar 115 = .ok (.iastore, 1) := by decide +kernel
theorem dX13_findFar_116 : decode cX13_findFar 116 = .ok (.iconst 1, 1) := by decide +kernel
theorem dX13_findFar_117 : decode cX13_findFar 117 = .ok (.istore_n 3, 1) := by decide +kernel
theorem dX13_findFar_118 : decode cX13_findFar 118 = .ok (.iinc 4 1, 3) := by decide +kernel
theorem dX13_findFar_121 : decode cX13_findFar 121 = .ok (.goto (-79), 3) := by decide +kernel
theorem dX13_findFar_124 : decode cX13_findFar 124 = .ok (.goto (-91), 3) := by decide +kernel
theorem dX13_findFar_127 : decode cX13_findFar 127 = .ok (.return_, 1) := by decide +kernel
noncomputable def f_X13_findFar_118 (rec33 : Int32 → Int32 → jM → Option (Unit × jM)) (rec42 : Int32 → Int32 → Int32 → jM → Option (Unit × jM)) (l1 : Int32) (l3 : Int32) (l4 : Int32) (σ : jM) : Option (Unit × jM) :=
  rec42 l1 l3 (l4 + 1) σ
noncomputable def s_X13_findFar_42 (rec33 : Int32 → Int32 → jM → Option (Unit × jM)) (rec42 : Int32 → Int32 → Int32 → jM → Option (Unit × jM)) (l1 : Int32) (l3 : Int32) (l4 : Int32) (σ : jM) : Option (Unit × jM) :=
  (if 1600 ≤ l4 then rec33 l1 l3 σ else gd (inb ((1600 * l1) + l4) 3200) ((if (rI σ 352 (Int32.toNatClampNeg ((1600 * l1) + l4))) = 0 then f_X13_findFar_118 rec33 rec42 l1 l3 l4 σ else gd (inb (l4 - l4 / 40 * 40) 40) (gd (inb (l4 / 40) 40) ((if ((rI σ 356 (Int32.toNatClampNeg (l4 / 40))) + 1) < (rI σ 356 (Int32.toNatClampNeg (l4 - l4 / 40 * 40))) then gd (inb (l4 / 40) 40) (gd (inb (l4 - l4 / 40 * 40) 40) (f_X13_findFar_118 rec33 rec42 l1 1 l4 (wI σ 356 (Int32.toNatClampNeg (l4 - l4 / 40 * 40)) ((rI σ 356 (Int32.toNatClampNeg (l4 / 40))) + 1)))) else f_X13_findFar_118 rec33 rec42 l1 l3 l4 σ))))))
noncomputable def f_X13_findFar_42 (rec33 : Int32 → Int32 → jM → Option (Unit × jM)) (n : Nat) : Int32 → Int32 → Int32 → jM → Option (Unit × jM) := Nat.rec (motive := fun _ => Int32 → Int32 → Int32 → jM → Option (Unit × jM)) (fun _ _ _ _ => none) (fun _ q => s_X13_findFar_42 rec33 q) n
noncomputable def s_X13_findFar_33  (rec33 : Int32 → Int32 → jM → Option (Unit × jM)) (l1 : Int32) (l3 : Int32) (σ : jM) : Option (Unit × jM) :=
  (if l3 = 0 then some ((), σ) else f_X13_findFar_42 rec33 Fu l1 0 0 σ)
noncomputable def f_X13_findFar_33  (n : Nat) : Int32 → Int32 → jM → Option (Unit × jM) := Nat.rec (motive := fun _ => Int32 → Int32 → jM → Option (Unit × jM)) (fun _ _ _ => none) (fun _ q => s_X13_findFar_33  q) n
noncomputable def f_X13_findFar_24 (rec2 : Int32 → Int32 → Int32 → jM → Option (Unit × jM)) (l1 : Int32) (l2 : Int32) (l3 : Int32) (s1 : Int32) (s2 : Int32) (σ : jM) : Option (Unit × jM) :=
  gd (inb s1 40) (rec2 l1 l2 (l3 + 1) (wI σ 356 (Int32.toNatClampNeg s1) s2))
noncomputable def s_X13_findFar_2  (rec2 : Int32 → Int32 → Int32 → jM → Option (Unit × jM)) (l1 : Int32) (l2 : Int32) (l3 : Int32) (σ : jM) : Option (Unit × jM) :=
  (if 40 ≤ l3 then f_X13_findFar_33  Fu l1 1 σ else (if l3 = l2 then f_X13_findFar_24 rec2 l1 l2 l3 l3 0 σ else f_X13_findFar_24 rec2 l1 l2 l3 l3 1000000 σ))
noncomputable def f_X13_findFar_2  (n : Nat) : Int32 → Int32 → Int32 → jM → Option (Unit × jM) := Nat.rec (motive := fun _ => Int32 → Int32 → Int32 → jM → Option (Unit × jM)) (fun _ _ _ _ => none) (fun _ q => s_X13_findFar_2  q) n
noncomputable def f_X13_findFar (a1 : Int32) (a2 : Int32) (σ : jM) : Option (Unit × jM) :=
  f_X13_findFar_2  Fu a1 a2 0 σ
set_option maxRecDepth 20000 in
set_option maxHeartbeats 4000000 in
theorem t_X13_findFar_118 {rec33 : Int32 → Int32 → jM → Option (Unit × jM)} (hrec33 : ∀ (l1 : Int32) (l3 : Int32) (σ : jM) (r : Unit × jM), rec33 l1 l3 σ = some r → J mi_X13_findFar 1 0 0 (jqV r) 33 [(0, .ref 324), (1, .int l1), (3, .int l3)] [] (ms σ)) {rec42 : Int32 → Int32 → Int32 → jM → Option (Unit × jM)} (hrec42 : ∀ (l1 : Int32) (l3 : Int32) (l4 : Int32) (σ : jM) (r : Unit × jM), rec42 l1 l3 l4 σ = some r → J mi_X13_findFar 1 0 0 (jqV r) 42 [(0, .ref 324), (1, .int l1), (3, .int l3), (4, .int l4)] [] (ms σ)) (l1 : Int32) (l3 : Int32) (l4 : Int32) (σ : jM) (r : Unit × jM)  (h : f_X13_findFar_118 rec33 rec42 l1 l3 l4 σ = some r) : J mi_X13_findFar 1 0 0 (jqV r) 118 [(0, .ref 324), (1, .int l1), (3, .int l3), (4, .int l4)] [] (ms σ) := by
  unfold f_X13_findFar_118 at h
  refine J_iinc (v := (l4 + 1)) (ls' := [(4, .int (l4 + 1)), (0, .ref 324), (1, .int l1), (3, .int l3)]) 3 dX13_findFar_118 rfl rfl (by decide) rfl ?_
  refine J_goto (tgt := 42) dX13_findFar_121 (by decide) ?_
  refine J_pick [1, 2, 3, 0] rfl ?_
  exact hrec42 _ _ _ _ _  h
set_option maxRecDepth 20000 in
set_option maxHeartbeats 4000000 in
theorem t_X13_findFar_42 {rec33 : Int32 → Int32 → jM → Option (Unit × jM)} (hrec33 : ∀ (l1 : Int32) (l3 : Int32) (σ : jM) (r : Unit × jM), rec33 l1 l3 σ = some r → J mi_X13_findFar 1 0 0 (jqV r) 33 [(0, .ref 324), (1, .int l1), (3, .int l3)] [] (ms σ)) : ∀ (n : Nat) (l1 : Int32) (l3 : Int32) (l4 : Int32) (σ : jM) (r : Unit × jM), f_X13_findFar_42 rec33 n l1 l3 l4 σ = some r → J mi_X13_findFar 1 0 0 (jqV r) 42 [(0, .ref 324), (1, .int l1), (3, .int l3), (4, .int l4)] [] (ms σ) := by
  intro n
  induction n with
  | zero =>
    intro l1 l3 l4 σ r  h
    have h : (none : Option (Unit × jM)) = some r := h
    cases h
  | succ n ih =>
    intro l1 l3 l4 σ r  h
    have h : s_X13_findFar_42 rec33 (f_X13_findFar_42 rec33 n) l1 l3 l4 σ = some r := h
    unfold s_X13_findFar_42 at h
    refine J_iload 3 dX13_findFar_42 rfl ?_
    refine J_sipush (v := 1600) dX13_findFar_44 (by decide) ?_
    refine J_icmp_ge (tgt := 124) dX13_findFar_47 (by decide) (fun c15 => ?_) (fun c15 => ?_)
    · have h := (if_pos c15).symm.trans h
      refine J_goto (tgt := 33) dX13_findFar_124 (by decide) ?_
      refine J_pick [0, 1, 2] rfl ?_
      exact hrec33 _ _ _ _  h
    · have h := (if_neg c15).symm.trans h
      refine J_aload_n 0 dX13_findFar_50 rfl ?_
      refine M_getR gf_X13_100_12 dX13_findFar_51 (g_324_42 _) k_324 n_324 ?_
      refine J_sipush (v := 1600) dX13_findFar_54 (by decide) ?_
      refine J_iload_n 1 dX13_findFar_57 rfl ?_
      refine J_imul dX13_findFar_58 ?_
      refine J_iload 3 dX13_findFar_59 rfl ?_
      refine J_iadd dX13_findFar_61 ?_
      obtain ⟨g16, h⟩ := gd_inv h
      refine M_zald dX13_findFar_62 a_352 n_352 g16 ?_
      refine J_if_eq (tgt := 118) dX13_findFar_63 (by decide) (fun c17 => ?_) (fun c17 => ?_)
      · have h := (if_pos c17).symm.trans h
        exact t_X13_findFar_118 hrec33 ih _ _ _ _ _  h
      · have h := (if_neg c17).symm.trans h
        refine J_aload_n 0 dX13_findFar_66 rfl ?_
        refine M_getR gf_X13_112_12 dX13_findFar_67 (g_324_46 _) k_324 n_324 ?_
        refine J_iload 3 dX13_findFar_70 rfl ?_
        refine J_bipush (v := 40) dX13_findFar_72 (by decide) ?_
        refine J_irem dX13_findFar_74 (by decide) ?_
        obtain ⟨g18, h⟩ := gd_inv h
        refine M_iald dX13_findFar_75 a_356 n_356 g18 ?_
        refine J_aload_n 0 dX13_findFar_76 rfl ?_
        refine M_getR gf_X13_112_12 dX13_findFar_77 (g_324_46 _) k_324 n_324 ?_
        refine J_iload 3 dX13_findFar_80 rfl ?_
        refine J_bipush (v := 40) dX13_findFar_82 (by decide) ?_
        refine J_idiv dX13_findFar_84 (by decide) ?_
        obtain ⟨g19, h⟩ := gd_inv h
        refine M_iald dX13_findFar_85 a_356 n_356 g19 ?_
        refine J_iconst (v := 1) dX13_findFar_86 (by decide) ?_
        refine J_iadd dX13_findFar_87 ?_
        refine J_icmp_gt (tgt := 94) dX13_findFar_88 (by decide) (fun c20 => ?_) (fun c20 => ?_)
        · have h := (if_pos c20).symm.trans h
          refine J_aload_n 0 dX13_findFar_94 rfl ?_
          refine M_getR gf_X13_112_12 dX13_findFar_95 (g_324_46 _) k_324 n_324 ?_
          refine J_iload 3 dX13_findFar_98 rfl ?_
          refine J_bipush (v := 40) dX13_findFar_100 (by decide) ?_
          refine J_irem dX13_findFar_102 (by decide) ?_
          refine J_aload_n 0 dX13_findFar_103 rfl ?_
          refine M_getR gf_X13_112_12 dX13_findFar_104 (g_324_46 _) k_324 n_324 ?_
          refine J_iload 3 dX13_findFar_107 rfl ?_
          refine J_bipush (v := 40) dX13_findFar_109 (by decide) ?_
          refine J_idiv dX13_findFar_111 (by decide) ?_
          obtain ⟨g21, h⟩ := gd_inv h
          refine M_iald dX13_findFar_112 a_356 n_356 g21 ?_
          refine J_iconst (v := 1) dX13_findFar_113 (by decide) ?_
          refine J_iadd dX13_findFar_114 ?_
          obtain ⟨g22, h⟩ := gd_inv h
          refine M_iast dX13_findFar_115 a_356 n_356 g22 ?_
          refine J_iconst (v := 1) dX13_findFar_116 (by decide) ?_
          refine J_istore_n (i := 3) (ls' := [(3, .int 1), (0, .ref 324), (1, .int l1), (4, .int l4)]) dX13_findFar_117 rfl (by decide) rfl ?_
          refine J_pick [1, 2, 0, 3] rfl ?_
          exact t_X13_findFar_118 hrec33 ih _ _ _ _ _  h
        · have h := (if_neg c20).symm.trans h
          refine J_goto (tgt := 118) dX13_findFar_91 (by decide) ?_
          exact t_X13_findFar_118 hrec33 ih _ _ _ _ _  h
set_option maxRecDepth 20000 in
set_option maxHeartbeats 4000000 in
theorem t_X13_findFar_33  : ∀ (n : Nat) (l1 : Int32) (l3 : Int32) (σ : jM) (r : Unit × jM), f_X13_findFar_33  n l1 l3 σ = some r → J mi_X13_findFar 1 0 0 (jqV r) 33 [(0, .ref 324), (1, .int l1), (3, .int l3)] [] (ms σ) := by
  intro n
  induction n with
  | zero =>
    intro l1 l3 σ r  h
    have h : (none : Option (Unit × jM)) = some r := h
    cases h
  | succ n ih =>
    intro l1 l3 σ r  h
    have h : s_X13_findFar_33  (f_X13_findFar_33  n) l1 l3 σ = some r := h
    unfold s_X13_findFar_33 at h
    refine J_iload_n 2 dX13_findFar_33 rfl ?_
    refine J_if_eq (tgt := 127) dX13_findFar_34 (by decide) (fun c24 => ?_) (fun c24 => ?_)
    · have h := (if_pos c24).symm.trans h
      exact J_ret (v := none) rfl ⟨dX13_findFar_127, rfl⟩ (jqV_mk h)
    · have h := (if_neg c24).symm.trans h
      refine J_iconst (v := 0) dX13_findFar_37 (by decide) ?_
      refine J_istore_n (i := 3) (ls' := [(3, .int 0), (0, .ref 324), (1, .int l1)]) dX13_findFar_38 rfl (by decide) rfl ?_
      refine J_iconst (v := 0) dX13_findFar_39 (by decide) ?_
      refine J_istore (i := 4) (ls' := [(4, .int 0), (3, .int 0), (0, .ref 324), (1, .int l1)]) dX13_findFar_40 (by decide) rfl ?_
      refine J_pick [2, 3, 1, 0] rfl ?_
      exact t_X13_findFar_42 ih _ _ _ _ _ _  h
set_option maxRecDepth 20000 in
set_option maxHeartbeats 4000000 in
theorem t_X13_findFar_24 {rec2 : Int32 → Int32 → Int32 → jM → Option (Unit × jM)} (hrec2 : ∀ (l1 : Int32) (l2 : Int32) (l3 : Int32) (σ : jM) (r : Unit × jM), rec2 l1 l2 l3 σ = some r → J mi_X13_findFar 1 0 0 (jqV r) 2 [(0, .ref 324), (1, .int l1), (2, .int l2), (3, .int l3)] [] (ms σ)) (l1 : Int32) (l2 : Int32) (l3 : Int32) (s1 : Int32) (s2 : Int32) (σ : jM) (r : Unit × jM)  (h : f_X13_findFar_24 rec2 l1 l2 l3 s1 s2 σ = some r) : J mi_X13_findFar 1 0 0 (jqV r) 24 [(0, .ref 324), (1, .int l1), (2, .int l2), (3, .int l3)] [.int s2, .int s1, .ref 356] (ms σ) := by
  unfold f_X13_findFar_24 at h
  obtain ⟨g26, h⟩ := gd_inv h
  refine M_iast dX13_findFar_24 a_356 n_356 g26 ?_
  refine J_iinc (v := (l3 + 1)) (ls' := [(3, .int (l3 + 1)), (0, .ref 324), (1, .int l1), (2, .int l2)]) 3 dX13_findFar_25 rfl rfl (by decide) rfl ?_
  refine J_goto (tgt := 2) dX13_findFar_28 (by decide) ?_
  refine J_pick [1, 2, 3, 0] rfl ?_
  exact hrec2 _ _ _ _ _  h
set_option maxRecDepth 20000 in
set_option maxHeartbeats 4000000 in
theorem t_X13_findFar_2  : ∀ (n : Nat) (l1 : Int32) (l2 : Int32) (l3 : Int32) (σ : jM) (r : Unit × jM), f_X13_findFar_2  n l1 l2 l3 σ = some r → J mi_X13_findFar 1 0 0 (jqV r) 2 [(0, .ref 324), (1, .int l1), (2, .int l2), (3, .int l3)] [] (ms σ) := by
  intro n
  induction n with
  | zero =>
    intro l1 l2 l3 σ r  h
    have h : (none : Option (Unit × jM)) = some r := h
    cases h
  | succ n ih =>
    intro l1 l2 l3 σ r  h
    have h : s_X13_findFar_2  (f_X13_findFar_2  n) l1 l2 l3 σ = some r := h
    unfold s_X13_findFar_2 at h
    refine J_iload_n 3 dX13_findFar_2 rfl ?_
    refine J_bipush (v := 40) dX13_findFar_3 (by decide) ?_
    refine J_icmp_ge (tgt := 31) dX13_findFar_5 (by decide) (fun c29 => ?_) (fun c29 => ?_)
    · have h := (if_pos c29).symm.trans h
      refine J_iconst (v := 1) dX13_findFar_31 (by decide) ?_
      refine J_istore_n (i := 3) (ls' := [(3, .int 1), (0, .ref 324), (1, .int l1), (2, .int l2)]) dX13_findFar_32 rfl (by decide) rfl ?_
      refine J_pick [1, 2, 0] rfl ?_
      exact t_X13_findFar_33  _ _ _ _ _  h
    · have h := (if_neg c29).symm.trans h
      refine J_aload_n 0 dX13_findFar_8 rfl ?_
      refine M_getR gf_X13_112_12 dX13_findFar_9 (g_324_46 _) k_324 n_324 ?_
      refine J_iload_n 3 dX13_findFar_12 rfl ?_
      refine J_iload_n 3 dX13_findFar_13 rfl ?_
      refine J_iload_n 2 dX13_findFar_14 rfl ?_
      refine J_icmp_ne (tgt := 22) dX13_findFar_15 (by decide) (fun c30 => ?_) (fun c30 => ?_)
      · have h := (if_neg c30).symm.trans h
        refine J_ldc dX13_findFar_22 ct_X13_255 ?_
        exact t_X13_findFar_24 ih _ _ _ _ _ _ _  h
      · have h := (if_pos c30).symm.trans h
        refine J_iconst (v := 0) dX13_findFar_18 (by decide) ?_
        refine J_goto (tgt := 24) dX13_findFar_19 (by decide) ?_
        exact t_X13_findFar_24 ih _ _ _ _ _ _ _  h
set_option maxRecDepth 20000 in
set_option maxHeartbeats 4000000 in
theorem t_X13_findFar {a1 : Int32} {a2 : Int32} {σ : jM} {r : Unit × jM}  (h : f_X13_findFar a1 a2 σ = some r) : J mi_X13_findFar 1 0 0 (jqV r) 0 [(0, .ref 324), (1, .int a1), (2, .int a2)] [] (ms σ) := by
  unfold f_X13_findFar at h
  refine J_iconst (v := 0) dX13_findFar_0 (by decide) ?_
  refine J_istore_n (i := 3) (ls' := [(3, .int 0), (0, .ref 324), (1, .int a1), (2, .int a2)]) dX13_findFar_1 rfl (by decide) rfl ?_
  refine J_pick [1, 2, 3, 0] rfl ?_
  exact t_X13_findFar_2  _ _ _ _ _ _  h
theorem dX13_clashes_0 : decode cX13_clashes 0 = .ok (.iload 4, 2) := by decide +kernel
theorem dX13_clashes_2 : decode cX13_clashes 2 = .ok (.aload_n 0, 1) := by decide +kernel
theorem dX13_clashes_3 : decode cX13_clashes 3 = .ok (.getfield 352, 3) := by decide +kernel
theorem dX13_clashes_6 : decode cX13_clashes 6 = .ok (.if_icmp .lt 4, 3) := by decide +kernel
theorem dX13_clashes_9 : decode cX13_clashes 9 = .ok (.return_, 1) := by decide +kernel
theorem dX13_clashes_10 : decode cX13_clashes 10 = .ok (.aload_n 0, 1) := by decide +kernel
theorem dX13_clashes_11 : decode cX13_clashes 11 = .ok (.iload_n 1, 1) := by decide +kernel
theorem dX13_clashes_12 : decode cX13_clashes 12 = .ok (.putfield 359, 3) := by decide +kernel
theorem dX13_clashes_15 : decode cX13_clashes 15 = .ok (.aload_n 0, 1) := by decide +kernel
theorem dX13_clashes_16 : decode cX13_clashes 16 = .ok (.iload_n 2, 1) := by decide +kernel
theorem dX13_clashes_17 : decode cX13_clashes 17 = .ok (.putfield 362, 3) := by decide +kernel
theorem dX13_clashes_20 : decode cX13_clashes 20 = .ok (.aload_n 0, 1) := by decide +kernel
theorem dX13_clashes_21 : decode cX13_clashes 21 = .ok (.iload_n 3, 1) := by decide +kernel
theorem dX13_clashes_22 : decode cX13_clashes 22 = .ok (.putfield 365, 3) := by decide +kernel
theorem dX13_clashes_25 : decode cX13_clashes 25 = .ok (.aload_n 0, 1) := by decide +kernel
theorem dX13_clashes_26 : decode cX13_clashes 26 = .ok (.iload 4, 2) := by decide +kernel
theorem dX13_clashes_28 : decode cX13_clashes 28 = .ok (.putfield 352, 3) := by decide +kernel
theorem dX13_clashes_31 : decode cX13_clashes 31 = .ok (.aload_n 0, 1) := by decide +kernel
theorem dX13_clashes_32 : decode cX13_clashes 32 = .ok (.iload 5, 2) := by decide +kernel
theorem dX13_clashes_34 : decode cX13_clashes 34 = .ok (.putfield 368, 3) := by decide +kernel
theorem dX13_clashes_37 : decode cX13_clashes 37 = .ok (.return_, 1) := by decide +kernel
noncomputable def f_X13_clashes (a1 : Int32) (a2 : Int32) (a3 : Int32) (a4 : Int32) (a5 : Int32) (σ : jM) : Option (Unit × jM) :=
  (if a4 < (rI σ 324 50) then some ((), wI (wI (wI (wI (wI σ 324 47 a1) 324 48 a2) 324 49 a3) 324 50 a4) 324 51 a5) else some ((), σ))
set_option maxRecDepth 20000 in
set_option maxHeartbeats 4000000 in
theorem t_X13_clashes {a1 : Int32} {a2 : Int32} {a3 : Int32} {a4 : Int32} {a5 : Int32} {σ : jM} {r : Unit × jM}  (h : f_X13_clashes a1 a2 a3 a4 a5 σ = some r) : J mi_X13_clashes 1 0 0 (jqV r) 0 [(0, .ref 324), (1, .int a1), (2, .int a2), (3, .int a3), (4, .int a4), (5, .int a5)] [] (ms σ) := by
  unfold f_X13_clashes at h
  refine J_iload 4 dX13_clashes_0 rfl ?_
  refine J_aload_n 0 dX13_clashes_2 rfl ?_
  refine M_getI gf_X13_352_12 dX13_clashes_3 k_324 n_324 ?_
  refine J_icmp_lt (tgt := 10) dX13_clashes_6 (by decide) (fun c1 => ?_) (fun c1 => ?_)
  · have h := (if_pos c1).symm.trans h
    refine J_aload_n 0 dX13_clashes_10 rfl ?_
    refine J_iload_n 1 dX13_clashes_11 rfl ?_
    refine M_putI pf_X13_359_12 dX13_clashes_12 k_324 n_324 ⟨rfl, rfl⟩ ?_
    refine J_aload_n 0 dX13_clashes_15 rfl ?_
    refine J_iload_n 2 dX13_clashes_16 rfl ?_
    refine M_putI pf_X13_362_12 dX13_clashes_17 k_324 n_324 ⟨rfl, rfl⟩ ?_
    refine J_aload_n 0 dX13_clashes_20 rfl ?_
    refine J_iload_n 3 dX13_clashes_21 rfl ?_
    refine M_putI pf_X13_365_12 dX13_clashes_22 k_324 n_324 ⟨rfl, rfl⟩ ?_
    refine J_aload_n 0 dX13_clashes_25 rfl ?_
    refine J_iload 4 dX13_clashes_26 rfl ?_
    refine M_putI pf_X13_352_12 dX13_clashes_28 k_324 n_324 ⟨rfl, rfl⟩ ?_
    refine J_aload_n 0 dX13_clashes_31 rfl ?_
    refine J_iload 5 dX13_clashes_32 rfl ?_
    refine M_putI pf_X13_368_12 dX13_clashes_34 k_324 n_324 ⟨rfl, rfl⟩ ?_
    exact J_ret (v := none) rfl ⟨dX13_clashes_37, rfl⟩ (jqV_mk h)
  · have h := (if_neg c1).symm.trans h
    exact J_ret (v := none) rfl ⟨dX13_clashes_9, rfl⟩ (jqV_mk h)
theorem dX13_walks_0 : decode cX13_walks 0 = .ok (.aload_n 0, 1) := by decide +kernel
theorem dX13_walks_1 : decode cX13_walks 1 = .ok (.iload_n 1, 1) := by decide +kernel
theorem dX13_walks_2 : decode cX13_walks 2 = .ok (.iload_n 3, 1) := by decide +kernel
theorem dX13_walks_3 : decode cX13_walks 3 = .ok (.invokevirtual 348, 3) := by decide +kernel
theorem dX13_walks_6 : decode cX13_walks 6 = .ok (.iload_n 2, 1) := by decide +kernel
theorem dX13_walks_7 : decode cX13_walks 7 = .ok (.istore 4, 2) := by decide +kernel
theorem dX13_walks_9 : decode cX13_walks 9 = .ok (.iload 4, 2) := by decide +kernel
theorem dX13_walks_11 : decode cX13_walks 11 = .ok (.iload_n 3, 1) := by decide +kernel
theorem dX13_walks_12 : decode cX13_walks 12 = .ok (.if_icmp .eq 112, 3) := by decide +kernel
theorem dX13_walks_15 : decode cX13_walks 15 = .ok (.iconst 0, 1) := by decide +kernel
theorem dX13_walks_16 : decode cX13_walks 16 = .ok (.istore 5, 2) := by decide +kernel
theorem dX13_walks_18 : decode cX13_walks 18 = .ok (.aload_n 0, 1) := by decide +kernel
theorem dX13_walks_19 : decode cX13_walks 19 = .ok (.getfield 100, 3) := by decide +kernel
theorem dX13_walks_22 : decode cX13_walks 22 = .ok (.sipush 1600, 3) := by decide +kernel
theorem dX13_walks_25 : decode cX13_walks 25 = .ok (.iload_n 1, 1) := by decide +kernel
theorem dX13_walks_26 : decode cX13_walks 26 = .ok (.imul, 1) := by decide +kernel
theorem dX13_walks_27 : decode cX13_walks 27 = .ok (.bipush 40, 2) := by decide +kernel
theorem dX13_walks_29 : decode cX13_walks 29 = .ok (.iload 4, 2) := by decide +kernel
theorem dX13_walks_31 : decode cX13_walks 31 = .ok (.imul, 1) := by decide +kernel
theorem dX13_walks_32 : decode cX13_walks 32 = .ok (.iadd, 1) := by decide +kernel
theorem dX13_walks_33 : decode cX13_walks 33 = .ok (.iload 5, 2) := by decide +kernel
theorem dX13_walks_35 : decode cX13_walks 35 = .ok (.iadd, 1) := by decide +kernel
theorem dX13_walks_36 : decode cX13_walks 36 = .ok (.baload, 1) := by decide +kernel
theorem dX13_walks_37 : decode cX13_walks 37 = .ok (.ifCond .eq 22, 3) := by decide +kernel
theorem dX13_walks_40 : decode cX13_walks 40 = .ok (.aload_n 0, 1) := by decide +kernel
theorem dX13_walks_41 : decode cX13_walks 41 = .ok (.getfield 112, 3) := by decide +kernel
theorem dX13_walks_44 : decode cX13_walks 44 = .ok (.iload 5, 2) := by decide +kernel
theorem dX13_walks_46 : decode cX13_walks 46 = .ok (.iaload, 1) := by decide +kernel
theorem dX13_walks_47 : decode cX13_walks 47 = .ok (.aload_n 0, 1) := by decide +kernel
theorem dX13_walks_48 : decode cX13_walks 48 = .ok (.getfield 112, 3) := by decide +kernel
theorem dX13_walks_51 : decode cX13_walks 51 = .ok (.iload 4, 2) := by decide +kernel
theorem dX13_walks_53 : decode cX13_walks 53 = .ok (.iaload, 1) := by decide +kernel
theorem dX13_walks_54 : decode cX13_walks 54 = .ok (.iconst 1, 1) := by decide +kernel
theorem dX13_walks_55 : decode cX13_walks 55 = .ok (.isub, 1) := by decide +kernel
theorem dX13_walks_56 : decode cX13_walks 56 = .ok (.if_icmp .eq 9, 3) := by decide +kernel
theorem dX13_walks_59 : decode cX13_walks 59 = .ok (.iinc 5 1, 3) := by decide +kernel
theorem dX13_walks_62 : decode cX13_walks 62 = .ok (.goto (-44), 3) := by decide +kernel
theorem dX13_walks_65 : decode cX13_walks 65 = .ok (.aload_n 0, 1) := by decide +kernel
theorem dX13_walks_66 : decode cX13_walks 66 = .ok (.getfield 118, 3) := by decide +kernel
theorem dX13_walks_69 : decode cX13_walks 69 = .ok (.iconst 3, 1) := by decide +kernel
theorem dX13_walks_70 : decode cX13_walks 70 = .ok (.aload_n 0, 1) := by decide +kernel
theorem dX13_walks_71 : decode cX13_walks 71 = .ok (.getfield 374, 3) := by decide +kernel
theorem dX13_walks_74 : decode cX13_walks 74 = .ok (.imul, 1) := by decide +kernel
theorem dX13_walks_75 : decode cX13_walks 75 = .ok (.iload_n 1, 1) := by decide +kernel
theorem dX13_walks_76 : decode cX13_walks 76 = .ok (.iastore, 1) := by decide +kernel
theorem dX13_walks_77 : decode cX13_walks 77 = .ok (.aload_n 0, 1) := by decide +kernel
theorem dX13_walks_78 : decode cX13_walks 78 = .ok (.getfield 118, 3) := by decide +kernel
theorem dX13_walks_81 : decode cX13_walks 81 = .ok (.iconst 3, 1) := by decide +kernel
theorem dX13_walks_82 : decode cX13_walks 82 = .ok (.aload_n 0, 1) := by decide +kernel
theorem dX13_walks_83 : decode cX13_walks 83 = .ok (.getfield 374, 3) := by decide +kernel
theorem dX13_walks_86 : decode cX13_walks 86 = .ok (.imul, 1) := by decide +kernel
theorem dX13_walks_87 : decode cX13_walks 87 = .ok (.iconst 1, 1) := by decide +kernel
theorem dX13_walks_88 : decode cX13_walks 88 = .ok (.iadd, 1) := by decide +kernel
theorem dX13_walks_89 : decode cX13_walks 89 = .ok (.iload 4, 2) := by decide +kernel
theorem dX13_walks_91 : decode cX13_walks 91 = .ok (.iastore, 1) := by decide +kernel
theorem dX13_walks_92 : decode cX13_walks 92 = .ok (.aload_n 0, 1) := by decide +kernel
theorem dX13_walks_93 : decode cX13_walks 93 = .ok (.getfield 118, 3) := by decide +kernel
theorem dX13_walks_96 : decode cX13_walks 96 = .ok (.iconst 3, 1) := by decide +kernel
theorem dX13_walks_97 : decode cX13_walks 97 = .ok (.aload_n 0, 1) := by decide +kernel
theorem dX13_walks_98 : decode cX13_walks 98 = .ok (.getfield 374, 3) := by decide +kernel
theorem dX13_walks_101 : decode cX13_walks 101 = .ok (.imul, 1) := by decide +kernel
theorem dX13_walks_102 : decode cX13_walks 102 = .ok (.iconst 2, 1) := by decide +kernel
theorem dX13_walks_103 : decode cX13_walks 103 = .ok (.iadd, 1) := by decide +kernel
theorem dX13_walks_104 : decode cX13_walks 104 = .ok (.iload 5, 2) := by decide +kernel
theorem dX13_walks_106 : decode cX13_walks 106 = .ok (.iastore, 1) := by decide +kernel
theorem dX13_walks_107 : decode cX13_walks 107 = .ok (.aload_n 0, 1) := by decide +kernel
theorem dX13_walks_108 : decode cX13_walks 108 = .ok (.dup, 1) := by decide +kernel
theorem dX13_walks_109 : decode cX13_walks 109 = .ok (.getfield 374, 3) := by decide +kernel
theorem dX13_walks_112 : decode cX13_walks 112 = .ok (.iconst 1, 1) := by decide +kernel
theorem dX13_walks_113 : decode cX13_walks 113 = .ok (.iadd, 1) := by decide +kernel
theorem dX13_walks_114 : decode cX13_walks 114 = .ok (.putfield 374, 3) := by decide +kernel
theorem dX13_walks_117 : decode cX13_walks 117 = .ok (.iload 5, 2) := by decide +kernel
theorem dX13_walks_119 : decode cX13_walks 119 = .ok (.istore 4, 2) := by decide +kernel
theorem dX13_walks_121 : decode cX13_walks 121 = .ok (.goto (-112), 3) := by decide +kernel
theorem dX13_walks_124 : decode cX13_walks 124 = .ok (.return_, 1) := by decide +kernel
noncomputable def f_X13_walks_59 (rec9 : Int32 → Int32 → Int32 → jM → Option (Unit × jM)) (rec18 : Int32 → Int32 → Int32 → Int32 → jM → Option (Unit × jM)) (l1 : Int32) (l3 : Int32) (l4 : Int32) (l5 : Int32) (σ : jM) : Option (Unit × jM) :=
  rec18 l1 l3 l4 (l5 + 1) σ
noncomputable def s_X13_walks_18 (rec9 : Int32 → Int32 → Int32 → jM → Option (Unit × jM)) (rec18 : Int32 → Int32 → Int32 → Int32 → jM → Option (Unit × jM)) (l1 : Int32) (l3 : Int32) (l4 : Int32) (l5 : Int32) (σ : jM) : Option (Unit × jM) :=
  gd (inb (((1600 * l1) + (40 * l4)) + l5) 3200) ((if (rI σ 352 (Int32.toNatClampNeg (((1600 * l1) + (40 * l4)) + l5))) = 0 then f_X13_walks_59 rec9 rec18 l1 l3 l4 l5 σ else gd (inb l5 40) (gd (inb l4 40) ((if (rI σ 356 (Int32.toNatClampNeg l5)) = ((rI σ 356 (Int32.toNatClampNeg l4)) - 1) then gd (inb (3 * (rI σ 324 53)) 240) (gd (inb ((3 * (rI (wI σ 358 (Int32.toNatClampNeg (3 * (rI σ 324 53))) l1) 324 53)) + 1) 240) (gd (inb ((3 * (rI (wI (wI σ 358 (Int32.toNatClampNeg (3 * (rI σ 324 53))) l1) 358 (Int32.toNatClampNeg ((3 * (rI (wI σ 358 (Int32.toNatClampNeg (3 * (rI σ 324 53))) l1) 324 53)) + 1)) l4) 324 53)) + 2) 240) (rec9 l1 l3 l5 (wI (wI (wI (wI σ 358 (Int32.toNatClampNeg (3 * (rI σ 324 53))) l1) 358 (Int32.toNatClampNeg ((3 * (rI (wI σ 358 (Int32.toNatClampNeg (3 * (rI σ 324 53))) l1) 324 53)) + 1)) l4) 358 (Int32.toNatClampNeg ((3 * (rI (wI (wI σ 358 (Int32.toNatClampNeg (3 * (rI σ 324 53))) l1) 358 (Int32.toNatClampNeg ((3 * (rI (wI σ 358 (Int32.toNatClampNeg (3 * (rI σ 324 53))) l1) 324 53)) + 1)) l4) 324 53)) + 2)) l5) 324 53 ((rI (wI (wI (wI σ 358 (Int32.toNatClampNeg (3 * (rI σ 324 53))) l1) 358 (Int32.toNatClampNeg ((3 * (rI (wI σ 358 (Int32.toNatClampNeg (3 * (rI σ 324 53))) l1) 324 53)) + 1)) l4) 358 (Int32.toNatClampNeg ((3 * (rI (wI (wI σ 358 (Int32.toNatClampNeg (3 * (rI σ 324 53))) l1) 358 (Int32.toNatClampNeg ((3 * (rI (wI σ 358 (Int32.toNatClampNeg (3 * (rI σ 324 53))) l1) 324 53)) + 1)) l4) 324 53)) + 2)) l5) 324 53) + 1))))) else f_X13_walks_59 rec9 rec18 l1 l3 l4 l5 σ)))))
noncomputable def f_X13_walks_18 (rec9 : Int32 → Int32 → Int32 → jM → Option (Unit × jM)) (n : Nat) : Int32 → Int32 → Int32 → Int32 → jM → Option (Unit × jM) := Nat.rec (motive := fun _ => Int32 → Int32 → Int32 → Int32 → jM → Option (Unit × jM)) (fun _ _ _ _ _ => none) (fun _ q => s_X13_walks_18 rec9 q) n
noncomputable def s_X13_walks_9  (rec9 : Int32 → Int32 → Int32 → jM → Option (Unit × jM)) (l1 : Int32) (l3 : Int32) (l4 : Int32) (σ : jM) : Option (Unit × jM) :=
  (if l4 = l3 then some ((), σ) else f_X13_walks_18 rec9 Fu l1 l3 l4 0 σ)
noncomputable def f_X13_walks_9  (n : Nat) : Int32 → Int32 → Int32 → jM → Option (Unit × jM) := Nat.rec (motive := fun _ => Int32 → Int32 → Int32 → jM → Option (Unit × jM)) (fun _ _ _ _ => none) (fun _ q => s_X13_walks_9  q) n
noncomputable def f_X13_walks (a1 : Int32) (a2 : Int32) (a3 : Int32) (σ : jM) : Option (Unit × jM) :=
  bd (f_X13_findFar a1 a3 σ) (fun _ σ26 => f_X13_walks_9  Fu a1 a3 a2 σ26)
set_option maxRecDepth 20000 in
set_option maxHeartbeats 4000000 in
theorem t_X13_walks_59 {rec9 : Int32 → Int32 → Int32 → jM → Option (Unit × jM)} (hrec9 : ∀ (l1 : Int32) (l3 : Int32) (l4 : Int32) (σ : jM) (r : Unit × jM), rec9 l1 l3 l4 σ = some r → J mi_X13_walks 2 0 0 (jqV r) 9 [(0, .ref 324), (1, .int l1), (3, .int l3), (4, .int l4)] [] (ms σ)) {rec18 : Int32 → Int32 → Int32 → Int32 → jM → Option (Unit × jM)} (hrec18 : ∀ (l1 : Int32) (l3 : Int32) (l4 : Int32) (l5 : Int32) (σ : jM) (r : Unit × jM), rec18 l1 l3 l4 l5 σ = some r → J mi_X13_walks 2 0 0 (jqV r) 18 [(0, .ref 324), (1, .int l1), (3, .int l3), (4, .int l4), (5, .int l5)] [] (ms σ)) (l1 : Int32) (l3 : Int32) (l4 : Int32) (l5 : Int32) (σ : jM) (r : Unit × jM)  (h : f_X13_walks_59 rec9 rec18 l1 l3 l4 l5 σ = some r) : J mi_X13_walks 2 0 0 (jqV r) 59 [(0, .ref 324), (1, .int l1), (3, .int l3), (4, .int l4), (5, .int l5)] [] (ms σ) := by
  unfold f_X13_walks_59 at h
  refine J_iinc (v := (l5 + 1)) (ls' := [(5, .int (l5 + 1)), (0, .ref 324), (1, .int l1), (3, .int l3), (4, .int l4)]) 4 dX13_walks_59 rfl rfl (by decide) rfl ?_
  refine J_goto (tgt := 18) dX13_walks_62 (by decide) ?_
  refine J_pick [1, 2, 3, 4, 0] rfl ?_
  exact hrec18 _ _ _ _ _ _  h
set_option maxRecDepth 20000 in
set_option maxHeartbeats 4000000 in
theorem t_X13_walks_18 {rec9 : Int32 → Int32 → Int32 → jM → Option (Unit × jM)} (hrec9 : ∀ (l1 : Int32) (l3 : Int32) (l4 : Int32) (σ : jM) (r : Unit × jM), rec9 l1 l3 l4 σ = some r → J mi_X13_walks 2 0 0 (jqV r) 9 [(0, .ref 324), (1, .int l1), (3, .int l3), (4, .int l4)] [] (ms σ)) : ∀ (n : Nat) (l1 : Int32) (l3 : Int32) (l4 : Int32) (l5 : Int32) (σ : jM) (r : Unit × jM), f_X13_walks_18 rec9 n l1 l3 l4 l5 σ = some r → J mi_X13_walks 2 0 0 (jqV r) 18 [(0, .ref 324), (1, .int l1), (3, .int l3), (4, .int l4), (5, .int l5)] [] (ms σ) := by
  intro n
  induction n with
  | zero =>
    intro l1 l3 l4 l5 σ r  h
    have h : (none : Option (Unit × jM)) = some r := h
    cases h
  | succ n ih =>
    intro l1 l3 l4 l5 σ r  h
    have h : s_X13_walks_18 rec9 (f_X13_walks_18 rec9 n) l1 l3 l4 l5 σ = some r := h
    unfold s_X13_walks_18 at h
    refine J_aload_n 0 dX13_walks_18 rfl ?_
    refine M_getR gf_X13_100_12 dX13_walks_19 (g_324_42 _) k_324 n_324 ?_
    refine J_sipush (v := 1600) dX13_walks_22 (by decide) ?_
    refine J_iload_n 1 dX13_walks_25 rfl ?_
    refine J_imul dX13_walks_26 ?_
    refine J_bipush (v := 40) dX13_walks_27 (by decide) ?_
    refine J_iload 3 dX13_walks_29 rfl ?_
    refine J_imul dX13_walks_31 ?_
    refine J_iadd dX13_walks_32 ?_
    refine J_iload 4 dX13_walks_33 rfl ?_
    refine J_iadd dX13_walks_35 ?_
    obtain ⟨g15, h⟩ := gd_inv h
    refine M_zald dX13_walks_36 a_352 n_352 g15 ?_
    refine J_if_eq (tgt := 59) dX13_walks_37 (by decide) (fun c16 => ?_) (fun c16 => ?_)
    · have h := (if_pos c16).symm.trans h
      exact t_X13_walks_59 hrec9 ih _ _ _ _ _ _  h
    · have h := (if_neg c16).symm.trans h
      refine J_aload_n 0 dX13_walks_40 rfl ?_
      refine M_getR gf_X13_112_12 dX13_walks_41 (g_324_46 _) k_324 n_324 ?_
      refine J_iload 4 dX13_walks_44 rfl ?_
      obtain ⟨g17, h⟩ := gd_inv h
      refine M_iald dX13_walks_46 a_356 n_356 g17 ?_
      refine J_aload_n 0 dX13_walks_47 rfl ?_
      refine M_getR gf_X13_112_12 dX13_walks_48 (g_324_46 _) k_324 n_324 ?_
      refine J_iload 3 dX13_walks_51 rfl ?_
      obtain ⟨g18, h⟩ := gd_inv h
      refine M_iald dX13_walks_53 a_356 n_356 g18 ?_
      refine J_iconst (v := 1) dX13_walks_54 (by decide) ?_
      refine J_isub dX13_walks_55 ?_
      refine J_icmp_eq (tgt := 65) dX13_walks_56 (by decide) (fun c19 => ?_) (fun c19 => ?_)
      · have h := (if_pos c19).symm.trans h
        refine J_aload_n 0 dX13_walks_65 rfl ?_
        refine M_getR gf_X13_118_12 dX13_walks_66 (g_324_54 _) k_324 n_324 ?_
        refine J_iconst (v := 3) dX13_walks_69 (by decide) ?_
        refine J_aload_n 0 dX13_walks_70 rfl ?_
        refine M_getI gf_X13_374_12 dX13_walks_71 k_324 n_324 ?_
        refine J_imul dX13_walks_74 ?_
        refine J_iload_n 1 dX13_walks_75 rfl ?_
        obtain ⟨g20, h⟩ := gd_inv h
        refine M_iast dX13_walks_76 a_358 n_358 g20 ?_
        refine J_aload_n 0 dX13_walks_77 rfl ?_
        refine M_getR gf_X13_118_12 dX13_walks_78 (g_324_54 _) k_324 n_324 ?_
        refine J_iconst (v := 3) dX13_walks_81 (by decide) ?_
        refine J_aload_n 0 dX13_walks_82 rfl ?_
        refine M_getI gf_X13_374_12 dX13_walks_83 k_324 n_324 ?_
        refine J_imul dX13_walks_86 ?_
        refine J_iconst (v := 1) dX13_walks_87 (by decide) ?_
        refine J_iadd dX13_walks_88 ?_
        refine J_iload 3 dX13_walks_89 rfl ?_
        obtain ⟨g21, h⟩ := gd_inv h
        refine M_iast dX13_walks_91 a_358 n_358 g21 ?_
        refine J_aload_n 0 dX13_walks_92 rfl ?_
        refine M_getR gf_X13_118_12 dX13_walks_93 (g_324_54 _) k_324 n_324 ?_
        refine J_iconst (v := 3) dX13_walks_96 (by decide) ?_
        refine J_aload_n 0 dX13_walks_97 rfl ?_
        refine M_getI gf_X13_374_12 dX13_walks_98 k_324 n_324 ?_
        refine J_imul dX13_walks_101 ?_
        refine J_iconst (v := 2) dX13_walks_102 (by decide) ?_
        refine J_iadd dX13_walks_103 ?_
        refine J_iload 4 dX13_walks_104 rfl ?_
        obtain ⟨g22, h⟩ := gd_inv h
        refine M_iast dX13_walks_106 a_358 n_358 g22 ?_
        refine J_aload_n 0 dX13_walks_107 rfl ?_
        refine J_dup dX13_walks_108 rfl ?_
        refine M_getI gf_X13_374_12 dX13_walks_109 k_324 n_324 ?_
        refine J_iconst (v := 1) dX13_walks_112 (by decide) ?_
        refine J_iadd dX13_walks_113 ?_
        refine M_putI pf_X13_374_12 dX13_walks_114 k_324 n_324 ⟨rfl, rfl⟩ ?_
        refine J_iload 4 dX13_walks_117 rfl ?_
        refine J_istore (i := 4) (ls' := [(4, .int l5), (0, .ref 324), (1, .int l1), (3, .int l3), (5, .int l5)]) dX13_walks_119 (by decide) rfl ?_
        refine J_goto (tgt := 9) dX13_walks_121 (by decide) ?_
        refine J_pick [1, 2, 3, 0] rfl ?_
        exact hrec9 _ _ _ _ _  h
      · have h := (if_neg c19).symm.trans h
        exact t_X13_walks_59 hrec9 ih _ _ _ _ _ _  h
set_option maxRecDepth 20000 in
set_option maxHeartbeats 4000000 in
theorem t_X13_walks_9  : ∀ (n : Nat) (l1 : Int32) (l3 : Int32) (l4 : Int32) (σ : jM) (r : Unit × jM), f_X13_walks_9  n l1 l3 l4 σ = some r → J mi_X13_walks 2 0 0 (jqV r) 9 [(0, .ref 324), (1, .int l1), (3, .int l3), (4, .int l4)] [] (ms σ) := by
  intro n
  induction n with
  | zero =>
    intro l1 l3 l4 σ r  h
    have h : (none : Option (Unit × jM)) = some r := h
    cases h
  | succ n ih =>
    intro l1 l3 l4 σ r  h
    have h : s_X13_walks_9  (f_X13_walks_9  n) l1 l3 l4 σ = some r := h
    unfold s_X13_walks_9 at h
    refine J_iload 3 dX13_walks_9 rfl ?_
    refine J_iload_n 2 dX13_walks_11 rfl ?_
    refine J_icmp_eq (tgt := 124) dX13_walks_12 (by decide) (fun c24 => ?_) (fun c24 => ?_)
    · have h := (if_pos c24).symm.trans h
      exact J_ret (v := none) rfl ⟨dX13_walks_124, rfl⟩ (jqV_mk h)
    · have h := (if_neg c24).symm.trans h
      refine J_iconst (v := 0) dX13_walks_15 (by decide) ?_
      refine J_istore (i := 5) (ls' := [(5, .int 0), (0, .ref 324), (1, .int l1), (3, .int l3), (4, .int l4)]) dX13_walks_16 (by decide) rfl ?_
      refine J_pick [1, 2, 3, 4, 0] rfl ?_
      exact t_X13_walks_18 ih _ _ _ _ _ _ _  h
set_option maxRecDepth 20000 in
set_option maxHeartbeats 4000000 in
theorem t_X13_walks {a1 : Int32} {a2 : Int32} {a3 : Int32} {σ : jM} {r : Unit × jM}  (h : f_X13_walks a1 a2 a3 σ = some r) : J mi_X13_walks 2 0 0 (jqV r) 0 [(0, .ref 324), (1, .int a1), (2, .int a2), (3, .int a3)] [] (ms σ) := by
  unfold f_X13_walks at h
  refine J_aload_n 0 dX13_walks_0 rfl ?_
  refine J_iload_n 1 dX13_walks_1 rfl ?_
  refine J_iload_n 3 dX13_walks_2 rfl ?_
  obtain ⟨_, σ26, h27, h⟩ := bd_inv h
  refine M_callVV (d' := 1) (k := 324) (As := [.int a1, .int a3]) (st := []) cv_X13_348 dX13_walks_3 rfl (by decide) rfl (Nat.le_of_ble_eq_true rfl) (Nat.le_of_ble_eq_true rfl) (by decide) n_324 k_324 rfl rfl (t_X13_findFar  h27) ?_
  refine J_iload_n 2 dX13_walks_6 rfl ?_
  refine J_istore (i := 4) (ls' := [(4, .int a2), (0, .ref 324), (1, .int a1), (2, .int a2), (3, .int a3)]) dX13_walks_7 (by decide) rfl ?_
  refine J_pick [1, 2, 4, 0] rfl ?_
  exact t_X13_walks_9  _ _ _ _ _ _  h
theorem dX13_isName_0 : decode cX13_isName 0 = .ok (.aload_n 0, 1) := by decide +kernel
theorem dX13_isName_1 : decode cX13_isName 1 = .ok (.getfield 180, 3) := by decide +kernel
theorem dX13_isName_4 : decode cX13_isName 4 = .ok (.iconst 1, 1) := by decide +kernel
theorem dX13_isName_5 : decode cX13_isName 5 = .ok (.if_icmp .lt 16, 3) := by decide +kernel
theorem dX13_isName_8 : decode cX13_isName 8 = .ok (.aload_n 0, 1) := by decide +kernel
theorem dX13_isName_9 : decode cX13_isName 9 = .ok (.getfield 180, 3) := by decide +kernel
theorem dX13_isName_12 : decode cX13_isName 12 = .ok (.bipush 8, 2) := by decide +kernel
theorem dX13_isName_14 : decode cX13_isName 14 = .ok (.if_icmp .gt 7, 3) := by decide +kernel
theorem dX13_isName_17 : decode cX13_isName 17 = .ok (.iconst 1, 1) := by decide +kernel
theorem dX13_isName_18 : decode cX13_isName 18 = .ok (.goto 4, 3) := by decide +kernel
theorem dX13_isName_21 : decode cX13_isName 21 = .ok (.iconst 0, 1) := by decide +kernel
theorem dX13_isName_22 : decode cX13_isName 22 = .ok (.istore_n 1, 1) := by decide +kernel
theorem dX13_isName_23 : decode cX13_isName 23 = .ok (.iconst 0, 1) := by decide +kernel
theorem dX13_isName_24 : decode cX13_isName 24 = .ok (.istore_n 2, 1) := by decide +kernel
theorem dX13_isName_25 : decode cX13_isName 25 = .ok (.iload_n 2, 1) := by decide +kernel
theorem dX13_isName_26 : decode cX13_isName 26 = .ok (.aload_n 0, 1) := by decide +kernel
theorem dX13_isName_27 : decode cX13_isName 27 = .ok (.getfield 180, 3) := by decide +kernel
theorem dX13_isName_30 : decode cX13_isName 30 = .ok (.if_icmp .ge 23, 3) := by decide +kernel
theorem dX13_isName_33 : decode cX13_isName 33 = .ok (.iload_n 1, 1) := by decide +kernel
theorem dX13_isName_34 : decode cX13_isName 34 = .ok (.ifCond .eq 19, 3) := by decide +kernel
theorem dX13_isName_37 : decode cX13_isName 37 = .ok (.aload_n 0, 1) := by decide +kernel
theorem dX13_isName_38 : decode cX13_isName 38 = .ok (.getfield 47, 3) := by decide +kernel
theorem dX13_isName_41 : decode cX13_isName 41 = .ok (.iload_n 2, 1) := by decide +kernel
theorem dX13_isName_42 : decode cX13_isName 42 = .ok (.baload, 1) := by decide +kernel
theorem dX13_isName_43 : decode cX13_isName 43 = .ok (.invokestatic 195, 3) := by decide +kernel
theorem dX13_isName_46 : decode cX13_isName 46 = .ok (.istore_n 1, 1) := by decide +kernel
theorem dX13_isName_47 : decode cX13_isName 47 = .ok (.iinc 2 1, 3) := by decide +kernel
theorem dX13_isName_50 : decode cX13_isName 50 = .ok (.goto (-25), 3) := by decide +kernel
theorem dX13_isName_53 : decode cX13_isName 53 = .ok (.iload_n 1, 1) := by decide +kernel
theorem dX13_isName_54 : decode cX13_isName 54 = .ok (.ireturn, 1) := by decide +kernel
noncomputable def f_X13_isName_53  (l1 : Int32) (σ : jM) : Option (Int32 × jM) :=
  gd (l1 = 0 ∨ l1 = 1) (some (l1, σ))
noncomputable def s_X13_isName_25  (rec25 : Int32 → Int32 → jM → Option (Int32 × jM)) (l1 : Int32) (l2 : Int32) (σ : jM) : Option (Int32 × jM) :=
  (if (rI σ 324 16) ≤ l2 then f_X13_isName_53  l1 σ else (if l1 = 0 then f_X13_isName_53  l1 σ else gd (inb l2 300) (bd (f_X13_isSmall (rI σ 336 (Int32.toNatClampNeg l2)) σ) (fun r7 σ8 => rec25 r7 (l2 + 1) σ8))))
noncomputable def f_X13_isName_25  (n : Nat) : Int32 → Int32 → jM → Option (Int32 × jM) := Nat.rec (motive := fun _ => Int32 → Int32 → jM → Option (Int32 × jM)) (fun _ _ _ => none) (fun _ q => s_X13_isName_25  q) n
noncomputable def f_X13_isName_22  (s0 : Int32) (σ : jM) : Option (Int32 × jM) :=
  f_X13_isName_25  Fu s0 0 σ
noncomputable def f_X13_isName_21   (σ : jM) : Option (Int32 × jM) :=
  f_X13_isName_22  0 σ
noncomputable def f_X13_isName  (σ : jM) : Option (Int32 × jM) :=
  (if (rI σ 324 16) < 1 then f_X13_isName_21   σ else (if 8 < (rI σ 324 16) then f_X13_isName_21   σ else f_X13_isName_22  1 σ))
set_option maxRecDepth 20000 in
set_option maxHeartbeats 4000000 in
theorem t_X13_isName_53  (l1 : Int32) (σ : jM) (r : Int32 × jM)  (h : f_X13_isName_53  l1 σ = some r) : J mi_X13_isName 2 0 0 (jqI r) 53 [(1, .int l1)] [] (ms σ) := by
  unfold f_X13_isName_53 at h
  refine J_iload_n 0 dX13_isName_53 rfl ?_
  obtain ⟨g3, h⟩ := gd_inv h
  exact J_ret (v := some (.int l1)) rfl ⟨dX13_isName_54, Or.inr (Or.inl ⟨rfl, g3⟩)⟩ (jqI_mk h)
set_option maxRecDepth 20000 in
set_option maxHeartbeats 4000000 in
theorem t_X13_isName_25  : ∀ (n : Nat) (l1 : Int32) (l2 : Int32) (σ : jM) (r : Int32 × jM), f_X13_isName_25  n l1 l2 σ = some r → J mi_X13_isName 2 0 0 (jqI r) 25 [(0, .ref 324), (1, .int l1), (2, .int l2)] [] (ms σ) := by
  intro n
  induction n with
  | zero =>
    intro l1 l2 σ r  h
    have h : (none : Option (Int32 × jM)) = some r := h
    cases h
  | succ n ih =>
    intro l1 l2 σ r  h
    have h : s_X13_isName_25  (f_X13_isName_25  n) l1 l2 σ = some r := h
    unfold s_X13_isName_25 at h
    refine J_iload_n 2 dX13_isName_25 rfl ?_
    refine J_aload_n 0 dX13_isName_26 rfl ?_
    refine M_getI gf_X13_180_12 dX13_isName_27 k_324 n_324 ?_
    refine J_icmp_ge (tgt := 53) dX13_isName_30 (by decide) (fun c10 => ?_) (fun c10 => ?_)
    · have h := (if_pos c10).symm.trans h
      refine J_pick [1] rfl ?_
      exact t_X13_isName_53  _ _ _  h
    · have h := (if_neg c10).symm.trans h
      refine J_iload_n 1 dX13_isName_33 rfl ?_
      refine J_if_eq (tgt := 53) dX13_isName_34 (by decide) (fun c11 => ?_) (fun c11 => ?_)
      · have h := (if_pos c11).symm.trans h
        refine J_pick [1] rfl ?_
        exact t_X13_isName_53  _ _ _  h
      · have h := (if_neg c11).symm.trans h
        refine J_aload_n 0 dX13_isName_37 rfl ?_
        refine M_getR gf_X13_47_12 dX13_isName_38 (g_324_15 _) k_324 n_324 ?_
        refine J_iload_n 2 dX13_isName_41 rfl ?_
        obtain ⟨g12, h⟩ := gd_inv h
        refine M_bald dX13_isName_42 a_336 n_336 g12 ?_
        obtain ⟨r13, σ14, h15, h⟩ := bd_inv h
        refine M_callSI (d' := 1) (As := [.int (rI σ 336 (Int32.toNatClampNeg l2))]) (st := []) cs_X13_195 dX13_isName_43 rfl (Nat.le_of_ble_eq_true rfl) (Nat.le_of_ble_eq_true rfl) (by decide) rfl rfl (t_X13_isSmall  h15) ?_
        refine J_istore_n (i := 1) (ls' := [(1, .int r13), (0, .ref 324), (2, .int l2)]) dX13_isName_46 rfl (by decide) rfl ?_
        refine J_iinc (v := (l2 + 1)) (ls' := [(2, .int (l2 + 1)), (1, .int r13), (0, .ref 324)]) 2 dX13_isName_47 rfl rfl (by decide) rfl ?_
        refine J_goto (tgt := 25) dX13_isName_50 (by decide) ?_
        refine J_pick [2, 1, 0] rfl ?_
        exact ih _ _ _ _  h
set_option maxRecDepth 20000 in
set_option maxHeartbeats 4000000 in
theorem t_X13_isName_22  (s0 : Int32) (σ : jM) (r : Int32 × jM)  (h : f_X13_isName_22  s0 σ = some r) : J mi_X13_isName 2 0 0 (jqI r) 22 [(0, .ref 324)] [.int s0] (ms σ) := by
  unfold f_X13_isName_22 at h
  refine J_istore_n (i := 1) (ls' := [(1, .int s0), (0, .ref 324)]) dX13_isName_22 rfl (by decide) rfl ?_
  refine J_iconst (v := 0) dX13_isName_23 (by decide) ?_
  refine J_istore_n (i := 2) (ls' := [(2, .int 0), (1, .int s0), (0, .ref 324)]) dX13_isName_24 rfl (by decide) rfl ?_
  refine J_pick [2, 1, 0] rfl ?_
  exact t_X13_isName_25  _ _ _ _ _  h
set_option maxRecDepth 20000 in
set_option maxHeartbeats 4000000 in
theorem t_X13_isName_21   (σ : jM) (r : Int32 × jM)  (h : f_X13_isName_21   σ = some r) : J mi_X13_isName 2 0 0 (jqI r) 21 [(0, .ref 324)] [] (ms σ) := by
  unfold f_X13_isName_21 at h
  refine J_iconst (v := 0) dX13_isName_21 (by decide) ?_
  exact t_X13_isName_22  _ _ _  h
set_option maxRecDepth 20000 in
set_option maxHeartbeats 4000000 in
theorem t_X13_isName  {σ : jM} {r : Int32 × jM}  (h : f_X13_isName  σ = some r) : J mi_X13_isName 2 0 0 (jqI r) 0 [(0, .ref 324)] [] (ms σ) := by
  unfold f_X13_isName at h
  refine J_aload_n 0 dX13_isName_0 rfl ?_
  refine M_getI gf_X13_180_12 dX13_isName_1 k_324 n_324 ?_
  refine J_iconst (v := 1) dX13_isName_4 (by decide) ?_
  refine J_icmp_lt (tgt := 21) dX13_isName_5 (by decide) (fun c16 => ?_) (fun c16 => ?_)
  · have h := (if_pos c16).symm.trans h
    exact t_X13_isName_21   _ _  h
  · have h := (if_neg c16).symm.trans h
    refine J_aload_n 0 dX13_isName_8 rfl ?_
    refine M_getI gf_X13_180_12 dX13_isName_9 k_324 n_324 ?_
    refine J_bipush (v := 8) dX13_isName_12 (by decide) ?_
    refine J_icmp_gt (tgt := 21) dX13_isName_14 (by decide) (fun c17 => ?_) (fun c17 => ?_)
    · have h := (if_pos c17).symm.trans h
      exact t_X13_isName_21   _ _  h
    · have h := (if_neg c17).symm.trans h
      refine J_iconst (v := 1) dX13_isName_17 (by decide) ?_
      refine J_goto (tgt := 22) dX13_isName_18 (by decide) ?_
      exact t_X13_isName_22  _ _ _  h
