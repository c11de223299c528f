theorem dX13_spells_0 : decode cX13_spells 0 = .ok (.aload_n 0, 1) := by decide +kernel
theorem dX13_spells_1 : decode cX13_spells 1 = .ok (.iload_n 2, 1) := by decide +kernel
theorem dX13_spells_2 : decode cX13_spells 2 = .ok (.invokevirtual 326, 3) := by decide +kernel
theorem dX13_spells_5 : decode cX13_spells 5 = .ok (.istore_n 3, 1) := by decide +kernel
theorem dX13_spells_6 : decode cX13_spells 6 = .ok (.aload_n 0, 1) := by decide +kernel
theorem dX13_spells_7 : decode cX13_spells 7 = .ok (.getfield 139, 3) := by decide +kernel
theorem dX13_spells_10 : decode cX13_spells 10 = .ok (.iload_n 1, 1) := by decide +kernel
theorem dX13_spells_11 : decode cX13_spells 11 = .ok (.iconst 0, 1) := by decide +kernel
theorem dX13_spells_12 : decode cX13_spells 12 = .ok (.iastore, 1) := by decide +kernel
theorem dX13_spells_13 : decode cX13_spells 13 = .ok (.iconst 0, 1) := by decide +kernel
theorem dX13_spells_14 : decode cX13_spells 14 = .ok (.istore 4, 2) := by decide +kernel
theorem dX13_spells_16 : decode cX13_spells 16 = .ok (.iload 4, 2) := by decide +kernel
theorem dX13_spells_18 : decode cX13_spells 18 = .ok (.aload_n 0, 1) := by decide +kernel
theorem dX13_spells_19 : decode cX13_spells 19 = .ok (.getfield 121, 3) := by decide +kernel
theorem dX13_spells_22 : decode cX13_spells 22 = .ok (.iload_n 1, 1) := by decide +kernel
theorem dX13_spells_23 : decode cX13_spells 23 = .ok (.iaload, 1) := by decide +kernel
theorem dX13_spells_24 : decode cX13_spells 24 = .ok (.if_icmp .ge 33, 3) := by decide +kernel
theorem dX13_spells_27 : decode cX13_spells 27 = .ok (.aload_n 0, 1) := by decide +kernel
theorem dX13_spells_28 : decode cX13_spells 28 = .ok (.getfield 142, 3) := by decide +kernel
theorem dX13_spells_31 : decode cX13_spells 31 = .ok (.iload 4, 2) := by decide +kernel
theorem dX13_spells_33 : decode cX13_spells 33 = .ok (.aload_n 0, 1) := by decide +kernel
theorem dX13_spells_34 : decode cX13_spells 34 = .ok (.iload_n 3, 1) := by decide +kernel
theorem dX13_spells_35 : decode cX13_spells 35 = .ok (.aload_n 0, 1) := by decide +kernel
theorem dX13_spells_36 : decode cX13_spells 36 = .ok (.getfield 124, 3) := by decide +kernel
theorem dX13_spells_39 : decode cX13_spells 39 = .ok (.bipush 8, 2) := by decide +kernel
theorem dX13_spells_41 : decode cX13_spells 41 = .ok (.iload_n 1, 1) := by decide +kernel
theorem dX13_spells_42 : decode cX13_spells 42 = .ok (.imul, 1) := by decide +kernel
theorem dX13_spells_43 : decode cX13_spells 43 = .ok (.iload 4, 2) := by decide +kernel
theorem dX13_spells_45 : decode cX13_spells 45 = .ok (.iadd, 1) := by decide +kernel
theorem dX13_spells_46 : decode cX13_spells 46 = .ok (.iaload, 1) := by decide +kernel
theorem dX13_spells_47 : decode cX13_spells 47 = .ok (.invokevirtual 389, 3) := by decide +kernel
theorem dX13_spells_50 : decode cX13_spells 50 = .ok (.iastore, 1) := by decide +kernel
theorem dX13_spells_51 : decode cX13_spells 51 = .ok (.iinc 4 1, 3) := by decide +kernel
theorem dX13_spells_54 : decode cX13_spells 54 = .ok (.goto (-38), 3) := by decide +kernel
theorem dX13_spells_57 : decode cX13_spells 57 = .ok (.iconst 0, 1) := by decide +kernel
theorem dX13_spells_58 : decode cX13_spells 58 = .ok (.istore 4, 2) := by decide +kernel
theorem dX13_spells_60 : decode cX13_spells 60 = .ok (.iload 4, 2) := by decide +kernel
theorem dX13_spells_62 : decode cX13_spells 62 = .ok (.aload_n 0, 1) := by decide +kernel
theorem dX13_spells_63 : decode cX13_spells 63 = .ok (.getfield 121, 3) := by decide +kernel
theorem dX13_spells_66 : decode cX13_spells 66 = .ok (.iload_n 1, 1) := by decide +kernel
theorem dX13_spells_67 : decode cX13_spells 67 = .ok (.iaload, 1) := by decide +kernel
theorem dX13_spells_68 : decode cX13_spells 68 = .ok (.if_icmp .ge 149, 3) := by decide +kernel
theorem dX13_spells_71 : decode cX13_spells 71 = .ok (.aload_n 0, 1) := by decide +kernel
theorem dX13_spells_72 : decode cX13_spells 72 = .ok (.getfield 142, 3) := by decide +kernel
theorem dX13_spells_75 : decode cX13_spells 75 = .ok (.iload 4, 2) := by decide +kernel
theorem dX13_spells_77 : decode cX13_spells 77 = .ok (.iaload, 1) := by decide +kernel
theorem dX13_spells_78 : decode cX13_spells 78 = .ok (.invokestatic 278, 3) := by decide +kernel
theorem dX13_spells_81 : decode cX13_spells 81 = .ok (.istore 5, 2) := by decide +kernel
theorem dX13_spells_83 : decode cX13_spells 83 = .ok (.iload 5, 2) := by decide +kernel
theorem dX13_spells_85 : decode cX13_spells 85 = .ok (.iconst (-1), 1) := by decide +kernel
theorem dX13_spells_86 : decode cX13_spells 86 = .ok (.if_icmp .eq 35, 3) := by decide +kernel
theorem dX13_spells_89 : decode cX13_spells 89 = .ok (.iload 4, 2) := by decide +kernel
theorem dX13_spells_91 : decode cX13_spells 91 = .ok (.ifCond .eq 19, 3) := by decide +kernel
theorem dX13_spells_94 : decode cX13_spells 94 = .ok (.aload_n 0, 1) := by decide +kernel
theorem dX13_spells_95 : decode cX13_spells 95 = .ok (.getfield 142, 3) := by decide +kernel
theorem dX13_spells_98 : decode cX13_spells 98 = .ok (.iload 4, 2) := by decide +kernel
theorem dX13_spells_100 : decode cX13_spells 100 = .ok (.iconst 1, 1) := by decide +kernel
theorem dX13_spells_101 : decode cX13_spells 101 = .ok (.isub, 1) := by decide +kernel
theorem dX13_spells_102 : decode cX13_spells 102 = .ok (.iaload, 1) := by decide +kernel
theorem dX13_spells_103 : decode cX13_spells 103 = .ok (.invokestatic 278, 3) := by decide +kernel
theorem dX13_spells_106 : decode cX13_spells 106 = .ok (.iconst (-1), 1) := by decide +kernel
theorem dX13_spells_107 : decode cX13_spells 107 = .ok (.if_icmp .eq 104, 3) := by decide +kernel
theorem dX13_spells_110 : decode cX13_spells 110 = .ok (.aload_n 0, 1) := by decide +kernel
theorem dX13_spells_111 : decode cX13_spells 111 = .ok (.iload_n 1, 1) := by decide +kernel
theorem dX13_spells_112 : decode cX13_spells 112 = .ok (.iconst 0, 1) := by decide +kernel
theorem dX13_spells_113 : decode cX13_spells 113 = .ok (.iload 5, 2) := by decide +kernel
theorem dX13_spells_115 : decode cX13_spells 115 = .ok (.invokevirtual 392, 3) := by decide +kernel
theorem dX13_spells_118 : decode cX13_spells 118 = .ok (.goto 93, 3) := by decide +kernel
theorem dX13_spells_121 : decode cX13_spells 121 = .ok (.iload 4, 2) := by decide +kernel
theorem dX13_spells_123 : decode cX13_spells 123 = .ok (.iconst 1, 1) := by decide +kernel
theorem dX13_spells_124 : decode cX13_spells 124 = .ok (.iadd, 1) := by decide +kernel
theorem dX13_spells_125 : decode cX13_spells 125 = .ok (.aload_n 0, 1) := by decide +kernel
theorem dX13_spells_126 : decode cX13_spells 126 = .ok (.getfield 121, 3) := by decide +kernel
theorem dX13_spells_129 : decode cX13_spells 129 = .ok (.iload_n 1, 1) := by decide +kernel
theorem dX13_spells_130 : decode cX13_spells 130 = .ok (.iaload, 1) := by decide +kernel
theorem dX13_spells_131 : decode cX13_spells 131 = .ok (.if_icmp .eq 19, 3) := by decide +kernel
theorem dX13_spells_134 : decode cX13_spells 134 = .ok (.aload_n 0, 1) := by decide +kernel
theorem dX13_spells_135 : decode cX13_spells 135 = .ok (.getfield 142, 3) := by decide +kernel
theorem dX13_spells_138 : decode cX13_spells 138 = .ok (.iload 4, 2) := by decide +kernel
theorem dX13_spells_140 : decode cX13_spells 140 = .ok (.iconst 1, 1) := by decide +kernel
theorem dX13_spells_141 : decode cX13_spells 141 = .ok (.iadd, 1) := by decide +kernel
theorem dX13_spells_142 : decode cX13_spells 142 = .ok (.iaload, 1) := by decide +kernel
theorem dX13_spells_143 : decode cX13_spells 143 = .ok (.invokestatic 278, 3) := by decide +kernel
theorem dX13_spells_146 : decode cX13_spells 146 = .ok (.iconst (-1), 1) := by decide +kernel
theorem dX13_spells_147 : decode cX13_spells 147 = .ok (.if_icmp .ne 7, 3) := by decide +kernel
theorem dX13_spells_150 : decode cX13_spells 150 = .ok (.iconst 1, 1) := by decide +kernel
theorem dX13_spells_151 : decode cX13_spells 151 = .ok (.goto 4, 3) := by decide +kernel
theorem dX13_spells_154 : decode cX13_spells 154 = .ok (.iconst 0, 1) := by decide +kernel
theorem dX13_spells_155 : decode cX13_spells 155 = .ok (.istore 6, 2) := by decide +kernel
theorem dX13_spells_157 : decode cX13_spells 157 = .ok (.aload_n 0, 1) := by decide +kernel
theorem dX13_spells_158 : decode cX13_spells 158 = .ok (.iload 4, 2) := by decide +kernel
theorem dX13_spells_160 : decode cX13_spells 160 = .ok (.aload_n 0, 1) := by decide +kernel
theorem dX13_spells_161 : decode cX13_spells 161 = .ok (.getfield 121, 3) := by decide +kernel
theorem dX13_spells_164 : decode cX13_spells 164 = .ok (.iload_n 1, 1) := by decide +kernel
theorem dX13_spells_165 : decode cX13_spells 165 = .ok (.iaload, 1) := by decide +kernel
theorem dX13_spells_166 : decode cX13_spells 166 = .ok (.invokevirtual 395, 3) := by decide +kernel
theorem dX13_spells_169 : decode cX13_spells 169 = .ok (.istore 7, 2) := by decide +kernel
theorem dX13_spells_171 : decode cX13_spells 171 = .ok (.iload 7, 2) := by decide +kernel
theorem dX13_spells_173 : decode cX13_spells 173 = .ok (.iconst (-1), 1) := by decide +kernel
theorem dX13_spells_174 : decode cX13_spells 174 = .ok (.if_icmp .eq 37, 3) := by decide +kernel
theorem dX13_spells_177 : decode cX13_spells 177 = .ok (.iload 6, 2) := by decide +kernel
theorem dX13_spells_179 : decode cX13_spells 179 = .ok (.ifCond .eq 18, 3) := by decide +kernel
theorem dX13_spells_182 : decode cX13_spells 182 = .ok (.aload_n 0, 1) := by decide +kernel
theorem dX13_spells_183 : decode cX13_spells 183 = .ok (.iload_n 3, 1) := by decide +kernel
theorem dX13_spells_184 : decode cX13_spells 184 = .ok (.aload_n 0, 1) := by decide +kernel
theorem dX13_spells_185 : decode cX13_spells 185 = .ok (.getfield 142, 3) := by decide +kernel
theorem dX13_spells_188 : decode cX13_spells 188 = .ok (.iload 4, 2) := by decide +kernel
theorem dX13_spells_190 : decode cX13_spells 190 = .ok (.iaload, 1) := by decide +kernel
theorem dX13_spells_191 : decode cX13_spells 191 = .ok (.invokevirtual 398, 3) := by decide +kernel
theorem dX13_spells_194 : decode cX13_spells 194 = .ok (.ifCond .ne 17, 3) := by decide +kernel
theorem dX13_spells_197 : decode cX13_spells 197 = .ok (.aload_n 0, 1) := by decide +kernel
theorem dX13_spells_198 : decode cX13_spells 198 = .ok (.iload_n 1, 1) := by decide +kernel
theorem dX13_spells_199 : decode cX13_spells 199 = .ok (.aload_n 0, 1) := by decide +kernel
theorem dX13_spells_200 : decode cX13_spells 200 = .ok (.getfield 142, 3) := by decide +kernel
theorem dX13_spells_203 : decode cX13_spells 203 = .ok (.iload 4, 2) := by decide +kernel
theorem dX13_spells_205 : decode cX13_spells 205 = .ok (.iaload, 1) := by decide +kernel
theorem dX13_spells_206 : decode cX13_spells 206 = .ok (.iload 7, 2) := by decide +kernel
theorem dX13_spells_208 : decode cX13_spells 208 = .ok (.invokevirtual 392, 3) := by decide +kernel
theorem dX13_spells_211 : decode cX13_spells 211 = .ok (.iinc 4 1, 3) := by decide +kernel
theorem dX13_spells_214 : decode cX13_spells 214 = .ok (.goto (-154), 3) := by decide +kernel
theorem dX13_spells_217 : decode cX13_spells 217 = .ok (.return_, 1) := by decide +kernel
noncomputable def f_X13_spells_211 (rec60 : Int32 → Int32 → Int32 → jM → Option (Unit × jM)) (l1 : Int32) (l3 : Int32) (l4 : Int32) (σ : jM) : Option (Unit × jM) :=
  rec60 l1 l3 (l4 + 1) σ
noncomputable def f_X13_spells_197 (rec60 : Int32 → Int32 → Int32 → jM → Option (Unit × jM)) (l1 : Int32) (l3 : Int32) (l4 : Int32) (l7 : Int32) (σ : jM) : Option (Unit × jM) :=
  gd (inb l4 8) (bd (f_X13_addCell l1 (rI σ 366 (Int32.toNatClampNeg l4)) l7 σ) (fun _ σ15 => f_X13_spells_211 rec60 l1 l3 l4 σ15))
noncomputable def f_X13_spells_155 (rec60 : Int32 → Int32 → Int32 → jM → Option (Unit × jM)) (l1 : Int32) (l3 : Int32) (l4 : Int32) (s0 : Int32) (σ : jM) : Option (Unit × jM) :=
  gd (inb l1 7) (bd (f_X13_vowelFor l4 (rI σ 359 (Int32.toNatClampNeg l1)) σ) (fun r22 σ23 => (if r22 = (-1) then f_X13_spells_211 rec60 l1 l3 l4 σ23 else (if s0 = 0 then f_X13_spells_197 rec60 l1 l3 l4 r22 σ23 else gd (inb l4 8) (bd (f_X13_drops l3 (rI σ23 366 (Int32.toNatClampNeg l4)) σ23) (fun r28 σ29 => (if r28 = 0 then f_X13_spells_197 rec60 l1 l3 l4 r22 σ29 else f_X13_spells_211 rec60 l1 l3 l4 σ29)))))))
noncomputable def f_X13_spells_150 (rec60 : Int32 → Int32 → Int32 → jM → Option (Unit × jM)) (l1 : Int32) (l3 : Int32) (l4 : Int32) (σ : jM) : Option (Unit × jM) :=
  f_X13_spells_155 rec60 l1 l3 l4 1 σ
noncomputable def f_X13_spells_110 (rec60 : Int32 → Int32 → Int32 → jM → Option (Unit × jM)) (l1 : Int32) (l3 : Int32) (l4 : Int32) (l5 : Int32) (σ : jM) : Option (Unit × jM) :=
  bd (f_X13_addCell l1 0 l5 σ) (fun _ σ44 => f_X13_spells_211 rec60 l1 l3 l4 σ44)
noncomputable def s_X13_spells_60  (rec60 : Int32 → Int32 → Int32 → jM → Option (Unit × jM)) (l1 : Int32) (l3 : Int32) (l4 : Int32) (σ : jM) : Option (Unit × jM) :=
  gd (inb l1 7) ((if (rI σ 359 (Int32.toNatClampNeg l1)) ≤ l4 then some ((), σ) else gd (inb l4 8) (bd (f_X13_vowel (rI σ 366 (Int32.toNatClampNeg l4)) σ) (fun r52 σ53 => (if r52 = (-1) then gd (inb l1 7) ((if (l4 + 1) = (rI σ53 359 (Int32.toNatClampNeg l1)) then f_X13_spells_150 rec60 l1 l3 l4 σ53 else gd (inb (l4 + 1) 8) (bd (f_X13_vowel (rI σ53 366 (Int32.toNatClampNeg (l4 + 1))) σ53) (fun r59 σ60 => (if r59 = (-1) then f_X13_spells_150 rec60 l1 l3 l4 σ60 else f_X13_spells_155 rec60 l1 l3 l4 0 σ60))))) else (if l4 = 0 then f_X13_spells_110 rec60 l1 l3 l4 r52 σ53 else gd (inb (l4 - 1) 8) (bd (f_X13_vowel (rI σ53 366 (Int32.toNatClampNeg (l4 - 1))) σ53) (fun r65 σ66 => (if r65 = (-1) then f_X13_spells_211 rec60 l1 l3 l4 σ66 else f_X13_spells_110 rec60 l1 l3 l4 r52 σ66)))))))))
noncomputable def f_X13_spells_60  (n : Nat) : Int32 → Int32 → Int32 → jM → Option (Unit × jM) := Nat.rec (motive := fun _ => Int32 → Int32 → Int32 → jM → Option (Unit × jM)) (fun _ _ _ _ => none) (fun _ q => s_X13_spells_60  q) n
noncomputable def s_X13_spells_16  (rec16 : Int32 → Int32 → Int32 → jM → Option (Unit × jM)) (l1 : Int32) (l3 : Int32) (l4 : Int32) (σ : jM) : Option (Unit × jM) :=
  gd (inb l1 7) ((if (rI σ 359 (Int32.toNatClampNeg l1)) ≤ l4 then f_X13_spells_60  Fu l1 l3 0 σ else gd (inb ((8 * l1) + l4) 56) (bd (f_X13_writes l3 (rI σ 360 (Int32.toNatClampNeg ((8 * l1) + l4))) σ) (fun r92 σ93 => gd (inb l4 8) (rec16 l1 l3 (l4 + 1) (wI σ93 366 (Int32.toNatClampNeg l4) r92))))))
noncomputable def f_X13_spells_16  (n : Nat) : Int32 → Int32 → Int32 → jM → Option (Unit × jM) := Nat.rec (motive := fun _ => Int32 → Int32 → Int32 → jM → Option (Unit × jM)) (fun _ _ _ _ => none) (fun _ q => s_X13_spells_16  q) n
noncomputable def f_X13_spells (a1 : Int32) (a2 : Int32) (σ : jM) : Option (Unit × jM) :=
  bd (f_X13_rulesBy a2 σ) (fun r103 σ104 => gd (inb a1 7) (f_X13_spells_16  Fu a1 r103 0 (wI σ104 365 (Int32.toNatClampNeg a1) 0)))
set_option maxRecDepth 20000 in
set_option maxHeartbeats 4000000 in
theorem t_X13_spells_211 {rec60 : Int32 → Int32 → Int32 → jM → Option (Unit × jM)} (hrec60 : ∀ (l1 : Int32) (l3 : Int32) (l4 : Int32) (σ : jM) (r : Unit × jM), rec60 l1 l3 l4 σ = some r → J mi_X13_spells 3 0 0 (jqV r) 60 [(0, .ref 324), (1, .int l1), (3, .int l3), (4, .int l4)] [] (ms σ)) (l1 : Int32) (l3 : Int32) (l4 : Int32) (σ : jM) (r : Unit × jM)  (h : f_X13_spells_211 rec60 l1 l3 l4 σ = some r) : J mi_X13_spells 3 0 0 (jqV r) 211 [(0, .ref 324), (1, .int l1), (3, .int l3), (4, .int l4)] [] (ms σ) := by
  unfold f_X13_spells_211 at h
  refine J_iinc (v := (l4 + 1)) (ls' := [(4, .int (l4 + 1)), (0, .ref 324), (1, .int l1), (3, .int l3)]) 3 dX13_spells_211 rfl rfl (by decide) rfl ?_
  refine J_goto (tgt := 60) dX13_spells_214 (by decide) ?_
  refine J_pick [1, 2, 3, 0] rfl ?_
  exact hrec60 _ _ _ _ _  h
set_option maxRecDepth 20000 in
set_option maxHeartbeats 4000000 in
theorem t_X13_spells_197 {rec60 : Int32 → Int32 → Int32 → jM → Option (Unit × jM)} (hrec60 : ∀ (l1 : Int32) (l3 : Int32) (l4 : Int32) (σ : jM) (r : Unit × jM), rec60 l1 l3 l4 σ = some r → J mi_X13_spells 3 0 0 (jqV r) 60 [(0, .ref 324), (1, .int l1), (3, .int l3), (4, .int l4)] [] (ms σ)) (l1 : Int32) (l3 : Int32) (l4 : Int32) (l7 : Int32) (σ : jM) (r : Unit × jM)  (h : f_X13_spells_197 rec60 l1 l3 l4 l7 σ = some r) : J mi_X13_spells 3 0 0 (jqV r) 197 [(0, .ref 324), (1, .int l1), (3, .int l3), (4, .int l4), (7, .int l7)] [] (ms σ) := by
  unfold f_X13_spells_197 at h
  refine J_aload_n 0 dX13_spells_197 rfl ?_
  refine J_iload_n 1 dX13_spells_198 rfl ?_
  refine J_aload_n 0 dX13_spells_199 rfl ?_
  refine M_getR gf_X13_142_12 dX13_spells_200 (g_324_63 _) k_324 n_324 ?_
  refine J_iload 3 dX13_spells_203 rfl ?_
  obtain ⟨g17, h⟩ := gd_inv h
  refine M_iald dX13_spells_205 a_366 n_366 g17 ?_
  refine J_iload 4 dX13_spells_206 rfl ?_
  obtain ⟨_, σ19, h20, h⟩ := bd_inv h
  refine M_callVV (d' := 1) (k := 324) (As := [.int l1, .int (rI σ 366 (Int32.toNatClampNeg l4)), .int l7]) (st := []) cv_X13_392 dX13_spells_208 rfl (by decide) rfl (Nat.le_of_ble_eq_true rfl) (Nat.le_of_ble_eq_true rfl) (by decide) n_324 k_324 rfl rfl (t_X13_addCell  h20) ?_
  refine J_pick [0, 1, 2, 3] rfl ?_
  exact t_X13_spells_211 hrec60 _ _ _ _ _  h
set_option maxRecDepth 20000 in
set_option maxHeartbeats 4000000 in
theorem t_X13_spells_155 {rec60 : Int32 → Int32 → Int32 → jM → Option (Unit × jM)} (hrec60 : ∀ (l1 : Int32) (l3 : Int32) (l4 : Int32) (σ : jM) (r : Unit × jM), rec60 l1 l3 l4 σ = some r → J mi_X13_spells 3 0 0 (jqV r) 60 [(0, .ref 324), (1, .int l1), (3, .int l3), (4, .int l4)] [] (ms σ)) (l1 : Int32) (l3 : Int32) (l4 : Int32) (s0 : Int32) (σ : jM) (r : Unit × jM)  (h : f_X13_spells_155 rec60 l1 l3 l4 s0 σ = some r) : J mi_X13_spells 3 0 0 (jqV r) 155 [(0, .ref 324), (1, .int l1), (3, .int l3), (4, .int l4)] [.int s0] (ms σ) := by
  unfold f_X13_spells_155 at h
  refine J_istore (i := 6) (ls' := [(6, .int s0), (0, .ref 324), (1, .int l1), (3, .int l3), (4, .int l4)]) dX13_spells_155 (by decide) rfl ?_
  refine J_aload_n 1 dX13_spells_157 rfl ?_
  refine J_iload 4 dX13_spells_158 rfl ?_
  refine J_aload_n 1 dX13_spells_160 rfl ?_
  refine M_getR gf_X13_121_12 dX13_spells_161 (g_324_56 _) k_324 n_324 ?_
  refine J_iload_n 2 dX13_spells_164 rfl ?_
  obtain ⟨g32, h⟩ := gd_inv h
  refine M_iald dX13_spells_165 a_359 n_359 g32 ?_
  obtain ⟨r33, σ34, h35, h⟩ := bd_inv h
  refine M_callVI (d' := 2) (k := 324) (As := [.int l4, .int (rI σ 359 (Int32.toNatClampNeg l1))]) (st := []) cv_X13_395 dX13_spells_166 rfl (by decide) rfl (Nat.le_of_ble_eq_true rfl) (Nat.le_of_ble_eq_true rfl) (by decide) n_324 k_324 rfl rfl (t_X13_vowelFor  h35) ?_
  refine J_istore (i := 7) (ls' := [(7, .int r33), (6, .int s0), (0, .ref 324), (1, .int l1), (3, .int l3), (4, .int l4)]) dX13_spells_169 (by decide) rfl ?_
  refine J_iload 0 dX13_spells_171 rfl ?_
  refine J_iconst (v := (-1)) dX13_spells_173 (by decide) ?_
  refine J_icmp_eq (tgt := 211) dX13_spells_174 (by decide) (fun c36 => ?_) (fun c36 => ?_)
  · have h := (if_pos c36).symm.trans h
    refine J_pick [2, 3, 4, 5] rfl ?_
    exact t_X13_spells_211 hrec60 _ _ _ _ _  h
  · have h := (if_neg c36).symm.trans h
    refine J_iload 1 dX13_spells_177 rfl ?_
    refine J_if_eq (tgt := 197) dX13_spells_179 (by decide) (fun c37 => ?_) (fun c37 => ?_)
    · have h := (if_pos c37).symm.trans h
      refine J_pick [2, 3, 4, 5, 0] rfl ?_
      exact t_X13_spells_197 hrec60 _ _ _ _ _ _  h
    · have h := (if_neg c37).symm.trans h
      refine J_aload_n 2 dX13_spells_182 rfl ?_
      refine J_iload_n 4 dX13_spells_183 rfl ?_
      refine J_aload_n 2 dX13_spells_184 rfl ?_
      refine M_getR gf_X13_142_12 dX13_spells_185 (g_324_63 _) k_324 n_324 ?_
      refine J_iload 5 dX13_spells_188 rfl ?_
      obtain ⟨g38, h⟩ := gd_inv h
      refine M_iald dX13_spells_190 a_366 n_366 g38 ?_
      obtain ⟨r39, σ40, h41, h⟩ := bd_inv h
      refine M_callVI (d' := 1) (k := 324) (As := [.int l3, .int (rI σ34 366 (Int32.toNatClampNeg l4))]) (st := []) cv_X13_398 dX13_spells_191 rfl (by decide) rfl (Nat.le_of_ble_eq_true rfl) (Nat.le_of_ble_eq_true rfl) (by decide) n_324 k_324 rfl rfl (t_X13_drops  h41) ?_
      refine J_if_ne (tgt := 211) dX13_spells_194 (by decide) (fun c42 => ?_) (fun c42 => ?_)
      · have h := (if_neg c42).symm.trans h
        refine J_pick [2, 3, 4, 5] rfl ?_
        exact t_X13_spells_211 hrec60 _ _ _ _ _  h
      · have h := (if_pos c42).symm.trans h
        refine J_pick [2, 3, 4, 5, 0] rfl ?_
        exact t_X13_spells_197 hrec60 _ _ _ _ _ _  h
set_option maxRecDepth 20000 in
set_option maxHeartbeats 4000000 in
theorem t_X13_spells_150 {rec60 : Int32 → Int32 → Int32 → jM → Option (Unit × jM)} (hrec60 : ∀ (l1 : Int32) (l3 : Int32) (l4 : Int32) (σ : jM) (r : Unit × jM), rec60 l1 l3 l4 σ = some r → J mi_X13_spells 3 0 0 (jqV r) 60 [(0, .ref 324), (1, .int l1), (3, .int l3), (4, .int l4)] [] (ms σ)) (l1 : Int32) (l3 : Int32) (l4 : Int32) (σ : jM) (r : Unit × jM)  (h : f_X13_spells_150 rec60 l1 l3 l4 σ = some r) : J mi_X13_spells 3 0 0 (jqV r) 150 [(0, .ref 324), (1, .int l1), (3, .int l3), (4, .int l4)] [] (ms σ) := by
  unfold f_X13_spells_150 at h
  refine J_iconst (v := 1) dX13_spells_150 (by decide) ?_
  refine J_goto (tgt := 155) dX13_spells_151 (by decide) ?_
  exact t_X13_spells_155 hrec60 _ _ _ _ _ _  h
set_option maxRecDepth 20000 in
set_option maxHeartbeats 4000000 in
theorem t_X13_spells_110 {rec60 : Int32 → Int32 → Int32 → jM → Option (Unit × jM)} (hrec60 : ∀ (l1 : Int32) (l3 : Int32) (l4 : Int32) (σ : jM) (r : Unit × jM), rec60 l1 l3 l4 σ = some r → J mi_X13_spells 3 0 0 (jqV r) 60 [(0, .ref 324), (1, .int l1), (3, .int l3), (4, .int l4)] [] (ms σ)) (l1 : Int32) (l3 : Int32) (l4 : Int32) (l5 : Int32) (σ : jM) (r : Unit × jM)  (h : f_X13_spells_110 rec60 l1 l3 l4 l5 σ = some r) : J mi_X13_spells 3 0 0 (jqV r) 110 [(0, .ref 324), (1, .int l1), (3, .int l3), (4, .int l4), (5, .int l5)] [] (ms σ) := by
  unfold f_X13_spells_110 at h
  refine J_aload_n 0 dX13_spells_110 rfl ?_
  refine J_iload_n 1 dX13_spells_111 rfl ?_
  refine J_iconst (v := 0) dX13_spells_112 (by decide) ?_
  refine J_iload 4 dX13_spells_113 rfl ?_
  obtain ⟨_, σ47, h48, h⟩ := bd_inv h
  refine M_callVV (d' := 1) (k := 324) (As := [.int l1, .int 0, .int l5]) (st := []) cv_X13_392 dX13_spells_115 rfl (by decide) rfl (Nat.le_of_ble_eq_true rfl) (Nat.le_of_ble_eq_true rfl) (by decide) n_324 k_324 rfl rfl (t_X13_addCell  h48) ?_
  refine J_goto (tgt := 211) dX13_spells_118 (by decide) ?_
  refine J_pick [0, 1, 2, 3] rfl ?_
  exact t_X13_spells_211 hrec60 _ _ _ _ _  h
set_option maxRecDepth 20000 in
set_option maxHeartbeats 4000000 in
theorem t_X13_spells_60  : ∀ (n : Nat) (l1 : Int32) (l3 : Int32) (l4 : Int32) (σ : jM) (r : Unit × jM), f_X13_spells_60  n l1 l3 l4 σ = some r → J mi_X13_spells 3 0 0 (jqV r) 60 [(0, .ref 324), (1, .int l1), (3, .int l3), (4, .int l4)] [] (ms σ) := by
  intro n
  induction n with
  | zero =>
    intro l1 l3 l4 σ r  h
    have h : (none : Option (Unit × jM)) = some r := h
    cases h
  | succ n ih =>
    intro l1 l3 l4 σ r  h
    have h : s_X13_spells_60  (f_X13_spells_60  n) l1 l3 l4 σ = some r := h
    unfold s_X13_spells_60 at h
    refine J_iload 3 dX13_spells_60 rfl ?_
    refine J_aload_n 0 dX13_spells_62 rfl ?_
    refine M_getR gf_X13_121_12 dX13_spells_63 (g_324_56 _) k_324 n_324 ?_
    refine J_iload_n 1 dX13_spells_66 rfl ?_
    obtain ⟨g69, h⟩ := gd_inv h
    refine M_iald dX13_spells_67 a_359 n_359 g69 ?_
    refine J_icmp_ge (tgt := 217) dX13_spells_68 (by decide) (fun c70 => ?_) (fun c70 => ?_)
    · have h := (if_pos c70).symm.trans h
      exact J_ret (v := none) rfl ⟨dX13_spells_217, rfl⟩ (jqV_mk h)
    · have h := (if_neg c70).symm.trans h
      refine J_aload_n 0 dX13_spells_71 rfl ?_
      refine M_getR gf_X13_142_12 dX13_spells_72 (g_324_63 _) k_324 n_324 ?_
      refine J_iload 3 dX13_spells_75 rfl ?_
      obtain ⟨g71, h⟩ := gd_inv h
      refine M_iald dX13_spells_77 a_366 n_366 g71 ?_
      obtain ⟨r72, σ73, h74, h⟩ := bd_inv h
      refine M_callSI (d' := 1) (As := [.int (rI σ 366 (Int32.toNatClampNeg l4))]) (st := []) cs_X13_278 dX13_spells_78 rfl (Nat.le_of_ble_eq_true rfl) (Nat.le_of_ble_eq_true rfl) (by decide) rfl rfl (t_X13_vowel  h74) ?_
      refine J_istore (i := 5) (ls' := [(5, .int r72), (0, .ref 324), (1, .int l1), (3, .int l3), (4, .int l4)]) dX13_spells_81 (by decide) rfl ?_
      refine J_iload 0 dX13_spells_83 rfl ?_
      refine J_iconst (v := (-1)) dX13_spells_85 (by decide) ?_
      refine J_icmp_eq (tgt := 121) dX13_spells_86 (by decide) (fun c75 => ?_) (fun c75 => ?_)
      · have h := (if_pos c75).symm.trans h
        refine J_iload 4 dX13_spells_121 rfl ?_
        refine J_iconst (v := 1) dX13_spells_123 (by decide) ?_
        refine J_iadd dX13_spells_124 ?_
        refine J_aload_n 1 dX13_spells_125 rfl ?_
        refine M_getR gf_X13_121_12 dX13_spells_126 (g_324_56 _) k_324 n_324 ?_
        refine J_iload_n 2 dX13_spells_129 rfl ?_
        obtain ⟨g76, h⟩ := gd_inv h
        refine M_iald dX13_spells_130 a_359 n_359 g76 ?_
        refine J_icmp_eq (tgt := 150) dX13_spells_131 (by decide) (fun c77 => ?_) (fun c77 => ?_)
        · have h := (if_pos c77).symm.trans h
          refine J_pick [1, 2, 3, 4] rfl ?_
          exact t_X13_spells_150 ih _ _ _ _ _  h
        · have h := (if_neg c77).symm.trans h
          refine J_aload_n 1 dX13_spells_134 rfl ?_
          refine M_getR gf_X13_142_12 dX13_spells_135 (g_324_63 _) k_324 n_324 ?_
          refine J_iload 4 dX13_spells_138 rfl ?_
          refine J_iconst (v := 1) dX13_spells_140 (by decide) ?_
          refine J_iadd dX13_spells_141 ?_
          obtain ⟨g78, h⟩ := gd_inv h
          refine M_iald dX13_spells_142 a_366 n_366 g78 ?_
          obtain ⟨r79, σ80, h81, h⟩ := bd_inv h
          refine M_callSI (d' := 1) (As := [.int (rI σ73 366 (Int32.toNatClampNeg (l4 + 1)))]) (st := []) cs_X13_278 dX13_spells_143 rfl (Nat.le_of_ble_eq_true rfl) (Nat.le_of_ble_eq_true rfl) (by decide) rfl rfl (t_X13_vowel  h81) ?_
          refine J_iconst (v := (-1)) dX13_spells_146 (by decide) ?_
          refine J_icmp_ne (tgt := 154) dX13_spells_147 (by decide) (fun c82 => ?_) (fun c82 => ?_)
          · have h := (if_neg c82).symm.trans h
            refine J_iconst (v := 0) dX13_spells_154 (by decide) ?_
            refine J_pick [1, 2, 3, 4] rfl ?_
            exact t_X13_spells_155 ih _ _ _ _ _ _  h
          · have h := (if_pos c82).symm.trans h
            refine J_pick [1, 2, 3, 4] rfl ?_
            exact t_X13_spells_150 ih _ _ _ _ _  h
      · have h := (if_neg c75).symm.trans h
        refine J_iload 4 dX13_spells_89 rfl ?_
        refine J_if_eq (tgt := 110) dX13_spells_91 (by decide) (fun c83 => ?_) (fun c83 => ?_)
        · have h := (if_pos c83).symm.trans h
          refine J_pick [1, 2, 3, 4, 0] rfl ?_
          exact t_X13_spells_110 ih _ _ _ _ _ _  h
        · have h := (if_neg c83).symm.trans h
          refine J_aload_n 1 dX13_spells_94 rfl ?_
          refine M_getR gf_X13_142_12 dX13_spells_95 (g_324_63 _) k_324 n_324 ?_
          refine J_iload 4 dX13_spells_98 rfl ?_
          refine J_iconst (v := 1) dX13_spells_100 (by decide) ?_
          refine J_isub dX13_spells_101 ?_
          obtain ⟨g84, h⟩ := gd_inv h
          refine M_iald dX13_spells_102 a_366 n_366 g84 ?_
          obtain ⟨r85, σ86, h87, h⟩ := bd_inv h
          refine M_callSI (d' := 1) (As := [.int (rI σ73 366 (Int32.toNatClampNeg (l4 - 1)))]) (st := []) cs_X13_278 dX13_spells_103 rfl (Nat.le_of_ble_eq_true rfl) (Nat.le_of_ble_eq_true rfl) (by decide) rfl rfl (t_X13_vowel  h87) ?_
          refine J_iconst (v := (-1)) dX13_spells_106 (by decide) ?_
          refine J_icmp_eq (tgt := 211) dX13_spells_107 (by decide) (fun c88 => ?_) (fun c88 => ?_)
          · have h := (if_pos c88).symm.trans h
            refine J_pick [1, 2, 3, 4] rfl ?_
            exact t_X13_spells_211 ih _ _ _ _ _  h
          · have h := (if_neg c88).symm.trans h
            refine J_pick [1, 2, 3, 4, 0] rfl ?_
            exact t_X13_spells_110 ih _ _ _ _ _ _  h
set_option maxRecDepth 20000 in
set_option maxHeartbeats 4000000 in
theorem t_X13_spells_16  : ∀ (n : Nat) (l1 : Int32) (l3 : Int32) (l4 : Int32) (σ : jM) (r : Unit × jM), f_X13_spells_16  n l1 l3 l4 σ = some r → J mi_X13_spells 3 0 0 (jqV r) 16 [(0, .ref 324), (1, .int l1), (3, .int l3), (4, .int l4)] [] (ms σ) := by
  intro n
  induction n with
  | zero =>
    intro l1 l3 l4 σ r  h
    have h : (none : Option (Unit × jM)) = some r := h
    cases h
  | succ n ih =>
    intro l1 l3 l4 σ r  h
    have h : s_X13_spells_16  (f_X13_spells_16  n) l1 l3 l4 σ = some r := h
    unfold s_X13_spells_16 at h
    refine J_iload 3 dX13_spells_16 rfl ?_
    refine J_aload_n 0 dX13_spells_18 rfl ?_
    refine M_getR gf_X13_121_12 dX13_spells_19 (g_324_56 _) k_324 n_324 ?_
    refine J_iload_n 1 dX13_spells_22 rfl ?_
    obtain ⟨g96, h⟩ := gd_inv h
    refine M_iald dX13_spells_23 a_359 n_359 g96 ?_
    refine J_icmp_ge (tgt := 57) dX13_spells_24 (by decide) (fun c97 => ?_) (fun c97 => ?_)
    · have h := (if_pos c97).symm.trans h
      refine J_iconst (v := 0) dX13_spells_57 (by decide) ?_
      refine J_istore (i := 4) (ls' := [(4, .int 0), (0, .ref 324), (1, .int l1), (3, .int l3)]) dX13_spells_58 (by decide) rfl ?_
      refine J_pick [1, 2, 3, 0] rfl ?_
      exact t_X13_spells_60  _ _ _ _ _ _  h
    · have h := (if_neg c97).symm.trans h
      refine J_aload_n 0 dX13_spells_27 rfl ?_
      refine M_getR gf_X13_142_12 dX13_spells_28 (g_324_63 _) k_324 n_324 ?_
      refine J_iload 3 dX13_spells_31 rfl ?_
      refine J_aload_n 0 dX13_spells_33 rfl ?_
      refine J_iload_n 2 dX13_spells_34 rfl ?_
      refine J_aload_n 0 dX13_spells_35 rfl ?_
      refine M_getR gf_X13_124_12 dX13_spells_36 (g_324_57 _) k_324 n_324 ?_
      refine J_bipush (v := 8) dX13_spells_39 (by decide) ?_
      refine J_iload_n 1 dX13_spells_41 rfl ?_
      refine J_imul dX13_spells_42 ?_
      refine J_iload 3 dX13_spells_43 rfl ?_
      refine J_iadd dX13_spells_45 ?_
      obtain ⟨g98, h⟩ := gd_inv h
      refine M_iald dX13_spells_46 a_360 n_360 g98 ?_
      obtain ⟨r99, σ100, h101, h⟩ := bd_inv h
      refine M_callVI (d' := 1) (k := 324) (As := [.int l3, .int (rI σ 360 (Int32.toNatClampNeg ((8 * l1) + l4)))]) (st := [.int l4, .ref 366]) cv_X13_389 dX13_spells_47 rfl (by decide) rfl (Nat.le_of_ble_eq_true rfl) (Nat.le_of_ble_eq_true rfl) (by decide) n_324 k_324 rfl rfl (t_X13_writes  h101) ?_
      obtain ⟨g102, h⟩ := gd_inv h
      refine M_iast dX13_spells_50 a_366 n_366 g102 ?_
      refine J_iinc (v := (l4 + 1)) (ls' := [(4, .int (l4 + 1)), (0, .ref 324), (1, .int l1), (3, .int l3)]) 3 dX13_spells_51 rfl rfl (by decide) rfl ?_
      refine J_goto (tgt := 16) dX13_spells_54 (by decide) ?_
      refine J_pick [1, 2, 3, 0] rfl ?_
      exact ih _ _ _ _ _  h
set_option maxRecDepth 20000 in
set_option maxHeartbeats 4000000 in
theorem t_X13_spells {a1 : Int32} {a2 : Int32} {σ : jM} {r : Unit × jM}  (h : f_X13_spells a1 a2 σ = some r) : J mi_X13_spells 3 0 0 (jqV r) 0 [(0, .ref 324), (1, .int a1), (2, .int a2)] [] (ms σ) := by
  unfold f_X13_spells at h
  refine J_aload_n 0 dX13_spells_0 rfl ?_
  refine J_iload_n 2 dX13_spells_1 rfl ?_
  obtain ⟨r103, σ104, h105, h⟩ := bd_inv h
  refine M_callVI (d' := 1) (k := 324) (As := [.int a2]) (st := []) cv_X13_326 dX13_spells_2 rfl (by decide) rfl (Nat.le_of_ble_eq_true rfl) (Nat.le_of_ble_eq_true rfl) (by decide) n_324 k_324 rfl rfl (t_X13_rulesBy  h105) ?_
  refine J_istore_n (i := 3) (ls' := [(3, .int r103), (0, .ref 324), (1, .int a1), (2, .int a2)]) dX13_spells_5 rfl (by decide) rfl ?_
  refine J_aload_n 1 dX13_spells_6 rfl ?_
  refine M_getR gf_X13_139_12 dX13_spells_7 (g_324_62 _) k_324 n_324 ?_
  refine J_iload_n 2 dX13_spells_10 rfl ?_
  refine J_iconst (v := 0) dX13_spells_11 (by decide) ?_
  obtain ⟨g106, h⟩ := gd_inv h
  refine M_iast dX13_spells_12 a_365 n_365 g106 ?_
  refine J_iconst (v := 0) dX13_spells_13 (by decide) ?_
  refine J_istore (i := 4) (ls' := [(4, .int 0), (3, .int r103), (0, .ref 324), (1, .int a1), (2, .int a2)]) dX13_spells_14 (by decide) rfl ?_
  refine J_pick [2, 3, 1, 0] rfl ?_
  exact t_X13_spells_16  _ _ _ _ _ _  h
theorem dX13_spelled_0 : decode cX13_spelled 0 = .ok (.aload_n 0, 1) := by decide +kernel
theorem dX13_spelled_1 : decode cX13_spelled 1 = .ok (.iconst 0, 1) := by decide +kernel
theorem dX13_spelled_2 : decode cX13_spelled 2 = .ok (.putfield 1, 3) := by decide +kernel
theorem dX13_spelled_5 : decode cX13_spelled 5 = .ok (.iload_n 1, 1) := by decide +kernel
theorem dX13_spelled_6 : decode cX13_spelled 6 = .ok (.iconst 0, 1) := by decide +kernel
theorem dX13_spelled_7 : decode cX13_spelled 7 = .ok (.aload_n 0, 1) := by decide +kernel
theorem dX13_spelled_8 : decode cX13_spelled 8 = .ok (.getfield 383, 3) := by decide +kernel
theorem dX13_spelled_11 : decode cX13_spelled 11 = .ok (.iconst 1, 1) := by decide +kernel
theorem dX13_spelled_12 : decode cX13_spelled 12 = .ok (.isub, 1) := by decide +kernel
theorem dX13_spelled_13 : decode cX13_spelled 13 = .ok (.invokestatic 169, 3) := by decide +kernel
theorem dX13_spelled_16 : decode cX13_spelled 16 = .ok (.ifCond .eq 11, 3) := by decide +kernel
theorem dX13_spelled_19 : decode cX13_spelled 19 = .ok (.aload_n 0, 1) := by decide +kernel
theorem dX13_spelled_20 : decode cX13_spelled 20 = .ok (.iload_n 2, 1) := by decide +kernel
theorem dX13_spelled_21 : decode cX13_spelled 21 = .ok (.invokevirtual 298, 3) := by decide +kernel
theorem dX13_spelled_24 : decode cX13_spelled 24 = .ok (.ifCond .ne 5, 3) := by decide +kernel
theorem dX13_spelled_27 : decode cX13_spelled 27 = .ok (.iconst (-1), 1) := by decide +kernel
theorem dX13_spelled_28 : decode cX13_spelled 28 = .ok (.ireturn, 1) := by decide +kernel
theorem dX13_spelled_29 : decode cX13_spelled 29 = .ok (.aload_n 0, 1) := by decide +kernel
theorem dX13_spelled_30 : decode cX13_spelled 30 = .ok (.iload_n 1, 1) := by decide +kernel
theorem dX13_spelled_31 : decode cX13_spelled 31 = .ok (.iload_n 2, 1) := by decide +kernel
theorem dX13_spelled_32 : decode cX13_spelled 32 = .ok (.invokevirtual 401, 3) := by decide +kernel
theorem dX13_spelled_35 : decode cX13_spelled 35 = .ok (.aload_n 0, 1) := by decide +kernel
theorem dX13_spelled_36 : decode cX13_spelled 36 = .ok (.getfield 139, 3) := by decide +kernel
theorem dX13_spelled_39 : decode cX13_spelled 39 = .ok (.iload_n 1, 1) := by decide +kernel
theorem dX13_spelled_40 : decode cX13_spelled 40 = .ok (.iaload, 1) := by decide +kernel
theorem dX13_spelled_41 : decode cX13_spelled 41 = .ok (.ireturn, 1) := by decide +kernel
noncomputable def f_X13_spelled_27   (σ : jM) : Option (Int32 × jM) :=
  some ((-1), σ)
noncomputable def f_X13_spelled (a1 : Int32) (a2 : Int32) (σ : jM) : Option (Int32 × jM) :=
  bd (f_X13_within a1 0 ((rI (wI σ 324 0 0) 324 55) - 1) (wI σ 324 0 0)) (fun r2 σ3 => (if r2 = 0 then f_X13_spelled_27   σ3 else bd (f_X13_isKnown a2 σ3) (fun r6 σ7 => (if r6 = 0 then f_X13_spelled_27   σ7 else bd (f_X13_spells a1 a2 σ7) (fun _ σ11 => gd (inb a1 7) (some ((rI σ11 365 (Int32.toNatClampNeg a1)), σ11)))))))
set_option maxRecDepth 20000 in
set_option maxHeartbeats 4000000 in
theorem t_X13_spelled_27   (σ : jM) (r : Int32 × jM)  (h : f_X13_spelled_27   σ = some r) : J mi_X13_spelled 4 0 0 (jqI r) 27 [] [] (ms σ) := by
  unfold f_X13_spelled_27 at h
  refine J_iconst (v := (-1)) dX13_spelled_27 (by decide) ?_
  exact J_ret (v := some (.int (-1))) rfl ⟨dX13_spelled_28, Or.inl rfl⟩ (jqI_mk h)
set_option maxRecDepth 20000 in
set_option maxHeartbeats 4000000 in
theorem t_X13_spelled {a1 : Int32} {a2 : Int32} {σ : jM} {r : Int32 × jM}  (h : f_X13_spelled a1 a2 σ = some r) : J mi_X13_spelled 4 0 0 (jqI r) 0 [(0, .ref 324), (1, .int a1), (2, .int a2)] [] (ms σ) := by
  unfold f_X13_spelled at h
  refine J_aload_n 0 dX13_spelled_0 rfl ?_
  refine J_iconst (v := 0) dX13_spelled_1 (by decide) ?_
  refine M_putI pf_X13_1_12 dX13_spelled_2 k_324 n_324 ⟨rfl, rfl⟩ ?_
  refine J_iload_n 1 dX13_spelled_5 rfl ?_
  refine J_iconst (v := 0) dX13_spelled_6 (by decide) ?_
  refine J_aload_n 0 dX13_spelled_7 rfl ?_
  refine M_getI gf_X13_383_12 dX13_spelled_8 k_324 n_324 ?_
  refine J_iconst (v := 1) dX13_spelled_11 (by decide) ?_
  refine J_isub dX13_spelled_12 ?_
  obtain ⟨r2, σ3, h4, h⟩ := bd_inv h
  refine M_callSI (d' := 1) (As := [.int a1, .int 0, .int ((rI (wI σ 324 0 0) 324 55) - 1)]) (st := []) cs_X13_169 dX13_spelled_13 rfl (Nat.le_of_ble_eq_true rfl) (Nat.le_of_ble_eq_true rfl) (by decide) rfl rfl (t_X13_within  h4) ?_
  refine J_if_eq (tgt := 27) dX13_spelled_16 (by decide) (fun c5 => ?_) (fun c5 => ?_)
  · have h := (if_pos c5).symm.trans h
    refine J_pick [] rfl ?_
    exact t_X13_spelled_27   _ _  h
  · have h := (if_neg c5).symm.trans h
    refine J_aload_n 0 dX13_spelled_19 rfl ?_
    refine J_iload_n 2 dX13_spelled_20 rfl ?_
    obtain ⟨r6, σ7, h8, h⟩ := bd_inv h
    refine M_callVI (d' := 1) (k := 324) (As := [.int a2]) (st := []) cv_X13_298 dX13_spelled_21 rfl (by decide) rfl (Nat.le_of_ble_eq_true rfl) (Nat.le_of_ble_eq_true rfl) (by decide) n_324 k_324 rfl rfl (t_X13_isKnown  h8) ?_
    refine J_if_ne (tgt := 29) dX13_spelled_24 (by decide) (fun c9 => ?_) (fun c9 => ?_)
    · have h := (if_neg c9).symm.trans h
      refine J_aload_n 0 dX13_spelled_29 rfl ?_
      refine J_iload_n 1 dX13_spelled_30 rfl ?_
      refine J_iload_n 2 dX13_spelled_31 rfl ?_
      obtain ⟨_, σ11, h12, h⟩ := bd_inv h
      refine M_callVV (d' := 3) (k := 324) (As := [.int a1, .int a2]) (st := []) cv_X13_401 dX13_spelled_32 rfl (by decide) rfl (Nat.le_of_ble_eq_true rfl) (Nat.le_of_ble_eq_true rfl) (by decide) n_324 k_324 rfl rfl (t_X13_spells  h12) ?_
      refine J_aload_n 0 dX13_spelled_35 rfl ?_
      refine M_getR gf_X13_139_12 dX13_spelled_36 (g_324_62 _) k_324 n_324 ?_
      refine J_iload_n 1 dX13_spelled_39 rfl ?_
      obtain ⟨g13, h⟩ := gd_inv h
      refine M_iald dX13_spelled_40 a_365 n_365 g13 ?_
      exact J_ret (v := some (.int (rI σ11 365 (Int32.toNatClampNeg a1)))) rfl ⟨dX13_spelled_41, Or.inl rfl⟩ (jqI_mk h)
    · have h := (if_pos c9).symm.trans h
      refine J_pick [] rfl ?_
      exact t_X13_spelled_27   _ _  h
theorem dX13_cell_0 : decode cX13_cell 0 = .ok (.aload_n 0, 1) := by decide +kernel
theorem dX13_cell_1 : decode cX13_cell 1 = .ok (.iconst 0, 1) := by decide +kernel
theorem dX13_cell_2 : decode cX13_cell 2 = .ok (.putfield 1, 3) := by decide +kernel
theorem dX13_cell_5 : decode cX13_cell 5 = .ok (.iload_n 1, 1) := by decide +kernel
theorem dX13_cell_6 : decode cX13_cell 6 = .ok (.iconst 0, 1) := by decide +kernel
theorem dX13_cell_7 : decode cX13_cell 7 = .ok (.aload_n 0, 1) := by decide +kernel
theorem dX13_cell_8 : decode cX13_cell 8 = .ok (.getfield 383, 3) := by decide +kernel
theorem dX13_cell_11 : decode cX13_cell 11 = .ok (.iconst 1, 1) := by decide +kernel
theorem dX13_cell_12 : decode cX13_cell 12 = .ok (.isub, 1) := by decide +kernel
theorem dX13_cell_13 : decode cX13_cell 13 = .ok (.invokestatic 169, 3) := by decide +kernel
theorem dX13_cell_16 : decode cX13_cell 16 = .ok (.ifCond .eq 11, 3) := by decide +kernel
theorem dX13_cell_19 : decode cX13_cell 19 = .ok (.aload_n 0, 1) := by decide +kernel
theorem dX13_cell_20 : decode cX13_cell 20 = .ok (.iload_n 3, 1) := by decide +kernel
theorem dX13_cell_21 : decode cX13_cell 21 = .ok (.invokevirtual 298, 3) := by decide +kernel
theorem dX13_cell_24 : decode cX13_cell 24 = .ok (.ifCond .ne 5, 3) := by decide +kernel
theorem dX13_cell_27 : decode cX13_cell 27 = .ok (.iconst (-1), 1) := by decide +kernel
theorem dX13_cell_28 : decode cX13_cell 28 = .ok (.ireturn, 1) := by decide +kernel
theorem dX13_cell_29 : decode cX13_cell 29 = .ok (.aload_n 0, 1) := by decide +kernel
theorem dX13_cell_30 : decode cX13_cell 30 = .ok (.iload_n 1, 1) := by decide +kernel
theorem dX13_cell_31 : decode cX13_cell 31 = .ok (.iload_n 3, 1) := by decide +kernel
theorem dX13_cell_32 : decode cX13_cell 32 = .ok (.invokevirtual 401, 3) := by decide +kernel
theorem dX13_cell_35 : decode cX13_cell 35 = .ok (.iload_n 2, 1) := by decide +kernel
theorem dX13_cell_36 : decode cX13_cell 36 = .ok (.iconst 0, 1) := by decide +kernel
theorem dX13_cell_37 : decode cX13_cell 37 = .ok (.aload_n 0, 1) := by decide +kernel
theorem dX13_cell_38 : decode cX13_cell 38 = .ok (.getfield 139, 3) := by decide +kernel
theorem dX13_cell_41 : decode cX13_cell 41 = .ok (.iload_n 1, 1) := by decide +kernel
theorem dX13_cell_42 : decode cX13_cell 42 = .ok (.iaload, 1) := by decide +kernel
theorem dX13_cell_43 : decode cX13_cell 43 = .ok (.iconst 1, 1) := by decide +kernel
theorem dX13_cell_44 : decode cX13_cell 44 = .ok (.isub, 1) := by decide +kernel
theorem dX13_cell_45 : decode cX13_cell 45 = .ok (.invokestatic 169, 3) := by decide +kernel
theorem dX13_cell_48 : decode cX13_cell 48 = .ok (.ifCond .eq 17, 3) := by decide +kernel
theorem dX13_cell_51 : decode cX13_cell 51 = .ok (.aload_n 0, 1) := by decide +kernel
theorem dX13_cell_52 : decode cX13_cell 52 = .ok (.getfield 136, 3) := by decide +kernel
theorem dX13_cell_55 : decode cX13_cell 55 = .ok (.bipush 8, 2) := by decide +kernel
theorem dX13_cell_57 : decode cX13_cell 57 = .ok (.iload_n 1, 1) := by decide +kernel
theorem dX13_cell_58 : decode cX13_cell 58 = .ok (.imul, 1) := by decide +kernel
theorem dX13_cell_59 : decode cX13_cell 59 = .ok (.iload_n 2, 1) := by decide +kernel
theorem dX13_cell_60 : decode cX13_cell 60 = .ok (.iadd, 1) := by decide +kernel
theorem dX13_cell_61 : decode cX13_cell 61 = .ok (.iaload, 1) := by decide +kernel
theorem dX13_cell_62 : decode cX13_cell 62 = .ok (.goto 4, 3) := by decide +kernel
theorem dX13_cell_65 : decode cX13_cell 65 = .ok (.iconst (-1), 1) := by decide +kernel
theorem dX13_cell_66 : decode cX13_cell 66 = .ok (.ireturn, 1) := by decide +kernel
noncomputable def f_X13_cell_27   (σ : jM) : Option (Int32 × jM) :=
  some ((-1), σ)
noncomputable def f_X13_cell_66  (s0 : Int32) (σ : jM) : Option (Int32 × jM) :=
  some (s0, σ)
noncomputable def f_X13_cell (a1 : Int32) (a2 : Int32) (a3 : Int32) (σ : jM) : Option (Int32 × jM) :=
  bd (f_X13_within a1 0 ((rI (wI σ 324 0 0) 324 55) - 1) (wI σ 324 0 0)) (fun r3 σ4 => (if r3 = 0 then f_X13_cell_27   σ4 else bd (f_X13_isKnown a3 σ4) (fun r7 σ8 => (if r7 = 0 then f_X13_cell_27   σ8 else bd (f_X13_spells a1 a3 σ8) (fun _ σ12 => gd (inb a1 7) (bd (f_X13_within a2 0 ((rI σ12 365 (Int32.toNatClampNeg a1)) - 1) σ12) (fun r15 σ16 => (if r15 = 0 then f_X13_cell_66  (-1) σ16 else gd (inb ((8 * a1) + a2) 56) (f_X13_cell_66  (rI σ16 364 (Int32.toNatClampNeg ((8 * a1) + a2))) σ16)))))))))
set_option maxRecDepth 20000 in
set_option maxHeartbeats 4000000 in
theorem t_X13_cell_27   (σ : jM) (r : Int32 × jM)  (h : f_X13_cell_27   σ = some r) : J mi_X13_cell 4 0 0 (jqI r) 27 [] [] (ms σ) := by
  unfold f_X13_cell_27 at h
  refine J_iconst (v := (-1)) dX13_cell_27 (by decide) ?_
  exact J_ret (v := some (.int (-1))) rfl ⟨dX13_cell_28, Or.inl rfl⟩ (jqI_mk h)
set_option maxRecDepth 20000 in
set_option maxHeartbeats 4000000 in
theorem t_X13_cell_66  (s0 : Int32) (σ : jM) (r : Int32 × jM)  (h : f_X13_cell_66  s0 σ = some r) : J mi_X13_cell 4 0 0 (jqI r) 66 [] [.int s0] (ms σ) := by
  unfold f_X13_cell_66 at h
  exact J_ret (v := some (.int s0)) rfl ⟨dX13_cell_66, Or.inl rfl⟩ (jqI_mk h)
set_option maxRecDepth 20000 in
set_option maxHeartbeats 4000000 in
theorem t_X13_cell {a1 : Int32} {a2 : Int32} {a3 : Int32} {σ : jM} {r : Int32 × jM}  (h : f_X13_cell a1 a2 a3 σ = some r) : J mi_X13_cell 4 0 0 (jqI r) 0 [(0, .ref 324), (1, .int a1), (2, .int a2), (3, .int a3)] [] (ms σ) := by
  unfold f_X13_cell at h
  refine J_aload_n 0 dX13_cell_0 rfl ?_
  refine J_iconst (v := 0) dX13_cell_1 (by decide) ?_
  refine M_putI pf_X13_1_12 dX13_cell_2 k_324 n_324 ⟨rfl, rfl⟩ ?_
  refine J_iload_n 1 dX13_cell_5 rfl ?_
  refine J_iconst (v := 0) dX13_cell_6 (by decide) ?_
  refine J_aload_n 0 dX13_cell_7 rfl ?_
  refine M_getI gf_X13_383_12 dX13_cell_8 k_324 n_324 ?_
  refine J_iconst (v := 1) dX13_cell_11 (by decide) ?_
  refine J_isub dX13_cell_12 ?_
  obtain ⟨r3, σ4, h5, h⟩ := bd_inv h
  refine M_callSI (d' := 1) (As := [.int a1, .int 0, .int ((rI (wI σ 324 0 0) 324 55) - 1)]) (st := []) cs_X13_169 dX13_cell_13 rfl (Nat.le_of_ble_eq_true rfl) (Nat.le_of_ble_eq_true rfl) (by decide) rfl rfl (t_X13_within  h5) ?_
  refine J_if_eq (tgt := 27) dX13_cell_16 (by decide) (fun c6 => ?_) (fun c6 => ?_)
  · have h := (if_pos c6).symm.trans h
    refine J_pick [] rfl ?_
    exact t_X13_cell_27   _ _  h
  · have h := (if_neg c6).symm.trans h
    refine J_aload_n 0 dX13_cell_19 rfl ?_
    refine J_iload_n 3 dX13_cell_20 rfl ?_
    obtain ⟨r7, σ8, h9, h⟩ := bd_inv h
    refine M_callVI (d' := 1) (k := 324) (As := [.int a3]) (st := []) cv_X13_298 dX13_cell_21 rfl (by decide) rfl (Nat.le_of_ble_eq_true rfl) (Nat.le_of_ble_eq_true rfl) (by decide) n_324 k_324 rfl rfl (t_X13_isKnown  h9) ?_
    refine J_if_ne (tgt := 29) dX13_cell_24 (by decide) (fun c10 => ?_) (fun c10 => ?_)
    · have h := (if_neg c10).symm.trans h
      refine J_aload_n 0 dX13_cell_29 rfl ?_
      refine J_iload_n 1 dX13_cell_30 rfl ?_
      refine J_iload_n 3 dX13_cell_31 rfl ?_
      obtain ⟨_, σ12, h13, h⟩ := bd_inv h
      refine M_callVV (d' := 3) (k := 324) (As := [.int a1, .int a3]) (st := []) cv_X13_401 dX13_cell_32 rfl (by decide) rfl (Nat.le_of_ble_eq_true rfl) (Nat.le_of_ble_eq_true rfl) (by decide) n_324 k_324 rfl rfl (t_X13_spells  h13) ?_
      refine J_iload_n 2 dX13_cell_35 rfl ?_
      refine J_iconst (v := 0) dX13_cell_36 (by decide) ?_
      refine J_aload_n 0 dX13_cell_37 rfl ?_
      refine M_getR gf_X13_139_12 dX13_cell_38 (g_324_62 _) k_324 n_324 ?_
      refine J_iload_n 1 dX13_cell_41 rfl ?_
      obtain ⟨g14, h⟩ := gd_inv h
      refine M_iald dX13_cell_42 a_365 n_365 g14 ?_
      refine J_iconst (v := 1) dX13_cell_43 (by decide) ?_
      refine J_isub dX13_cell_44 ?_
      obtain ⟨r15, σ16, h17, h⟩ := bd_inv h
      refine M_callSI (d' := 1) (As := [.int a2, .int 0, .int ((rI σ12 365 (Int32.toNatClampNeg a1)) - 1)]) (st := []) cs_X13_169 dX13_cell_45 rfl (Nat.le_of_ble_eq_true rfl) (Nat.le_of_ble_eq_true rfl) (by decide) rfl rfl (t_X13_within  h17) ?_
      refine J_if_eq (tgt := 65) dX13_cell_48 (by decide) (fun c18 => ?_) (fun c18 => ?_)
      · have h := (if_pos c18).symm.trans h
        refine J_iconst (v := (-1)) dX13_cell_65 (by decide) ?_
        refine J_pick [] rfl ?_
        exact t_X13_cell_66  _ _ _  h
      · have h := (if_neg c18).symm.trans h
        refine J_aload_n 0 dX13_cell_51 rfl ?_
        refine M_getR gf_X13_136_12 dX13_cell_52 (g_324_61 _) k_324 n_324 ?_
        refine J_bipush (v := 8) dX13_cell_55 (by decide) ?_
        refine J_iload_n 1 dX13_cell_57 rfl ?_
        refine J_imul dX13_cell_58 ?_
        refine J_iload_n 2 dX13_cell_59 rfl ?_
        refine J_iadd dX13_cell_60 ?_
        obtain ⟨g19, h⟩ := gd_inv h
        refine M_iald dX13_cell_61 a_364 n_364 g19 ?_
        refine J_goto (tgt := 66) dX13_cell_62 (by decide) ?_
        refine J_pick [] rfl ?_
        exact t_X13_cell_66  _ _ _  h
    · have h := (if_pos c10).symm.trans h
      refine J_pick [] rfl ?_
      exact t_X13_cell_27   _ _  h
theorem dX13_agree_0 : decode cX13_agree 0 = .ok (.iload_n 2, 1) := by decide +kernel
theorem dX13_agree_1 : decode cX13_agree 1 = .ok (.iload 4, 2) := by decide +kernel
theorem dX13_agree_3 : decode cX13_agree 3 = .ok (.if_icmp .ne 5, 3) := by decide +kernel
theorem dX13_agree_6 : decode cX13_agree 6 = .ok (.iconst 0, 1) := by decide +kernel
theorem dX13_agree_7 : decode cX13_agree 7 = .ok (.ireturn, 1) := by decide +kernel
theorem dX13_agree_8 : decode cX13_agree 8 = .ok (.aload_n 0, 1) := by decide +kernel
theorem dX13_agree_9 : decode cX13_agree 9 = .ok (.getfield 106, 3) := by decide +kernel
theorem dX13_agree_12 : decode cX13_agree 12 = .ok (.iload_n 1, 1) := by decide +kernel
theorem dX13_agree_13 : decode cX13_agree 13 = .ok (.iaload, 1) := by decide +kernel
theorem dX13_agree_14 : decode cX13_agree 14 = .ok (.aload_n 0, 1) := by decide +kernel
theorem dX13_agree_15 : decode cX13_agree 15 = .ok (.getfield 106, 3) := by decide +kernel
theorem dX13_agree_18 : decode cX13_agree 18 = .ok (.iload_n 3, 1) := by decide +kernel
theorem dX13_agree_19 : decode cX13_agree 19 = .ok (.iaload, 1) := by decide +kernel
theorem dX13_agree_20 : decode cX13_agree 20 = .ok (.if_icmp .ne 15, 3) := by decide +kernel
theorem dX13_agree_23 : decode cX13_agree 23 = .ok (.iload_n 2, 1) := by decide +kernel
theorem dX13_agree_24 : decode cX13_agree 24 = .ok (.iconst 5, 1) := by decide +kernel
theorem dX13_agree_25 : decode cX13_agree 25 = .ok (.idiv, 1) := by decide +kernel
theorem dX13_agree_26 : decode cX13_agree 26 = .ok (.iload 4, 2) := by decide +kernel
theorem dX13_agree_28 : decode cX13_agree 28 = .ok (.iconst 5, 1) := by decide +kernel
theorem dX13_agree_29 : decode cX13_agree 29 = .ok (.idiv, 1) := by decide +kernel
theorem dX13_agree_30 : decode cX13_agree 30 = .ok (.if_icmp .eq 5, 3) := by decide +kernel
theorem dX13_agree_33 : decode cX13_agree 33 = .ok (.iconst 0, 1) := by decide +kernel
theorem dX13_agree_34 : decode cX13_agree 34 = .ok (.ireturn, 1) := by decide +kernel
theorem dX13_agree_35 : decode cX13_agree 35 = .ok (.aload_n 0, 1) := by decide +kernel
theorem dX13_agree_36 : decode cX13_agree 36 = .ok (.getfield 106, 3) := by decide +kernel
theorem dX13_agree_39 : decode cX13_agree 39 = .ok (.bipush 40, 2) := by decide +kernel
theorem dX13_agree_41 : decode cX13_agree 41 = .ok (.iload_n 1, 1) := by decide +kernel
theorem dX13_agree_42 : decode cX13_agree 42 = .ok (.iadd, 1) := by decide +kernel
theorem dX13_agree_43 : decode cX13_agree 43 = .ok (.iaload, 1) := by decide +kernel
theorem dX13_agree_44 : decode cX13_agree 44 = .ok (.aload_n 0, 1) := by decide +kernel
theorem dX13_agree_45 : decode cX13_agree 45 = .ok (.getfield 106, 3) := by decide +kernel
theorem dX13_agree_48 : decode cX13_agree 48 = .ok (.bipush 40, 2) := by decide +kernel
theorem dX13_agree_50 : decode cX13_agree 50 = .ok (.iload_n 3, 1) := by decide +kernel
theorem dX13_agree_51 : decode cX13_agree 51 = .ok (.iadd, 1) := by decide +kernel
theorem dX13_agree_52 : decode cX13_agree 52 = .ok (.iaload, 1) := by decide +kernel
theorem dX13_agree_53 : decode cX13_agree 53 = .ok (.if_icmp .ne 15, 3) := by decide +kernel
theorem dX13_agree_56 : decode cX13_agree 56 = .ok (.iload_n 2, 1) := by decide +kernel
theorem dX13_agree_57 : decode cX13_agree 57 = .ok (.iconst 5, 1) := by decide +kernel
theorem dX13_agree_58 : decode cX13_agree 58 = .ok (.irem, 1) := by decide +kernel
theorem dX13_agree_59 : decode cX13_agree 59 = .ok (.iload 4, 2) := by decide +kernel
theorem dX13_agree_61 : decode cX13_agree 61 = .ok (.iconst 5, 1) := by decide +kernel
theorem dX13_agree_62 : decode cX13_agree 62 = .ok (.irem, 1) := by decide +kernel
theorem dX13_agree_63 : decode cX13_agree 63 = .ok (.if_icmp .eq 5, 3) := by decide +kernel
theorem dX13_agree_66 : decode cX13_agree 66 = .ok (.iconst 0, 1) := by decide +kernel
theorem dX13_agree_67 : decode cX13_agree 67 = .ok (.ireturn, 1) := by decide +kernel
theorem dX13_agree_68 : decode cX13_agree 68 = .ok (.aload_n 0, 1) := by decide +kernel
theorem dX13_agree_69 : decode cX13_agree 69 = .ok (.getfield 103, 3) := by decide +kernel
theorem dX13_agree_72 : decode cX13_agree 72 = .ok (.bipush 40, 2) := by decide +kernel
theorem dX13_agree_74 : decode cX13_agree 74 = .ok (.iload_n 1, 1) := by decide +kernel
theorem dX13_agree_75 : decode cX13_agree 75 = .ok (.imul, 1) := by decide +kernel
theorem dX13_agree_76 : decode cX13_agree 76 = .ok (.iload_n 3, 1) := by decide +kernel
theorem dX13_agree_77 : decode cX13_agree 77 = .ok (.iadd, 1) := by decide +kernel
theorem dX13_agree_78 : decode cX13_agree 78 = .ok (.baload, 1) := by decide +kernel
theorem dX13_agree_79 : decode cX13_agree 79 = .ok (.ifCond .eq 15, 3) := by decide +kernel
theorem dX13_agree_82 : decode cX13_agree 82 = .ok (.iload_n 2, 1) := by decide +kernel
theorem dX13_agree_83 : decode cX13_agree 83 = .ok (.iconst 5, 1) := by decide +kernel
theorem dX13_agree_84 : decode cX13_agree 84 = .ok (.idiv, 1) := by decide +kernel
theorem dX13_agree_85 : decode cX13_agree 85 = .ok (.iload 4, 2) := by decide +kernel
theorem dX13_agree_87 : decode cX13_agree 87 = .ok (.iconst 5, 1) := by decide +kernel
theorem dX13_agree_88 : decode cX13_agree 88 = .ok (.idiv, 1) := by decide +kernel
theorem dX13_agree_89 : decode cX13_agree 89 = .ok (.if_icmp .ne 5, 3) := by decide +kernel
theorem dX13_agree_92 : decode cX13_agree 92 = .ok (.iconst 0, 1) := by decide +kernel
theorem dX13_agree_93 : decode cX13_agree 93 = .ok (.ireturn, 1) := by decide +kernel
theorem dX13_agree_94 : decode cX13_agree 94 = .ok (.aload_n 0, 1) := by decide +kernel
theorem dX13_agree_95 : decode cX13_agree 95 = .ok (.getfield 103, 3) := by decide +kernel
theorem dX13_agree_98 : decode cX13_agree 98 = .ok (.sipush 1600, 3) := by decide +kernel
theorem dX13_agree_101 : decode cX13_agree 101 = .ok (.bipush 40, 2) := by decide +kernel
theorem dX13_agree_103 : decode cX13_agree 103 = .ok (.iload_n 1, 1) := by decide +kernel
theorem dX13_agree_104 : decode cX13_agree 104 = .ok (.imul, 1) := by decide +kernel
theorem dX13_agree_105 : decode cX13_agree 105 = .ok (.iadd, 1) := by decide +kernel
theorem dX13_agree_106 : decode cX13_agree 106 = .ok (.iload_n 3, 1) := by decide +kernel
theorem dX13_agree_107 : decode cX13_agree 107 = .ok (.iadd, 1) := by decide +kernel
theorem dX13_agree_108 : decode cX13_agree 108 = .ok (.baload, 1) := by decide +kernel
theorem dX13_agree_109 : decode cX13_agree 109 = .ok (.ifCond .eq 13, 3) := by decide +kernel
theorem dX13_agree_112 : decode cX13_agree 112 = .ok (.iload_n 2, 1) := by decide +kernel
theorem dX13_agree_113 : decode cX13_agree 113 = .ok (.iconst 5, 1) := by decide +kernel
theorem dX13_agree_114 : decode cX13_agree 114 = .ok (.irem, 1) := by decide +kernel
theorem dX13_agree_115 : decode cX13_agree 115 = .ok (.iload 4, 2) := by decide +kernel
theorem dX13_agree_117 : decode cX13_agree 117 = .ok (.iconst 5, 1) := by decide +kernel
theorem dX13_agree_118 : decode cX13_agree 118 = .ok (.irem, 1) := by decide +kernel
theorem dX13_agree_119 : decode cX13_agree 119 = .ok (.if_icmp .eq 7, 3) := by decide +kernel
theorem dX13_agree_122 : decode cX13_agree 122 = .ok (.iconst 1, 1) := by decide +kernel
theorem dX13_agree_123 : decode cX13_agree 123 = .ok (.goto 4, 3) := by decide +kernel
theorem dX13_agree_126 : decode cX13_agree 126 = .ok (.iconst 0, 1) := by decide +kernel
theorem dX13_agree_127 : decode cX13_agree 127 = .ok (.ireturn, 1) := by decide +kernel
noncomputable def f_X13_agree_127  (s0 : Int32) (σ : jM) : Option (Int32 × jM) :=
  gd (s0 = 0 ∨ s0 = 1) (some (s0, σ))
noncomputable def f_X13_agree_122   (σ : jM) : Option (Int32 × jM) :=
  f_X13_agree_127  1 σ
noncomputable def f_X13_agree_94  (l1 : Int32) (l2 : Int32) (l3 : Int32) (l4 : Int32) (σ : jM) : Option (Int32 × jM) :=
  gd (inb ((1600 + (40 * l1)) + l3) 3200) ((if (rI σ 353 (Int32.toNatClampNeg ((1600 + (40 * l1)) + l3))) = 0 then f_X13_agree_122   σ else (if (l2 - l2 / 5 * 5) = (l4 - l4 / 5 * 5) then f_X13_agree_127  0 σ else f_X13_agree_122   σ)))
noncomputable def f_X13_agree_68  (l1 : Int32) (l2 : Int32) (l3 : Int32) (l4 : Int32) (σ : jM) : Option (Int32 × jM) :=
  gd (inb ((40 * l1) + l3) 3200) ((if (rI σ 353 (Int32.toNatClampNeg ((40 * l1) + l3))) = 0 then f_X13_agree_94  l1 l2 l3 l4 σ else (if (l2 / 5) = (l4 / 5) then some (0, σ) else f_X13_agree_94  l1 l2 l3 l4 σ)))
noncomputable def f_X13_agree_35  (l1 : Int32) (l2 : Int32) (l3 : Int32) (l4 : Int32) (σ : jM) : Option (Int32 × jM) :=
  gd (inb (40 + l1) 80) (gd (inb (40 + l3) 80) ((if (rI σ 354 (Int32.toNatClampNeg (40 + l1))) = (rI σ 354 (Int32.toNatClampNeg (40 + l3))) then (if (l2 - l2 / 5 * 5) = (l4 - l4 / 5 * 5) then f_X13_agree_68  l1 l2 l3 l4 σ else some (0, σ)) else f_X13_agree_68  l1 l2 l3 l4 σ)))
noncomputable def f_X13_agree (a1 : Int32) (a2 : Int32) (a3 : Int32) (a4 : Int32) (σ : jM) : Option (Int32 × jM) :=
  (if a2 = a4 then some (0, σ) else gd (inb a1 80) (gd (inb a3 80) ((if (rI σ 354 (Int32.toNatClampNeg a1)) = (rI σ 354 (Int32.toNatClampNeg a3)) then (if (a2 / 5) = (a4 / 5) then f_X13_agree_35  a1 a2 a3 a4 σ else some (0, σ)) else f_X13_agree_35  a1 a2 a3 a4 σ))))
set_option maxRecDepth 20000 in
set_option maxHeartbeats 4000000 in
theorem t_X13_agree_127  (s0 : Int32) (σ : jM) (r : Int32 × jM)  (h : f_X13_agree_127  s0 σ = some r) : J mi_X13_agree 1 0 0 (jqI r) 127 [] [.int s0] (ms σ) := by
  unfold f_X13_agree_127 at h
  obtain ⟨g8, h⟩ := gd_inv h
  exact J_ret (v := some (.int s0)) rfl ⟨dX13_agree_127, Or.inr (Or.inl ⟨rfl, g8⟩)⟩ (jqI_mk h)
set_option maxRecDepth 20000 in
set_option maxHeartbeats 4000000 in
theorem t_X13_agree_122   (σ : jM) (r : Int32 × jM)  (h : f_X13_agree_122   σ = some r) : J mi_X13_agree 1 0 0 (jqI r) 122 [] [] (ms σ) := by
  unfold f_X13_agree_122 at h
  refine J_iconst (v := 1) dX13_agree_122 (by decide) ?_
  refine J_goto (tgt := 127) dX13_agree_123 (by decide) ?_
  exact t_X13_agree_127  _ _ _  h
set_option maxRecDepth 20000 in
set_option maxHeartbeats 4000000 in
theorem t_X13_agree_94  (l1 : Int32) (l2 : Int32) (l3 : Int32) (l4 : Int32) (σ : jM) (r : Int32 × jM)  (h : f_X13_agree_94  l1 l2 l3 l4 σ = some r) : J mi_X13_agree 1 0 0 (jqI r) 94 [(0, .ref 324), (1, .int l1), (2, .int l2), (3, .int l3), (4, .int l4)] [] (ms σ) := by
  unfold f_X13_agree_94 at h
  refine J_aload_n 0 dX13_agree_94 rfl ?_
  refine M_getR gf_X13_103_12 dX13_agree_95 (g_324_43 _) k_324 n_324 ?_
  refine J_sipush (v := 1600) dX13_agree_98 (by decide) ?_
  refine J_bipush (v := 40) dX13_agree_101 (by decide) ?_
  refine J_iload_n 1 dX13_agree_103 rfl ?_
  refine J_imul dX13_agree_104 ?_
  refine J_iadd dX13_agree_105 ?_
  refine J_iload_n 3 dX13_agree_106 rfl ?_
  refine J_iadd dX13_agree_107 ?_
  obtain ⟨g12, h⟩ := gd_inv h
  refine M_zald dX13_agree_108 a_353 n_353 g12 ?_
  refine J_if_eq (tgt := 122) dX13_agree_109 (by decide) (fun c13 => ?_) (fun c13 => ?_)
  · have h := (if_pos c13).symm.trans h
    refine J_pick [] rfl ?_
    exact t_X13_agree_122   _ _  h
  · have h := (if_neg c13).symm.trans h
    refine J_iload_n 2 dX13_agree_112 rfl ?_
    refine J_iconst (v := 5) dX13_agree_113 (by decide) ?_
    refine J_irem dX13_agree_114 (by decide) ?_
    refine J_iload 4 dX13_agree_115 rfl ?_
    refine J_iconst (v := 5) dX13_agree_117 (by decide) ?_
    refine J_irem dX13_agree_118 (by decide) ?_
    refine J_icmp_eq (tgt := 126) dX13_agree_119 (by decide) (fun c14 => ?_) (fun c14 => ?_)
    · have h := (if_pos c14).symm.trans h
      refine J_iconst (v := 0) dX13_agree_126 (by decide) ?_
      refine J_pick [] rfl ?_
      exact t_X13_agree_127  _ _ _  h
    · have h := (if_neg c14).symm.trans h
      refine J_pick [] rfl ?_
      exact t_X13_agree_122   _ _  h
set_option maxRecDepth 20000 in
set_option maxHeartbeats 4000000 in
theorem t_X13_agree_68  (l1 : Int32) (l2 : Int32) (l3 : Int32) (l4 : Int32) (σ : jM) (r : Int32 × jM)  (h : f_X13_agree_68  l1 l2 l3 l4 σ = some r) : J mi_X13_agree 1 0 0 (jqI r) 68 [(0, .ref 324), (1, .int l1), (2, .int l2), (3, .int l3), (4, .int l4)] [] (ms σ) := by
  unfold f_X13_agree_68 at h
  refine J_aload_n 0 dX13_agree_68 rfl ?_
  refine M_getR gf_X13_103_12 dX13_agree_69 (g_324_43 _) k_324 n_324 ?_
  refine J_bipush (v := 40) dX13_agree_72 (by decide) ?_
  refine J_iload_n 1 dX13_agree_74 rfl ?_
  refine J_imul dX13_agree_75 ?_
  refine J_iload_n 3 dX13_agree_76 rfl ?_
  refine J_iadd dX13_agree_77 ?_
  obtain ⟨g18, h⟩ := gd_inv h
  refine M_zald dX13_agree_78 a_353 n_353 g18 ?_
  refine J_if_eq (tgt := 94) dX13_agree_79 (by decide) (fun c19 => ?_) (fun c19 => ?_)
  · have h := (if_pos c19).symm.trans h
    exact t_X13_agree_94  _ _ _ _ _ _  h
  · have h := (if_neg c19).symm.trans h
    refine J_iload_n 2 dX13_agree_82 rfl ?_
    refine J_iconst (v := 5) dX13_agree_83 (by decide) ?_
    refine J_idiv dX13_agree_84 (by decide) ?_
    refine J_iload 4 dX13_agree_85 rfl ?_
    refine J_iconst (v := 5) dX13_agree_87 (by decide) ?_
    refine J_idiv dX13_agree_88 (by decide) ?_
    refine J_icmp_ne (tgt := 94) dX13_agree_89 (by decide) (fun c20 => ?_) (fun c20 => ?_)
    · have h := (if_neg c20).symm.trans h
      exact t_X13_agree_94  _ _ _ _ _ _  h
    · have h := (if_pos c20).symm.trans h
      refine J_iconst (v := 0) dX13_agree_92 (by decide) ?_
      exact J_ret (v := some (.int 0)) rfl ⟨dX13_agree_93, Or.inr (Or.inl ⟨rfl, Or.inl rfl⟩)⟩ (jqI_mk h)
set_option maxRecDepth 20000 in
set_option maxHeartbeats 4000000 in
theorem t_X13_agree_35  (l1 : Int32) (l2 : Int32) (l3 : Int32) (l4 : Int32) (σ : jM) (r : Int32 × jM)  (h : f_X13_agree_35  l1 l2 l3 l4 σ = some r) : J mi_X13_agree 1 0 0 (jqI r) 35 [(0, .ref 324), (1, .int l1), (2, .int l2), (3, .int l3), (4, .int l4)] [] (ms σ) := by
  unfold f_X13_agree_35 at h
  refine J_aload_n 0 dX13_agree_35 rfl ?_
  refine M_getR gf_X13_106_12 dX13_agree_36 (g_324_44 _) k_324 n_324 ?_
  refine J_bipush (v := 40) dX13_agree_39 (by decide) ?_
  refine J_iload_n 1 dX13_agree_41 rfl ?_
  refine J_iadd dX13_agree_42 ?_
  obtain ⟨g25, h⟩ := gd_inv h
  refine M_iald dX13_agree_43 a_354 n_354 g25 ?_
  refine J_aload_n 0 dX13_agree_44 rfl ?_
  refine M_getR gf_X13_106_12 dX13_agree_45 (g_324_44 _) k_324 n_324 ?_
  refine J_bipush (v := 40) dX13_agree_48 (by decide) ?_
  refine J_iload_n 3 dX13_agree_50 rfl ?_
  refine J_iadd dX13_agree_51 ?_
  obtain ⟨g26, h⟩ := gd_inv h
  refine M_iald dX13_agree_52 a_354 n_354 g26 ?_
  refine J_icmp_ne (tgt := 68) dX13_agree_53 (by decide) (fun c27 => ?_) (fun c27 => ?_)
  · have h := (if_neg c27).symm.trans h
    exact t_X13_agree_68  _ _ _ _ _ _  h
  · have h := (if_pos c27).symm.trans h
    refine J_iload_n 2 dX13_agree_56 rfl ?_
    refine J_iconst (v := 5) dX13_agree_57 (by decide) ?_
    refine J_irem dX13_agree_58 (by decide) ?_
    refine J_iload 4 dX13_agree_59 rfl ?_
    refine J_iconst (v := 5) dX13_agree_61 (by decide) ?_
    refine J_irem dX13_agree_62 (by decide) ?_
    refine J_icmp_eq (tgt := 68) dX13_agree_63 (by decide) (fun c28 => ?_) (fun c28 => ?_)
    · have h := (if_pos c28).symm.trans h
      exact t_X13_agree_68  _ _ _ _ _ _  h
    · have h := (if_neg c28).symm.trans h
      refine J_iconst (v := 0) dX13_agree_66 (by decide) ?_
      exact J_ret (v := some (.int 0)) rfl ⟨dX13_agree_67, Or.inr (Or.inl ⟨rfl, Or.inl rfl⟩)⟩ (jqI_mk h)
set_option maxRecDepth 20000 in
set_option maxHeartbeats 4000000 in
theorem t_X13_agree {a1 : Int32} {a2 : Int32} {a3 : Int32} {a4 : Int32} {σ : jM} {r : Int32 × jM}  (h : f_X13_agree a1 a2 a3 a4 σ = some r) : J mi_X13_agree 1 0 0 (jqI r) 0 [(0, .ref 324), (1, .int a1), (2, .int a2), (3, .int a3), (4, .int a4)] [] (ms σ) := by
  unfold f_X13_agree at h
  refine J_iload_n 2 dX13_agree_0 rfl ?_
  refine J_iload 4 dX13_agree_1 rfl ?_
  refine J_icmp_ne (tgt := 8) dX13_agree_3 (by decide) (fun c29 => ?_) (fun c29 => ?_)
  · have h := (if_neg c29).symm.trans h
    refine J_aload_n 0 dX13_agree_8 rfl ?_
    refine M_getR gf_X13_106_12 dX13_agree_9 (g_324_44 _) k_324 n_324 ?_
    refine J_iload_n 1 dX13_agree_12 rfl ?_
    obtain ⟨g30, h⟩ := gd_inv h
    refine M_iald dX13_agree_13 a_354 n_354 g30 ?_
    refine J_aload_n 0 dX13_agree_14 rfl ?_
    refine M_getR gf_X13_106_12 dX13_agree_15 (g_324_44 _) k_324 n_324 ?_
    refine J_iload_n 3 dX13_agree_18 rfl ?_
    obtain ⟨g31, h⟩ := gd_inv h
    refine M_iald dX13_agree_19 a_354 n_354 g31 ?_
    refine J_icmp_ne (tgt := 35) dX13_agree_20 (by decide) (fun c32 => ?_) (fun c32 => ?_)
    · have h := (if_neg c32).symm.trans h
      exact t_X13_agree_35  _ _ _ _ _ _  h
    · have h := (if_pos c32).symm.trans h
      refine J_iload_n 2 dX13_agree_23 rfl ?_
      refine J_iconst (v := 5) dX13_agree_24 (by decide) ?_
      refine J_idiv dX13_agree_25 (by decide) ?_
      refine J_iload 4 dX13_agree_26 rfl ?_
      refine J_iconst (v := 5) dX13_agree_28 (by decide) ?_
      refine J_idiv dX13_agree_29 (by decide) ?_
      refine J_icmp_eq (tgt := 35) dX13_agree_30 (by decide) (fun c33 => ?_) (fun c33 => ?_)
      · have h := (if_pos c33).symm.trans h
        exact t_X13_agree_35  _ _ _ _ _ _  h
      · have h := (if_neg c33).symm.trans h
        refine J_iconst (v := 0) dX13_agree_33 (by decide) ?_
        exact J_ret (v := some (.int 0)) rfl ⟨dX13_agree_34, Or.inr (Or.inl ⟨rfl, Or.inl rfl⟩)⟩ (jqI_mk h)
  · have h := (if_pos c29).symm.trans h
    refine J_iconst (v := 0) dX13_agree_6 (by decide) ?_
    exact J_ret (v := some (.int 0)) rfl ⟨dX13_agree_7, Or.inr (Or.inl ⟨rfl, Or.inl rfl⟩)⟩ (jqI_mk h)
theorem dX13_nameCounts_0 : decode cX13_nameCounts 0 = .ok (.aload_n 0, 1) := by decide +kernel
theorem dX13_nameCounts_1 : decode cX13_nameCounts 1 = .ok (.getfield 130, 3) := by decide +kernel
theorem dX13_nameCounts_4 : decode cX13_nameCounts 4 = .ok (.iload_n 1, 1) := by decide +kernel
theorem dX13_nameCounts_5 : decode cX13_nameCounts 5 = .ok (.iaload, 1) := by decide +kernel
theorem dX13_nameCounts_6 : decode cX13_nameCounts 6 = .ok (.aload_n 0, 1) := by decide +kernel
theorem dX13_nameCounts_7 : decode cX13_nameCounts 7 = .ok (.getfield 133, 3) := by decide +kernel
theorem dX13_nameCounts_10 : decode cX13_nameCounts 10 = .ok (.iload_n 1, 1) := by decide +kernel
theorem dX13_nameCounts_11 : decode cX13_nameCounts 11 = .ok (.iaload, 1) := by decide +kernel
theorem dX13_nameCounts_12 : decode cX13_nameCounts 12 = .ok (.iload_n 2, 1) := by decide +kernel
theorem dX13_nameCounts_13 : decode cX13_nameCounts 13 = .ok (.invokestatic 177, 3) := by decide +kernel
theorem dX13_nameCounts_16 : decode cX13_nameCounts 16 = .ok (.ifCond .eq 21, 3) := by decide +kernel
theorem dX13_nameCounts_19 : decode cX13_nameCounts 19 = .ok (.aload_n 0, 1) := by decide +kernel
theorem dX13_nameCounts_20 : decode cX13_nameCounts 20 = .ok (.aload_n 0, 1) := by decide +kernel
theorem dX13_nameCounts_21 : decode cX13_nameCounts 21 = .ok (.getfield 127, 3) := by decide +kernel
theorem dX13_nameCounts_24 : decode cX13_nameCounts 24 = .ok (.iload_n 1, 1) := by decide +kernel
theorem dX13_nameCounts_25 : decode cX13_nameCounts 25 = .ok (.iaload, 1) := by decide +kernel
theorem dX13_nameCounts_26 : decode cX13_nameCounts 26 = .ok (.iload_n 2, 1) := by decide +kernel
theorem dX13_nameCounts_27 : decode cX13_nameCounts 27 = .ok (.invokevirtual 314, 3) := by decide +kernel
theorem dX13_nameCounts_30 : decode cX13_nameCounts 30 = .ok (.ifCond .eq 7, 3) := by decide +kernel
theorem dX13_nameCounts_33 : decode cX13_nameCounts 33 = .ok (.iconst 1, 1) := by decide +kernel
theorem dX13_nameCounts_34 : decode cX13_nameCounts 34 = .ok (.goto 4, 3) := by decide +kernel
theorem dX13_nameCounts_37 : decode cX13_nameCounts 37 = .ok (.iconst 0, 1) := by decide +kernel
theorem dX13_nameCounts_38 : decode cX13_nameCounts 38 = .ok (.ireturn, 1) := by decide +kernel
noncomputable def f_X13_nameCounts_38  (s0 : Int32) (σ : jM) : Option (Int32 × jM) :=
  gd (s0 = 0 ∨ s0 = 1) (some (s0, σ))
noncomputable def f_X13_nameCounts_37   (σ : jM) : Option (Int32 × jM) :=
  f_X13_nameCounts_38  0 σ
noncomputable def f_X13_nameCounts (a1 : Int32) (a2 : Int32) (σ : jM) : Option (Int32 × jM) :=
  gd (inb a1 6) (gd (inb a1 6) (bd (f_X13_counts (rI σ 362 (Int32.toNatClampNeg a1)) (rI σ 363 (Int32.toNatClampNeg a1)) a2 σ) (fun r8 σ9 => (if r8 = 0 then f_X13_nameCounts_37   σ9 else gd (inb a1 7) (bd (f_X13_tabletCounts (rI σ9 361 (Int32.toNatClampNeg a1)) a2 σ9) (fun r13 σ14 => (if r13 = 0 then f_X13_nameCounts_37   σ14 else f_X13_nameCounts_38  1 σ14)))))))
set_option maxRecDepth 20000 in
set_option maxHeartbeats 4000000 in
theorem t_X13_nameCounts_38  (s0 : Int32) (σ : jM) (r : Int32 × jM)  (h : f_X13_nameCounts_38  s0 σ = some r) : J mi_X13_nameCounts 3 0 0 (jqI r) 38 [] [.int s0] (ms σ) := by
  unfold f_X13_nameCounts_38 at h
  obtain ⟨g5, h⟩ := gd_inv h
  exact J_ret (v := some (.int s0)) rfl ⟨dX13_nameCounts_38, Or.inr (Or.inl ⟨rfl, g5⟩)⟩ (jqI_mk h)
set_option maxRecDepth 20000 in
set_option maxHeartbeats 4000000 in
theorem t_X13_nameCounts_37   (σ : jM) (r : Int32 × jM)  (h : f_X13_nameCounts_37   σ = some r) : J mi_X13_nameCounts 3 0 0 (jqI r) 37 [] [] (ms σ) := by
  unfold f_X13_nameCounts_37 at h
  refine J_iconst (v := 0) dX13_nameCounts_37 (by decide) ?_
  exact t_X13_nameCounts_38  _ _ _  h
set_option maxRecDepth 20000 in
set_option maxHeartbeats 4000000 in
theorem t_X13_nameCounts {a1 : Int32} {a2 : Int32} {σ : jM} {r : Int32 × jM}  (h : f_X13_nameCounts a1 a2 σ = some r) : J mi_X13_nameCounts 3 0 0 (jqI r) 0 [(0, .ref 324), (1, .int a1), (2, .int a2)] [] (ms σ) := by
  unfold f_X13_nameCounts at h
  refine J_aload_n 0 dX13_nameCounts_0 rfl ?_
  refine M_getR gf_X13_130_12 dX13_nameCounts_1 (g_324_59 _) k_324 n_324 ?_
  refine J_iload_n 1 dX13_nameCounts_4 rfl ?_
  obtain ⟨g6, h⟩ := gd_inv h
  refine M_iald dX13_nameCounts_5 a_362 n_362 g6 ?_
  refine J_aload_n 0 dX13_nameCounts_6 rfl ?_
  refine M_getR gf_X13_133_12 dX13_nameCounts_7 (g_324_60 _) k_324 n_324 ?_
  refine J_iload_n 1 dX13_nameCounts_10 rfl ?_
  obtain ⟨g7, h⟩ := gd_inv h
  refine M_iald dX13_nameCounts_11 a_363 n_363 g7 ?_
  refine J_iload_n 2 dX13_nameCounts_12 rfl ?_
  obtain ⟨r8, σ9, h10, h⟩ := bd_inv h
  refine M_callSI (d' := 1) (As := [.int (rI σ 362 (Int32.toNatClampNeg a1)), .int (rI σ 363 (Int32.toNatClampNeg a1)), .int a2]) (st := []) cs_X13_177 dX13_nameCounts_13 rfl (Nat.le_of_ble_eq_true rfl) (Nat.le_of_ble_eq_true rfl) (by decide) rfl rfl (t_X13_counts  h10) ?_
  refine J_if_eq (tgt := 37) dX13_nameCounts_16 (by decide) (fun c11 => ?_) (fun c11 => ?_)
  · have h := (if_pos c11).symm.trans h
    refine J_pick [] rfl ?_
    exact t_X13_nameCounts_37   _ _  h
  · have h := (if_neg c11).symm.trans h
    refine J_aload_n 0 dX13_nameCounts_19 rfl ?_
    refine J_aload_n 0 dX13_nameCounts_20 rfl ?_
    refine M_getR gf_X13_127_12 dX13_nameCounts_21 (g_324_58 _) k_324 n_324 ?_
    refine J_iload_n 1 dX13_nameCounts_24 rfl ?_
    obtain ⟨g12, h⟩ := gd_inv h
    refine M_iald dX13_nameCounts_25 a_361 n_361 g12 ?_
    refine J_iload_n 2 dX13_nameCounts_26 rfl ?_
    obtain ⟨r13, σ14, h15, h⟩ := bd_inv h
    refine M_callVI (d' := 2) (k := 324) (As := [.int (rI σ9 361 (Int32.toNatClampNeg a1)), .int a2]) (st := []) cv_X13_314 dX13_nameCounts_27 rfl (by decide) rfl (Nat.le_of_ble_eq_true rfl) (Nat.le_of_ble_eq_true rfl) (by decide) n_324 k_324 rfl rfl (t_X13_tabletCounts  h15) ?_
    refine J_if_eq (tgt := 37) dX13_nameCounts_30 (by decide) (fun c16 => ?_) (fun c16 => ?_)
    · have h := (if_pos c16).symm.trans h
      refine J_pick [] rfl ?_
      exact t_X13_nameCounts_37   _ _  h
    · have h := (if_neg c16).symm.trans h
      refine J_iconst (v := 1) dX13_nameCounts_33 (by decide) ?_
      refine J_goto (tgt := 38) dX13_nameCounts_34 (by decide) ?_
      refine J_pick [] rfl ?_
      exact t_X13_nameCounts_38  _ _ _  h
theorem dX13_forcedOf_0 : decode cX13_forcedOf 0 = .ok (.iconst (-1), 1) := by decide +kernel
theorem dX13_forcedOf_1 : decode cX13_forcedOf 1 = .ok (.istore_n 2, 1) := by decide +kernel
theorem dX13_forcedOf_2 : decode cX13_forcedOf 2 = .ok (.iconst 0, 1) := by decide +kernel
theorem dX13_forcedOf_3 : decode cX13_forcedOf 3 = .ok (.istore_n 3, 1) := by decide +kernel
theorem dX13_forcedOf_4 : decode cX13_forcedOf 4 = .ok (.iload_n 3, 1) := by decide +kernel
theorem dX13_forcedOf_5 : decode cX13_forcedOf 5 = .ok (.sipush 135, 3) := by decide +kernel
theorem dX13_forcedOf_8 : decode cX13_forcedOf 8 = .ok (.if_icmp .ge 37, 3) := by decide +kernel
theorem dX13_forcedOf_11 : decode cX13_forcedOf 11 = .ok (.aload_n 0, 1) := by decide +kernel
theorem dX13_forcedOf_12 : decode cX13_forcedOf 12 = .ok (.getfield 411, 3) := by decide +kernel
theorem dX13_forcedOf_15 : decode cX13_forcedOf 15 = .ok (.ifCond .le 30, 3) := by decide +kernel
theorem dX13_forcedOf_18 : decode cX13_forcedOf 18 = .ok (.aload_n 0, 1) := by decide +kernel
theorem dX13_forcedOf_19 : decode cX13_forcedOf 19 = .ok (.getfield 160, 3) := by decide +kernel
theorem dX13_forcedOf_22 : decode cX13_forcedOf 22 = .ok (.sipush 136, 3) := by decide +kernel
theorem dX13_forcedOf_25 : decode cX13_forcedOf 25 = .ok (.iload_n 1, 1) := by decide +kernel
theorem dX13_forcedOf_26 : decode cX13_forcedOf 26 = .ok (.imul, 1) := by decide +kernel
theorem dX13_forcedOf_27 : decode cX13_forcedOf 27 = .ok (.iload_n 3, 1) := by decide +kernel
theorem dX13_forcedOf_28 : decode cX13_forcedOf 28 = .ok (.iadd, 1) := by decide +kernel
theorem dX13_forcedOf_29 : decode cX13_forcedOf 29 = .ok (.iaload, 1) := by decide +kernel
theorem dX13_forcedOf_30 : decode cX13_forcedOf 30 = .ok (.aload_n 0, 1) := by decide +kernel
theorem dX13_forcedOf_31 : decode cX13_forcedOf 31 = .ok (.getfield 411, 3) := by decide +kernel
theorem dX13_forcedOf_34 : decode cX13_forcedOf 34 = .ok (.if_icmp .ne 5, 3) := by decide +kernel
theorem dX13_forcedOf_37 : decode cX13_forcedOf 37 = .ok (.iload_n 3, 1) := by decide +kernel
theorem dX13_forcedOf_38 : decode cX13_forcedOf 38 = .ok (.istore_n 2, 1) := by decide +kernel
theorem dX13_forcedOf_39 : decode cX13_forcedOf 39 = .ok (.iinc 3 1, 3) := by decide +kernel
theorem dX13_forcedOf_42 : decode cX13_forcedOf 42 = .ok (.goto (-38), 3) := by decide +kernel
theorem dX13_forcedOf_45 : decode cX13_forcedOf 45 = .ok (.iload_n 2, 1) := by decide +kernel
theorem dX13_forcedOf_46 : decode cX13_forcedOf 46 = .ok (.ireturn, 1) := by decide +kernel
noncomputable def f_X13_forcedOf_45  (l2 : Int32) (σ : jM) : Option (Int32 × jM) :=
  some (l2, σ)
noncomputable def f_X13_forcedOf_39 (rec4 : Int32 → Int32 → Int32 → jM → Option (Int32 × jM)) (l1 : Int32) (l2 : Int32) (l3 : Int32) (σ : jM) : Option (Int32 × jM) :=
  rec4 l1 l2 (l3 + 1) σ
noncomputable def s_X13_forcedOf_4  (rec4 : Int32 → Int32 → Int32 → jM → Option (Int32 × jM)) (l1 : Int32) (l2 : Int32) (l3 : Int32) (σ : jM) : Option (Int32 × jM) :=
  (if 135 ≤ l3 then f_X13_forcedOf_45  l2 σ else (if (rI σ 324 68) ≤ 0 then f_X13_forcedOf_45  l2 σ else gd (inb ((136 * l1) + l3) 5440) ((if (rI σ 372 (Int32.toNatClampNeg ((136 * l1) + l3))) = (rI σ 324 68) then f_X13_forcedOf_39 rec4 l1 l3 l3 σ else f_X13_forcedOf_39 rec4 l1 l2 l3 σ))))
noncomputable def f_X13_forcedOf_4  (n : Nat) : Int32 → Int32 → Int32 → jM → Option (Int32 × jM) := Nat.rec (motive := fun _ => Int32 → Int32 → Int32 → jM → Option (Int32 × jM)) (fun _ _ _ _ => none) (fun _ q => s_X13_forcedOf_4  q) n
noncomputable def f_X13_forcedOf (a1 : Int32) (σ : jM) : Option (Int32 × jM) :=
  f_X13_forcedOf_4  Fu a1 (-1) 0 σ
set_option maxRecDepth 20000 in
set_option maxHeartbeats 4000000 in
theorem t_X13_forcedOf_45  (l2 : Int32) (σ : jM) (r : Int32 × jM)  (h : f_X13_forcedOf_45  l2 σ = some r) : J mi_X13_forcedOf 1 0 0 (jqI r) 45 [(2, .int l2)] [] (ms σ) := by
  unfold f_X13_forcedOf_45 at h
  refine J_iload_n 0 dX13_forcedOf_45 rfl ?_
  exact J_ret (v := some (.int l2)) rfl ⟨dX13_forcedOf_46, Or.inl rfl⟩ (jqI_mk h)
set_option maxRecDepth 20000 in
set_option maxHeartbeats 4000000 in
theorem t_X13_forcedOf_39 {rec4 : Int32 → Int32 → Int32 → jM → Option (Int32 × jM)} (hrec4 : ∀ (l1 : Int32) (l2 : Int32) (l3 : Int32) (σ : jM) (r : Int32 × jM), rec4 l1 l2 l3 σ = some r → J mi_X13_forcedOf 1 0 0 (jqI r) 4 [(0, .ref 324), (1, .int l1), (2, .int l2), (3, .int l3)] [] (ms σ)) (l1 : Int32) (l2 : Int32) (l3 : Int32) (σ : jM) (r : Int32 × jM)  (h : f_X13_forcedOf_39 rec4 l1 l2 l3 σ = some r) : J mi_X13_forcedOf 1 0 0 (jqI r) 39 [(0, .ref 324), (1, .int l1), (2, .int l2), (3, .int l3)] [] (ms σ) := by
  unfold f_X13_forcedOf_39 at h
  refine J_iinc (v := (l3 + 1)) (ls' := [(3, .int (l3 + 1)), (0, .ref 324), (1, .int l1), (2, .int l2)]) 3 dX13_forcedOf_39 rfl rfl (by decide) rfl ?_
  refine J_goto (tgt := 4) dX13_forcedOf_42 (by decide) ?_
  refine J_pick [1, 2, 3, 0] rfl ?_
  exact hrec4 _ _ _ _ _  h
set_option maxRecDepth 20000 in
set_option maxHeartbeats 4000000 in
theorem t_X13_forcedOf_4  : ∀ (n : Nat) (l1 : Int32) (l2 : Int32) (l3 : Int32) (σ : jM) (r : Int32 × jM), f_X13_forcedOf_4  n l1 l2 l3 σ = some r → J mi_X13_forcedOf 1 0 0 (jqI r) 4 [(0, .ref 324), (1, .int l1), (2, .int l2), (3, .int l3)] [] (ms σ) := by
  intro n
  induction n with
  | zero =>
    intro l1 l2 l3 σ r  h
    have h : (none : Option (Int32 × jM)) = some r := h
    cases h
  | succ n ih =>
    intro l1 l2 l3 σ r  h
    have h : s_X13_forcedOf_4  (f_X13_forcedOf_4  n) l1 l2 l3 σ = some r := h
    unfold s_X13_forcedOf_4 at h
    refine J_iload_n 3 dX13_forcedOf_4 rfl ?_
    refine J_sipush (v := 135) dX13_forcedOf_5 (by decide) ?_
    refine J_icmp_ge (tgt := 45) dX13_forcedOf_8 (by decide) (fun c6 => ?_) (fun c6 => ?_)
    · have h := (if_pos c6).symm.trans h
      refine J_pick [2] rfl ?_
      exact t_X13_forcedOf_45  _ _ _  h
    · have h := (if_neg c6).symm.trans h
      refine J_aload_n 0 dX13_forcedOf_11 rfl ?_
      refine M_getI gf_X13_411_12 dX13_forcedOf_12 k_324 n_324 ?_
      refine J_if_le (tgt := 45) dX13_forcedOf_15 (by decide) (fun c7 => ?_) (fun c7 => ?_)
      · have h := (if_pos c7).symm.trans h
        refine J_pick [2] rfl ?_
        exact t_X13_forcedOf_45  _ _ _  h
      · have h := (if_neg c7).symm.trans h
        refine J_aload_n 0 dX13_forcedOf_18 rfl ?_
        refine M_getR gf_X13_160_12 dX13_forcedOf_19 (g_324_72 _) k_324 n_324 ?_
        refine J_sipush (v := 136) dX13_forcedOf_22 (by decide) ?_
        refine J_iload_n 1 dX13_forcedOf_25 rfl ?_
        refine J_imul dX13_forcedOf_26 ?_
        refine J_iload_n 3 dX13_forcedOf_27 rfl ?_
        refine J_iadd dX13_forcedOf_28 ?_
        obtain ⟨g8, h⟩ := gd_inv h
        refine M_iald dX13_forcedOf_29 a_372 n_372 g8 ?_
        refine J_aload_n 0 dX13_forcedOf_30 rfl ?_
        refine M_getI gf_X13_411_12 dX13_forcedOf_31 k_324 n_324 ?_
        refine J_icmp_ne (tgt := 39) dX13_forcedOf_34 (by decide) (fun c9 => ?_) (fun c9 => ?_)
        · have h := (if_neg c9).symm.trans h
          exact t_X13_forcedOf_39 ih _ _ _ _ _  h
        · have h := (if_pos c9).symm.trans h
          refine J_iload_n 3 dX13_forcedOf_37 rfl ?_
          refine J_istore_n (i := 2) (ls' := [(2, .int l3), (0, .ref 324), (1, .int l1), (3, .int l3)]) dX13_forcedOf_38 rfl (by decide) rfl ?_
          refine J_pick [1, 2, 0, 3] rfl ?_
          exact t_X13_forcedOf_39 ih _ _ _ _ _  h
set_option maxRecDepth 20000 in
set_option maxHeartbeats 4000000 in
theorem t_X13_forcedOf {a1 : Int32} {σ : jM} {r : Int32 × jM}  (h : f_X13_forcedOf a1 σ = some r) : J mi_X13_forcedOf 1 0 0 (jqI r) 0 [(0, .ref 324), (1, .int a1)] [] (ms σ) := by
  unfold f_X13_forcedOf at h
  refine J_iconst (v := (-1)) dX13_forcedOf_0 (by decide) ?_
  refine J_istore_n (i := 2) (ls' := [(2, .int (-1)), (0, .ref 324), (1, .int a1)]) dX13_forcedOf_1 rfl (by decide) rfl ?_
  refine J_iconst (v := 0) dX13_forcedOf_2 (by decide) ?_
  refine J_istore_n (i := 3) (ls' := [(3, .int 0), (2, .int (-1)), (0, .ref 324), (1, .int a1)]) dX13_forcedOf_3 rfl (by decide) rfl ?_
  refine J_pick [2, 3, 1, 0] rfl ?_
  exact t_X13_forcedOf_4  _ _ _ _ _ _  h
theorem dX13_vowelLetter_0 : decode cX13_vowelLetter 0 = .ok (.iload_n 0, 1) := by decide +kernel
theorem dX13_vowelLetter_1 : decode cX13_vowelLetter 1 = .ok (.ifCond .ne 8, 3) := by decide +kernel
theorem dX13_vowelLetter_4 : decode cX13_vowelLetter 4 = .ok (.bipush 97, 2) := by decide +kernel
theorem dX13_vowelLetter_6 : decode cX13_vowelLetter 6 = .ok (.goto 35, 3) := by decide +kernel
theorem dX13_vowelLetter_9 : decode cX13_vowelLetter 9 = .ok (.iload_n 0, 1) := by decide +kernel
theorem dX13_vowelLetter_10 : decode cX13_vowelLetter 10 = .ok (.iconst 1, 1) := by decide +kernel
theorem dX13_vowelLetter_11 : decode cX13_vowelLetter 11 = .ok (.if_icmp .ne 8, 3) := by decide +kernel
theorem dX13_vowelLetter_14 : decode cX13_vowelLetter 14 = .ok (.bipush 101, 2) := by decide +kernel
theorem dX13_vowelLetter_16 : decode cX13_vowelLetter 16 = .ok (.goto 25, 3) := by decide +kernel
theorem dX13_vowelLetter_19 : decode cX13_vowelLetter 19 = .ok (.iload_n 0, 1) := by decide +kernel
theorem dX13_vowelLetter_20 : decode cX13_vowelLetter 20 = .ok (.iconst 2, 1) := by decide +kernel
theorem dX13_vowelLetter_21 : decode cX13_vowelLetter 21 = .ok (.if_icmp .ne 8, 3) := by decide +kernel
theorem dX13_vowelLetter_24 : decode cX13_vowelLetter 24 = .ok (.bipush 105, 2) := by decide +kernel
theorem dX13_vowelLetter_26 : decode cX13_vowelLetter 26 = .ok (.goto 15, 3) := by decide +kernel
theorem dX13_vowelLetter_29 : decode cX13_vowelLetter 29 = .ok (.iload_n 0, 1) := by decide +kernel
theorem dX13_vowelLetter_30 : decode cX13_vowelLetter 30 = .ok (.iconst 3, 1) := by decide +kernel
theorem dX13_vowelLetter_31 : decode cX13_vowelLetter 31 = .ok (.if_icmp .ne 8, 3) := by decide +kernel
theorem dX13_vowelLetter_34 : decode cX13_vowelLetter 34 = .ok (.bipush 111, 2) := by decide +kernel
theorem dX13_vowelLetter_36 : decode cX13_vowelLetter 36 = .ok (.goto 5, 3) := by decide +kernel
theorem dX13_vowelLetter_39 : decode cX13_vowelLetter 39 = .ok (.bipush 117, 2) := by decide +kernel
theorem dX13_vowelLetter_41 : decode cX13_vowelLetter 41 = .ok (.ireturn, 1) := by decide +kernel
noncomputable def f_X13_vowelLetter_41  (s0 : Int32) (σ : jM) : Option (Int32 × jM) :=
  some (s0, σ)
noncomputable def f_X13_vowelLetter (a0 : Int32) (σ : jM) : Option (Int32 × jM) :=
  (if a0 = 0 then f_X13_vowelLetter_41  97 σ else (if a0 = 1 then f_X13_vowelLetter_41  101 σ else (if a0 = 2 then f_X13_vowelLetter_41  105 σ else (if a0 = 3 then f_X13_vowelLetter_41  111 σ else f_X13_vowelLetter_41  117 σ))))
set_option maxRecDepth 20000 in
set_option maxHeartbeats 4000000 in
theorem t_X13_vowelLetter_41  (s0 : Int32) (σ : jM) (r : Int32 × jM)  (h : f_X13_vowelLetter_41  s0 σ = some r) : J mi_X13_vowelLetter 1 0 0 (jqI r) 41 [] [.int s0] (ms σ) := by
  unfold f_X13_vowelLetter_41 at h
  exact J_ret (v := some (.int s0)) rfl ⟨dX13_vowelLetter_41, Or.inl rfl⟩ (jqI_mk h)
set_option maxRecDepth 20000 in
set_option maxHeartbeats 4000000 in
theorem t_X13_vowelLetter {a0 : Int32} {σ : jM} {r : Int32 × jM}  (h : f_X13_vowelLetter a0 σ = some r) : J mi_X13_vowelLetter 1 0 0 (jqI r) 0 [(0, .int a0)] [] (ms σ) := by
  unfold f_X13_vowelLetter at h
  refine J_iload_n 0 dX13_vowelLetter_0 rfl ?_
  refine J_if_ne (tgt := 9) dX13_vowelLetter_1 (by decide) (fun c1 => ?_) (fun c1 => ?_)
  · have h := (if_neg c1).symm.trans h
    refine J_iload_n 0 dX13_vowelLetter_9 rfl ?_
    refine J_iconst (v := 1) dX13_vowelLetter_10 (by decide) ?_
    refine J_icmp_ne (tgt := 19) dX13_vowelLetter_11 (by decide) (fun c2 => ?_) (fun c2 => ?_)
    · have h := (if_neg c2).symm.trans h
      refine J_iload_n 0 dX13_vowelLetter_19 rfl ?_
      refine J_iconst (v := 2) dX13_vowelLetter_20 (by decide) ?_
      refine J_icmp_ne (tgt := 29) dX13_vowelLetter_21 (by decide) (fun c3 => ?_) (fun c3 => ?_)
      · have h := (if_neg c3).symm.trans h
        refine J_iload_n 0 dX13_vowelLetter_29 rfl ?_
        refine J_iconst (v := 3) dX13_vowelLetter_30 (by decide) ?_
        refine J_icmp_ne (tgt := 39) dX13_vowelLetter_31 (by decide) (fun c4 => ?_) (fun c4 => ?_)
        · have h := (if_neg c4).symm.trans h
          refine J_bipush (v := 117) dX13_vowelLetter_39 (by decide) ?_
          refine J_pick [] rfl ?_
          exact t_X13_vowelLetter_41  _ _ _  h
        · have h := (if_pos c4).symm.trans h
          refine J_bipush (v := 111) dX13_vowelLetter_34 (by decide) ?_
          refine J_goto (tgt := 41) dX13_vowelLetter_36 (by decide) ?_
          refine J_pick [] rfl ?_
          exact t_X13_vowelLetter_41  _ _ _  h
      · have h := (if_pos c3).symm.trans h
        refine J_bipush (v := 105) dX13_vowelLetter_24 (by decide) ?_
        refine J_goto (tgt := 41) dX13_vowelLetter_26 (by decide) ?_
        refine J_pick [] rfl ?_
        exact t_X13_vowelLetter_41  _ _ _  h
    · have h := (if_pos c2).symm.trans h
      refine J_bipush (v := 101) dX13_vowelLetter_14 (by decide) ?_
      refine J_goto (tgt := 41) dX13_vowelLetter_16 (by decide) ?_
      refine J_pick [] rfl ?_
      exact t_X13_vowelLetter_41  _ _ _  h
  · have h := (if_pos c1).symm.trans h
    refine J_bipush (v := 97) dX13_vowelLetter_4 (by decide) ?_
    refine J_goto (tgt := 41) dX13_vowelLetter_6 (by decide) ?_
    refine J_pick [] rfl ?_
    exact t_X13_vowelLetter_41  _ _ _  h
theorem dX13_letter_0 : decode cX13_letter 0 = .ok (.aload_n 0, 1) := by decide +kernel
theorem dX13_letter_1 : decode cX13_letter 1 = .ok (.iconst 0, 1) := by decide +kernel
theorem dX13_letter_2 : decode cX13_letter 2 = .ok (.putfield 1, 3) := by decide +kernel
theorem dX13_letter_5 : decode cX13_letter 5 = .ok (.iload_n 1, 1) := by decide +kernel
theorem dX13_letter_6 : decode cX13_letter 6 = .ok (.iconst 0, 1) := by decide +kernel
theorem dX13_letter_7 : decode cX13_letter 7 = .ok (.aload_n 0, 1) := by decide +kernel
theorem dX13_letter_8 : decode cX13_letter 8 = .ok (.getfield 447, 3) := by decide +kernel
theorem dX13_letter_11 : decode cX13_letter 11 = .ok (.iconst 1, 1) := by decide +kernel
theorem dX13_letter_12 : decode cX13_letter 12 = .ok (.isub, 1) := by decide +kernel
theorem dX13_letter_13 : decode cX13_letter 13 = .ok (.invokestatic 169, 3) := by decide +kernel
theorem dX13_letter_16 : decode cX13_letter 16 = .ok (.ifCond .eq 12, 3) := by decide +kernel
theorem dX13_letter_19 : decode cX13_letter 19 = .ok (.aload_n 0, 1) := by decide +kernel
theorem dX13_letter_20 : decode cX13_letter 20 = .ok (.getfield 166, 3) := by decide +kernel
theorem dX13_letter_23 : decode cX13_letter 23 = .ok (.iload_n 1, 1) := by decide +kernel
theorem dX13_letter_24 : decode cX13_letter 24 = .ok (.iaload, 1) := by decide +kernel
theorem dX13_letter_25 : decode cX13_letter 25 = .ok (.goto 4, 3) := by decide +kernel
theorem dX13_letter_28 : decode cX13_letter 28 = .ok (.iconst (-1), 1) := by decide +kernel
theorem dX13_letter_29 : decode cX13_letter 29 = .ok (.ireturn, 1) := by decide +kernel
noncomputable def f_X13_letter_29  (s0 : Int32) (σ : jM) : Option (Int32 × jM) :=
  some (s0, σ)
noncomputable def f_X13_letter (a1 : Int32) (σ : jM) : Option (Int32 × jM) :=
  bd (f_X13_within a1 0 ((rI (wI σ 324 0 0) 324 75) - 1) (wI σ 324 0 0)) (fun r2 σ3 => (if r2 = 0 then f_X13_letter_29  (-1) σ3 else gd (inb a1 12) (f_X13_letter_29  (rI σ3 374 (Int32.toNatClampNeg a1)) σ3)))
set_option maxRecDepth 20000 in
set_option maxHeartbeats 4000000 in
theorem t_X13_letter_29  (s0 : Int32) (σ : jM) (r : Int32 × jM)  (h : f_X13_letter_29  s0 σ = some r) : J mi_X13_letter 2 0 0 (jqI r) 29 [] [.int s0] (ms σ) := by
  unfold f_X13_letter_29 at h
  exact J_ret (v := some (.int s0)) rfl ⟨dX13_letter_29, Or.inl rfl⟩ (jqI_mk h)
set_option maxRecDepth 20000 in
set_option maxHeartbeats 4000000 in
theorem t_X13_letter {a1 : Int32} {σ : jM} {r : Int32 × jM}  (h : f_X13_letter a1 σ = some r) : J mi_X13_letter 2 0 0 (jqI r) 0 [(0, .ref 324), (1, .int a1)] [] (ms σ) := by
  unfold f_X13_letter at h
  refine J_aload_n 0 dX13_letter_0 rfl ?_
  refine J_iconst (v := 0) dX13_letter_1 (by decide) ?_
  refine M_putI pf_X13_1_12 dX13_letter_2 k_324 n_324 ⟨rfl, rfl⟩ ?_
  refine J_iload_n 1 dX13_letter_5 rfl ?_
  refine J_iconst (v := 0) dX13_letter_6 (by decide) ?_
  refine J_aload_n 0 dX13_letter_7 rfl ?_
  refine M_getI gf_X13_447_12 dX13_letter_8 k_324 n_324 ?_
  refine J_iconst (v := 1) dX13_letter_11 (by decide) ?_
  refine J_isub dX13_letter_12 ?_
  obtain ⟨r2, σ3, h4, h⟩ := bd_inv h
  refine M_callSI (d' := 1) (As := [.int a1, .int 0, .int ((rI (wI σ 324 0 0) 324 75) - 1)]) (st := []) cs_X13_169 dX13_letter_13 rfl (Nat.le_of_ble_eq_true rfl) (Nat.le_of_ble_eq_true rfl) (by decide) rfl rfl (t_X13_within  h4) ?_
  refine J_if_eq (tgt := 28) dX13_letter_16 (by decide) (fun c5 => ?_) (fun c5 => ?_)
  · have h := (if_pos c5).symm.trans h
    refine J_iconst (v := (-1)) dX13_letter_28 (by decide) ?_
    refine J_pick [] rfl ?_
    exact t_X13_letter_29  _ _ _  h
  · have h := (if_neg c5).symm.trans h
    refine J_aload_n 0 dX13_letter_19 rfl ?_
    refine M_getR gf_X13_166_12 dX13_letter_20 (g_324_74 _) k_324 n_324 ?_
    refine J_iload_n 1 dX13_letter_23 rfl ?_
    obtain ⟨g6, h⟩ := gd_inv h
    refine M_iald dX13_letter_24 a_374 n_374 g6 ?_
    refine J_goto (tgt := 29) dX13_letter_25 (by decide) ?_
    refine J_pick [] rfl ?_
    exact t_X13_letter_29  _ _ _  h
theorem dX13_bits_0 : decode cX13_bits 0 = .ok (.iconst 0, 1) := by decide +kernel
theorem dX13_bits_1 : decode cX13_bits 1 = .ok (.istore_n 1, 1) := by decide +kernel
theorem dX13_bits_2 : decode cX13_bits 2 = .ok (.iconst 0, 1) := by decide +kernel
theorem dX13_bits_3 : decode cX13_bits 3 = .ok (.istore_n 2, 1) := by decide +kernel
theorem dX13_bits_4 : decode cX13_bits 4 = .ok (.iload_n 2, 1) := by decide +kernel
theorem dX13_bits_5 : decode cX13_bits 5 = .ok (.bipush 6, 2) := by decide +kernel
theorem dX13_bits_7 : decode cX13_bits 7 = .ok (.if_icmp .ge 17, 3) := by decide +kernel
theorem dX13_bits_10 : decode cX13_bits 10 = .ok (.iload_n 1, 1) := by decide +kernel
theorem dX13_bits_11 : decode cX13_bits 11 = .ok (.iload_n 0, 1) := by decide +kernel
theorem dX13_bits_12 : decode cX13_bits 12 = .ok (.iload_n 2, 1) := by decide +kernel
theorem dX13_bits_13 : decode cX13_bits 13 = .ok (.ishr, 1) := by decide +kernel
theorem dX13_bits_14 : decode cX13_bits 14 = .ok (.iconst 1, 1) := by decide +kernel
theorem dX13_bits_15 : decode cX13_bits 15 = .ok (.iand, 1) := by decide +kernel
theorem dX13_bits_16 : decode cX13_bits 16 = .ok (.iadd, 1) := by decide +kernel
theorem dX13_bits_17 : decode cX13_bits 17 = .ok (.istore_n 1, 1) := by decide +kernel
theorem dX13_bits_18 : decode cX13_bits 18 = .ok (.iinc 2 1, 3) := by decide +kernel
theorem dX13_bits_21 : decode cX13_bits 21 = .ok (.goto (-17), 3) := by decide +kernel
theorem dX13_bits_24 : decode cX13_bits 24 = .ok (.iload_n 1, 1) := by decide +kernel
theorem dX13_bits_25 : decode cX13_bits 25 = .ok (.ireturn, 1) := by decide +kernel
noncomputable def s_X13_bits_4  (rec4 : Int32 → Int32 → Int32 → jM → Option (Int32 × jM)) (l0 : Int32) (l1 : Int32) (l2 : Int32) (σ : jM) : Option (Int32 × jM) :=
  (if 6 ≤ l2 then some (l1, σ) else rec4 l0 (l1 + ((l0 >>> (l2 &&& 31)) &&& 1)) (l2 + 1) σ)
noncomputable def f_X13_bits_4  (n : Nat) : Int32 → Int32 → Int32 → jM → Option (Int32 × jM) := Nat.rec (motive := fun _ => Int32 → Int32 → Int32 → jM → Option (Int32 × jM)) (fun _ _ _ _ => none) (fun _ q => s_X13_bits_4  q) n
noncomputable def f_X13_bits (a0 : Int32) (σ : jM) : Option (Int32 × jM) :=
  f_X13_bits_4  Fu a0 0 0 σ
set_option maxRecDepth 20000 in
set_option maxHeartbeats 4000000 in
theorem t_X13_bits_4  : ∀ (n : Nat) (l0 : Int32) (l1 : Int32) (l2 : Int32) (σ : jM) (r : Int32 × jM), f_X13_bits_4  n l0 l1 l2 σ = some r → J mi_X13_bits 1 0 0 (jqI r) 4 [(0, .int l0), (1, .int l1), (2, .int l2)] [] (ms σ) := by
  intro n
  induction n with
  | zero =>
    intro l0 l1 l2 σ r  h
    have h : (none : Option (Int32 × jM)) = some r := h
    cases h
  | succ n ih =>
    intro l0 l1 l2 σ r  h
    have h : s_X13_bits_4  (f_X13_bits_4  n) l0 l1 l2 σ = some r := h
    unfold s_X13_bits_4 at h
    refine J_iload_n 2 dX13_bits_4 rfl ?_
    refine J_bipush (v := 6) dX13_bits_5 (by decide) ?_
    refine J_icmp_ge (tgt := 24) dX13_bits_7 (by decide) (fun c2 => ?_) (fun c2 => ?_)
    · have h := (if_pos c2).symm.trans h
      refine J_iload_n 1 dX13_bits_24 rfl ?_
      exact J_ret (v := some (.int l1)) rfl ⟨dX13_bits_25, Or.inl rfl⟩ (jqI_mk h)
    · have h := (if_neg c2).symm.trans h
      refine J_iload_n 1 dX13_bits_10 rfl ?_
      refine J_iload_n 0 dX13_bits_11 rfl ?_
      refine J_iload_n 2 dX13_bits_12 rfl ?_
      refine J_ishr dX13_bits_13 ?_
      refine J_iconst (v := 1) dX13_bits_14 (by decide) ?_
      refine J_iand dX13_bits_15 ?_
      refine J_iadd dX13_bits_16 ?_
      refine J_istore_n (i := 1) (ls' := [(1, .int (l1 + ((l0 >>> (l2 &&& 31)) &&& 1))), (0, .int l0), (2, .int l2)]) dX13_bits_17 rfl (by decide) rfl ?_
      refine J_iinc (v := (l2 + 1)) (ls' := [(2, .int (l2 + 1)), (1, .int (l1 + ((l0 >>> (l2 &&& 31)) &&& 1))), (0, .int l0)]) 2 dX13_bits_18 rfl rfl (by decide) rfl ?_
      refine J_goto (tgt := 4) dX13_bits_21 (by decide) ?_
      refine J_pick [2, 1, 0] rfl ?_
      exact ih _ _ _ _ _  h
set_option maxRecDepth 20000 in
set_option maxHeartbeats 4000000 in
theorem t_X13_bits {a0 : Int32} {σ : jM} {r : Int32 × jM}  (h : f_X13_bits a0 σ = some r) : J mi_X13_bits 1 0 0 (jqI r) 0 [(0, .int a0)] [] (ms σ) := by
  unfold f_X13_bits at h
  refine J_iconst (v := 0) dX13_bits_0 (by decide) ?_
  refine J_istore_n (i := 1) (ls' := [(1, .int 0), (0, .int a0)]) dX13_bits_1 rfl (by decide) rfl ?_
  refine J_iconst (v := 0) dX13_bits_2 (by decide) ?_
  refine J_istore_n (i := 2) (ls' := [(2, .int 0), (1, .int 0), (0, .int a0)]) dX13_bits_3 rfl (by decide) rfl ?_
  refine J_pick [2, 1, 0] rfl ?_
  exact t_X13_bits_4  _ _ _ _ _ _  h
