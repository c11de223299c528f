theorem dX13_rules_0 : decode cX13_rules 0 = .ok (.aload_n 0, 1) := by decide +kernel
theorem dX13_rules_1 : decode cX13_rules 1 = .ok (.iconst 0, 1) := by decide +kernel
theorem dX13_rules_2 : decode cX13_rules 2 = .ok (.putfield 1, 3) := by decide +kernel
theorem dX13_rules_5 : decode cX13_rules 5 = .ok (.aload_n 0, 1) := by decide +kernel
theorem dX13_rules_6 : decode cX13_rules 6 = .ok (.getfield 282, 3) := by decide +kernel
theorem dX13_rules_9 : decode cX13_rules 9 = .ok (.bipush 10, 2) := by decide +kernel
theorem dX13_rules_11 : decode cX13_rules 11 = .ok (.if_icmp .ne 5, 3) := by decide +kernel
theorem dX13_rules_14 : decode cX13_rules 14 = .ok (.iconst (-1), 1) := by decide +kernel
theorem dX13_rules_15 : decode cX13_rules 15 = .ok (.ireturn, 1) := by decide +kernel
theorem dX13_rules_16 : decode cX13_rules 16 = .ok (.aload_n 0, 1) := by decide +kernel
theorem dX13_rules_17 : decode cX13_rules 17 = .ok (.invokevirtual 246, 3) := by decide +kernel
theorem dX13_rules_20 : decode cX13_rules 20 = .ok (.aload_n 0, 1) := by decide +kernel
theorem dX13_rules_21 : decode cX13_rules 21 = .ok (.getfield 32, 3) := by decide +kernel
theorem dX13_rules_24 : decode cX13_rules 24 = .ok (.bipush 10, 2) := by decide +kernel
theorem dX13_rules_26 : decode cX13_rules 26 = .ok (.iconst 0, 1) := by decide +kernel
theorem dX13_rules_27 : decode cX13_rules 27 = .ok (.iastore, 1) := by decide +kernel
theorem dX13_rules_28 : decode cX13_rules 28 = .ok (.aload_n 0, 1) := by decide +kernel
theorem dX13_rules_29 : decode cX13_rules 29 = .ok (.invokevirtual 222, 3) := by decide +kernel
theorem dX13_rules_32 : decode cX13_rules 32 = .ok (.ifCond .eq 17, 3) := by decide +kernel
theorem dX13_rules_35 : decode cX13_rules 35 = .ok (.aload_n 0, 1) := by decide +kernel
theorem dX13_rules_36 : decode cX13_rules 36 = .ok (.getfield 189, 3) := by decide +kernel
theorem dX13_rules_39 : decode cX13_rules 39 = .ok (.ifCond .eq 10, 3) := by decide +kernel
theorem dX13_rules_42 : decode cX13_rules 42 = .ok (.aload_n 0, 1) := by decide +kernel
theorem dX13_rules_43 : decode cX13_rules 43 = .ok (.invokevirtual 285, 3) := by decide +kernel
theorem dX13_rules_46 : decode cX13_rules 46 = .ok (.goto (-18), 3) := by decide +kernel
theorem dX13_rules_49 : decode cX13_rules 49 = .ok (.aload_n 0, 1) := by decide +kernel
theorem dX13_rules_50 : decode cX13_rules 50 = .ok (.invokevirtual 252, 3) := by decide +kernel
theorem dX13_rules_53 : decode cX13_rules 53 = .ok (.istore_n 1, 1) := by decide +kernel
theorem dX13_rules_54 : decode cX13_rules 54 = .ok (.iload_n 1, 1) := by decide +kernel
theorem dX13_rules_55 : decode cX13_rules 55 = .ok (.ifCond .ge 5, 3) := by decide +kernel
theorem dX13_rules_58 : decode cX13_rules 58 = .ok (.iload_n 1, 1) := by decide +kernel
theorem dX13_rules_59 : decode cX13_rules 59 = .ok (.ireturn, 1) := by decide +kernel
theorem dX13_rules_60 : decode cX13_rules 60 = .ok (.aload_n 0, 1) := by decide +kernel
theorem dX13_rules_61 : decode cX13_rules 61 = .ok (.getfield 32, 3) := by decide +kernel
theorem dX13_rules_64 : decode cX13_rules 64 = .ok (.aload_n 0, 1) := by decide +kernel
theorem dX13_rules_65 : decode cX13_rules 65 = .ok (.getfield 282, 3) := by decide +kernel
theorem dX13_rules_68 : decode cX13_rules 68 = .ok (.aload_n 0, 1) := by decide +kernel
theorem dX13_rules_69 : decode cX13_rules 69 = .ok (.getfield 32, 3) := by decide +kernel
theorem dX13_rules_72 : decode cX13_rules 72 = .ok (.bipush 10, 2) := by decide +kernel
theorem dX13_rules_74 : decode cX13_rules 74 = .ok (.iaload, 1) := by decide +kernel
theorem dX13_rules_75 : decode cX13_rules 75 = .ok (.iastore, 1) := by decide +kernel
theorem dX13_rules_76 : decode cX13_rules 76 = .ok (.iconst 0, 1) := by decide +kernel
theorem dX13_rules_77 : decode cX13_rules 77 = .ok (.istore_n 2, 1) := by decide +kernel
theorem dX13_rules_78 : decode cX13_rules 78 = .ok (.iload_n 2, 1) := by decide +kernel
theorem dX13_rules_79 : decode cX13_rules 79 = .ok (.bipush 12, 2) := by decide +kernel
theorem dX13_rules_81 : decode cX13_rules 81 = .ok (.if_icmp .ge 101, 3) := by decide +kernel
theorem dX13_rules_84 : decode cX13_rules 84 = .ok (.aload_n 0, 1) := by decide +kernel
theorem dX13_rules_85 : decode cX13_rules 85 = .ok (.getfield 35, 3) := by decide +kernel
theorem dX13_rules_88 : decode cX13_rules 88 = .ok (.bipush 12, 2) := by decide +kernel
theorem dX13_rules_90 : decode cX13_rules 90 = .ok (.aload_n 0, 1) := by decide +kernel
theorem dX13_rules_91 : decode cX13_rules 91 = .ok (.getfield 282, 3) := by decide +kernel
theorem dX13_rules_94 : decode cX13_rules 94 = .ok (.imul, 1) := by decide +kernel
theorem dX13_rules_95 : decode cX13_rules 95 = .ok (.iload_n 2, 1) := by decide +kernel
theorem dX13_rules_96 : decode cX13_rules 96 = .ok (.iadd, 1) := by decide +kernel
theorem dX13_rules_97 : decode cX13_rules 97 = .ok (.aload_n 0, 1) := by decide +kernel
theorem dX13_rules_98 : decode cX13_rules 98 = .ok (.getfield 35, 3) := by decide +kernel
theorem dX13_rules_101 : decode cX13_rules 101 = .ok (.bipush 120, 2) := by decide +kernel
theorem dX13_rules_103 : decode cX13_rules 103 = .ok (.iload_n 2, 1) := by decide +kernel
theorem dX13_rules_104 : decode cX13_rules 104 = .ok (.iadd, 1) := by decide +kernel
theorem dX13_rules_105 : decode cX13_rules 105 = .ok (.iaload, 1) := by decide +kernel
theorem dX13_rules_106 : decode cX13_rules 106 = .ok (.iastore, 1) := by decide +kernel
theorem dX13_rules_107 : decode cX13_rules 107 = .ok (.aload_n 0, 1) := by decide +kernel
theorem dX13_rules_108 : decode cX13_rules 108 = .ok (.getfield 38, 3) := by decide +kernel
theorem dX13_rules_111 : decode cX13_rules 111 = .ok (.bipush 12, 2) := by decide +kernel
theorem dX13_rules_113 : decode cX13_rules 113 = .ok (.aload_n 0, 1) := by decide +kernel
theorem dX13_rules_114 : decode cX13_rules 114 = .ok (.getfield 282, 3) := by decide +kernel
theorem dX13_rules_117 : decode cX13_rules 117 = .ok (.imul, 1) := by decide +kernel
theorem dX13_rules_118 : decode cX13_rules 118 = .ok (.iload_n 2, 1) := by decide +kernel
theorem dX13_rules_119 : decode cX13_rules 119 = .ok (.iadd, 1) := by decide +kernel
theorem dX13_rules_120 : decode cX13_rules 120 = .ok (.aload_n 0, 1) := by decide +kernel
theorem dX13_rules_121 : decode cX13_rules 121 = .ok (.getfield 38, 3) := by decide +kernel
theorem dX13_rules_124 : decode cX13_rules 124 = .ok (.bipush 120, 2) := by decide +kernel
theorem dX13_rules_126 : decode cX13_rules 126 = .ok (.iload_n 2, 1) := by decide +kernel
theorem dX13_rules_127 : decode cX13_rules 127 = .ok (.iadd, 1) := by decide +kernel
theorem dX13_rules_128 : decode cX13_rules 128 = .ok (.iaload, 1) := by decide +kernel
theorem dX13_rules_129 : decode cX13_rules 129 = .ok (.iastore, 1) := by decide +kernel
theorem dX13_rules_130 : decode cX13_rules 130 = .ok (.aload_n 0, 1) := by decide +kernel
theorem dX13_rules_131 : decode cX13_rules 131 = .ok (.getfield 41, 3) := by decide +kernel
theorem dX13_rules_134 : decode cX13_rules 134 = .ok (.bipush 12, 2) := by decide +kernel
theorem dX13_rules_136 : decode cX13_rules 136 = .ok (.aload_n 0, 1) := by decide +kernel
theorem dX13_rules_137 : decode cX13_rules 137 = .ok (.getfield 282, 3) := by decide +kernel
theorem dX13_rules_140 : decode cX13_rules 140 = .ok (.imul, 1) := by decide +kernel
theorem dX13_rules_141 : decode cX13_rules 141 = .ok (.iload_n 2, 1) := by decide +kernel
theorem dX13_rules_142 : decode cX13_rules 142 = .ok (.iadd, 1) := by decide +kernel
theorem dX13_rules_143 : decode cX13_rules 143 = .ok (.aload_n 0, 1) := by decide +kernel
theorem dX13_rules_144 : decode cX13_rules 144 = .ok (.getfield 41, 3) := by decide +kernel
theorem dX13_rules_147 : decode cX13_rules 147 = .ok (.bipush 120, 2) := by decide +kernel
theorem dX13_rules_149 : decode cX13_rules 149 = .ok (.iload_n 2, 1) := by decide +kernel
theorem dX13_rules_150 : decode cX13_rules 150 = .ok (.iadd, 1) := by decide +kernel
theorem dX13_rules_151 : decode cX13_rules 151 = .ok (.iaload, 1) := by decide +kernel
theorem dX13_rules_152 : decode cX13_rules 152 = .ok (.iastore, 1) := by decide +kernel
theorem dX13_rules_153 : decode cX13_rules 153 = .ok (.aload_n 0, 1) := by decide +kernel
theorem dX13_rules_154 : decode cX13_rules 154 = .ok (.getfield 44, 3) := by decide +kernel
theorem dX13_rules_157 : decode cX13_rules 157 = .ok (.bipush 12, 2) := by decide +kernel
theorem dX13_rules_159 : decode cX13_rules 159 = .ok (.aload_n 0, 1) := by decide +kernel
theorem dX13_rules_160 : decode cX13_rules 160 = .ok (.getfield 282, 3) := by decide +kernel
theorem dX13_rules_163 : decode cX13_rules 163 = .ok (.imul, 1) := by decide +kernel
theorem dX13_rules_164 : decode cX13_rules 164 = .ok (.iload_n 2, 1) := by decide +kernel
theorem dX13_rules_165 : decode cX13_rules 165 = .ok (.iadd, 1) := by decide +kernel
theorem dX13_rules_166 : decode cX13_rules 166 = .ok (.aload_n 0, 1) := by decide +kernel
theorem dX13_rules_167 : decode cX13_rules 167 = .ok (.getfield 44, 3) := by decide +kernel
theorem dX13_rules_170 : decode cX13_rules 170 = .ok (.bipush 120, 2) := by decide +kernel
theorem dX13_rules_172 : decode cX13_rules 172 = .ok (.iload_n 2, 1) := by decide +kernel
theorem dX13_rules_173 : decode cX13_rules 173 = .ok (.iadd, 1) := by decide +kernel
theorem dX13_rules_174 : decode cX13_rules 174 = .ok (.iaload, 1) := by decide +kernel
theorem dX13_rules_175 : decode cX13_rules 175 = .ok (.iastore, 1) := by decide +kernel
theorem dX13_rules_176 : decode cX13_rules 176 = .ok (.iinc 2 1, 3) := by decide +kernel
theorem dX13_rules_179 : decode cX13_rules 179 = .ok (.goto (-101), 3) := by decide +kernel
theorem dX13_rules_182 : decode cX13_rules 182 = .ok (.aload_n 0, 1) := by decide +kernel
theorem dX13_rules_183 : decode cX13_rules 183 = .ok (.getfield 29, 3) := by decide +kernel
theorem dX13_rules_186 : decode cX13_rules 186 = .ok (.aload_n 0, 1) := by decide +kernel
theorem dX13_rules_187 : decode cX13_rules 187 = .ok (.getfield 282, 3) := by decide +kernel
theorem dX13_rules_190 : decode cX13_rules 190 = .ok (.aload_n 0, 1) := by decide +kernel
theorem dX13_rules_191 : decode cX13_rules 191 = .ok (.getfield 173, 3) := by decide +kernel
theorem dX13_rules_194 : decode cX13_rules 194 = .ok (.iastore, 1) := by decide +kernel
theorem dX13_rules_195 : decode cX13_rules 195 = .ok (.aload_n 0, 1) := by decide +kernel
theorem dX13_rules_196 : decode cX13_rules 196 = .ok (.dup, 1) := by decide +kernel
theorem dX13_rules_197 : decode cX13_rules 197 = .ok (.getfield 282, 3) := by decide +kernel
theorem dX13_rules_200 : decode cX13_rules 200 = .ok (.iconst 1, 1) := by decide +kernel
theorem dX13_rules_201 : decode cX13_rules 201 = .ok (.iadd, 1) := by decide +kernel
theorem dX13_rules_202 : decode cX13_rules 202 = .ok (.putfield 282, 3) := by decide +kernel
theorem dX13_rules_205 : decode cX13_rules 205 = .ok (.aload_n 0, 1) := by decide +kernel
theorem dX13_rules_206 : decode cX13_rules 206 = .ok (.getfield 32, 3) := by decide +kernel
theorem dX13_rules_209 : decode cX13_rules 209 = .ok (.aload_n 0, 1) := by decide +kernel
theorem dX13_rules_210 : decode cX13_rules 210 = .ok (.getfield 282, 3) := by decide +kernel
theorem dX13_rules_213 : decode cX13_rules 213 = .ok (.iconst 1, 1) := by decide +kernel
theorem dX13_rules_214 : decode cX13_rules 214 = .ok (.isub, 1) := by decide +kernel
theorem dX13_rules_215 : decode cX13_rules 215 = .ok (.iaload, 1) := by decide +kernel
theorem dX13_rules_216 : decode cX13_rules 216 = .ok (.ireturn, 1) := by decide +kernel
noncomputable def s_X13_rules_78  (rec78 : Int32 → jM → Option (Int32 × jM)) (l2 : Int32) (σ : jM) : Option (Int32 × jM) :=
  (if 12 ≤ l2 then gd (inb (rI σ 324 8) 10) (gd (inb ((rI (wI (wI σ 330 (Int32.toNatClampNeg (rI σ 324 8)) (rI σ 324 1)) 324 8 ((rI (wI σ 330 (Int32.toNatClampNeg (rI σ 324 8)) (rI σ 324 1)) 324 8) + 1)) 324 8) - 1) 11) (some ((rI (wI (wI σ 330 (Int32.toNatClampNeg (rI σ 324 8)) (rI σ 324 1)) 324 8 ((rI (wI σ 330 (Int32.toNatClampNeg (rI σ 324 8)) (rI σ 324 1)) 324 8) + 1)) 331 (Int32.toNatClampNeg ((rI (wI (wI σ 330 (Int32.toNatClampNeg (rI σ 324 8)) (rI σ 324 1)) 324 8 ((rI (wI σ 330 (Int32.toNatClampNeg (rI σ 324 8)) (rI σ 324 1)) 324 8) + 1)) 324 8) - 1))), wI (wI σ 330 (Int32.toNatClampNeg (rI σ 324 8)) (rI σ 324 1)) 324 8 ((rI (wI σ 330 (Int32.toNatClampNeg (rI σ 324 8)) (rI σ 324 1)) 324 8) + 1)))) else gd (inb (120 + l2) 132) (gd (inb ((12 * (rI σ 324 8)) + l2) 132) (gd (inb (120 + l2) 132) (gd (inb ((12 * (rI (wI σ 332 (Int32.toNatClampNeg ((12 * (rI σ 324 8)) + l2)) (rI σ 332 (Int32.toNatClampNeg (120 + l2)))) 324 8)) + l2) 132) (gd (inb (120 + l2) 132) (gd (inb ((12 * (rI (wI (wI σ 332 (Int32.toNatClampNeg ((12 * (rI σ 324 8)) + l2)) (rI σ 332 (Int32.toNatClampNeg (120 + l2)))) 333 (Int32.toNatClampNeg ((12 * (rI (wI σ 332 (Int32.toNatClampNeg ((12 * (rI σ 324 8)) + l2)) (rI σ 332 (Int32.toNatClampNeg (120 + l2)))) 324 8)) + l2)) (rI (wI σ 332 (Int32.toNatClampNeg ((12 * (rI σ 324 8)) + l2)) (rI σ 332 (Int32.toNatClampNeg (120 + l2)))) 333 (Int32.toNatClampNeg (120 + l2)))) 324 8)) + l2) 132) (gd (inb (120 + l2) 132) (gd (inb ((12 * (rI (wI (wI (wI σ 332 (Int32.toNatClampNeg ((12 * (rI σ 324 8)) + l2)) (rI σ 332 (Int32.toNatClampNeg (120 + l2)))) 333 (Int32.toNatClampNeg ((12 * (rI (wI σ 332 (Int32.toNatClampNeg ((12 * (rI σ 324 8)) + l2)) (rI σ 332 (Int32.toNatClampNeg (120 + l2)))) 324 8)) + l2)) (rI (wI σ 332 (Int32.toNatClampNeg ((12 * (rI σ 324 8)) + l2)) (rI σ 332 (Int32.toNatClampNeg (120 + l2)))) 333 (Int32.toNatClampNeg (120 + l2)))) 334 (Int32.toNatClampNeg ((12 * (rI (wI (wI σ 332 (Int32.toNatClampNeg ((12 * (rI σ 324 8)) + l2)) (rI σ 332 (Int32.toNatClampNeg (120 + l2)))) 333 (Int32.toNatClampNeg ((12 * (rI (wI σ 332 (Int32.toNatClampNeg ((12 * (rI σ 324 8)) + l2)) (rI σ 332 (Int32.toNatClampNeg (120 + l2)))) 324 8)) + l2)) (rI (wI σ 332 (Int32.toNatClampNeg ((12 * (rI σ 324 8)) + l2)) (rI σ 332 (Int32.toNatClampNeg (120 + l2)))) 333 (Int32.toNatClampNeg (120 + l2)))) 324 8)) + l2)) (rI (wI (wI σ 332 (Int32.toNatClampNeg ((12 * (rI σ 324 8)) + l2)) (rI σ 332 (Int32.toNatClampNeg (120 + l2)))) 333 (Int32.toNatClampNeg ((12 * (rI (wI σ 332 (Int32.toNatClampNeg ((12 * (rI σ 324 8)) + l2)) (rI σ 332 (Int32.toNatClampNeg (120 + l2)))) 324 8)) + l2)) (rI (wI σ 332 (Int32.toNatClampNeg ((12 * (rI σ 324 8)) + l2)) (rI σ 332 (Int32.toNatClampNeg (120 + l2)))) 333 (Int32.toNatClampNeg (120 + l2)))) 334 (Int32.toNatClampNeg (120 + l2)))) 324 8)) + l2) 132) (rec78 (l2 + 1) (wI (wI (wI (wI σ 332 (Int32.toNatClampNeg ((12 * (rI σ 324 8)) + l2)) (rI σ 332 (Int32.toNatClampNeg (120 + l2)))) 333 (Int32.toNatClampNeg ((12 * (rI (wI σ 332 (Int32.toNatClampNeg ((12 * (rI σ 324 8)) + l2)) (rI σ 332 (Int32.toNatClampNeg (120 + l2)))) 324 8)) + l2)) (rI (wI σ 332 (Int32.toNatClampNeg ((12 * (rI σ 324 8)) + l2)) (rI σ 332 (Int32.toNatClampNeg (120 + l2)))) 333 (Int32.toNatClampNeg (120 + l2)))) 334 (Int32.toNatClampNeg ((12 * (rI (wI (wI σ 332 (Int32.toNatClampNeg ((12 * (rI σ 324 8)) + l2)) (rI σ 332 (Int32.toNatClampNeg (120 + l2)))) 333 (Int32.toNatClampNeg ((12 * (rI (wI σ 332 (Int32.toNatClampNeg ((12 * (rI σ 324 8)) + l2)) (rI σ 332 (Int32.toNatClampNeg (120 + l2)))) 324 8)) + l2)) (rI (wI σ 332 (Int32.toNatClampNeg ((12 * (rI σ 324 8)) + l2)) (rI σ 332 (Int32.toNatClampNeg (120 + l2)))) 333 (Int32.toNatClampNeg (120 + l2)))) 324 8)) + l2)) (rI (wI (wI σ 332 (Int32.toNatClampNeg ((12 * (rI σ 324 8)) + l2)) (rI σ 332 (Int32.toNatClampNeg (120 + l2)))) 333 (Int32.toNatClampNeg ((12 * (rI (wI σ 332 (Int32.toNatClampNeg ((12 * (rI σ 324 8)) + l2)) (rI σ 332 (Int32.toNatClampNeg (120 + l2)))) 324 8)) + l2)) (rI (wI σ 332 (Int32.toNatClampNeg ((12 * (rI σ 324 8)) + l2)) (rI σ 332 (Int32.toNatClampNeg (120 + l2)))) 333 (Int32.toNatClampNeg (120 + l2)))) 334 (Int32.toNatClampNeg (120 + l2)))) 335 (Int32.toNatClampNeg ((12 * (rI (wI (wI (wI σ 332 (Int32.toNatClampNeg ((12 * (rI σ 324 8)) + l2)) (rI σ 332 (Int32.toNatClampNeg (120 + l2)))) 333 (Int32.toNatClampNeg ((12 * (rI (wI σ 332 (Int32.toNatClampNeg ((12 * (rI σ 324 8)) + l2)) (rI σ 332 (Int32.toNatClampNeg (120 + l2)))) 324 8)) + l2)) (rI (wI σ 332 (Int32.toNatClampNeg ((12 * (rI σ 324 8)) + l2)) (rI σ 332 (Int32.toNatClampNeg (120 + l2)))) 333 (Int32.toNatClampNeg (120 + l2)))) 334 (Int32.toNatClampNeg ((12 * (rI (wI (wI σ 332 (Int32.toNatClampNeg ((12 * (rI σ 324 8)) + l2)) (rI σ 332 (Int32.toNatClampNeg (120 + l2)))) 333 (Int32.toNatClampNeg ((12 * (rI (wI σ 332 (Int32.toNatClampNeg ((12 * (rI σ 324 8)) + l2)) (rI σ 332 (Int32.toNatClampNeg (120 + l2)))) 324 8)) + l2)) (rI (wI σ 332 (Int32.toNatClampNeg ((12 * (rI σ 324 8)) + l2)) (rI σ 332 (Int32.toNatClampNeg (120 + l2)))) 333 (Int32.toNatClampNeg (120 + l2)))) 324 8)) + l2)) (rI (wI (wI σ 332 (Int32.toNatClampNeg ((12 * (rI σ 324 8)) + l2)) (rI σ 332 (Int32.toNatClampNeg (120 + l2)))) 333 (Int32.toNatClampNeg ((12 * (rI (wI σ 332 (Int32.toNatClampNeg ((12 * (rI σ 324 8)) + l2)) (rI σ 332 (Int32.toNatClampNeg (120 + l2)))) 324 8)) + l2)) (rI (wI σ 332 (Int32.toNatClampNeg ((12 * (rI σ 324 8)) + l2)) (rI σ 332 (Int32.toNatClampNeg (120 + l2)))) 333 (Int32.toNatClampNeg (120 + l2)))) 334 (Int32.toNatClampNeg (120 + l2)))) 324 8)) + l2)) (rI (wI (wI (wI σ 332 (Int32.toNatClampNeg ((12 * (rI σ 324 8)) + l2)) (rI σ 332 (Int32.toNatClampNeg (120 + l2)))) 333 (Int32.toNatClampNeg ((12 * (rI (wI σ 332 (Int32.toNatClampNeg ((12 * (rI σ 324 8)) + l2)) (rI σ 332 (Int32.toNatClampNeg (120 + l2)))) 324 8)) + l2)) (rI (wI σ 332 (Int32.toNatClampNeg ((12 * (rI σ 324 8)) + l2)) (rI σ 332 (Int32.toNatClampNeg (120 + l2)))) 333 (Int32.toNatClampNeg (120 + l2)))) 334 (Int32.toNatClampNeg ((12 * (rI (wI (wI σ 332 (Int32.toNatClampNeg ((12 * (rI σ 324 8)) + l2)) (rI σ 332 (Int32.toNatClampNeg (120 + l2)))) 333 (Int32.toNatClampNeg ((12 * (rI (wI σ 332 (Int32.toNatClampNeg ((12 * (rI σ 324 8)) + l2)) (rI σ 332 (Int32.toNatClampNeg (120 + l2)))) 324 8)) + l2)) (rI (wI σ 332 (Int32.toNatClampNeg ((12 * (rI σ 324 8)) + l2)) (rI σ 332 (Int32.toNatClampNeg (120 + l2)))) 333 (Int32.toNatClampNeg (120 + l2)))) 324 8)) + l2)) (rI (wI (wI σ 332 (Int32.toNatClampNeg ((12 * (rI σ 324 8)) + l2)) (rI σ 332 (Int32.toNatClampNeg (120 + l2)))) 333 (Int32.toNatClampNeg ((12 * (rI (wI σ 332 (Int32.toNatClampNeg ((12 * (rI σ 324 8)) + l2)) (rI σ 332 (Int32.toNatClampNeg (120 + l2)))) 324 8)) + l2)) (rI (wI σ 332 (Int32.toNatClampNeg ((12 * (rI σ 324 8)) + l2)) (rI σ 332 (Int32.toNatClampNeg (120 + l2)))) 333 (Int32.toNatClampNeg (120 + l2)))) 334 (Int32.toNatClampNeg (120 + l2)))) 335 (Int32.toNatClampNeg (120 + l2)))))))))))))
noncomputable def f_X13_rules_78  (n : Nat) : Int32 → jM → Option (Int32 × jM) := Nat.rec (motive := fun _ => Int32 → jM → Option (Int32 × jM)) (fun _ _ => none) (fun _ q => s_X13_rules_78  q) n
noncomputable def f_X13_rules_49   (σ : jM) : Option (Int32 × jM) :=
  bd (f_X13_stops  σ) (fun r36 σ37 => (if 0 ≤ r36 then gd (inb 10 11) (gd (inb (rI σ37 324 8) 11) (f_X13_rules_78  Fu 0 (wI σ37 331 (Int32.toNatClampNeg (rI σ37 324 8)) (rI σ37 331 (Int32.toNatClampNeg 10))))) else some (r36, σ37)))
noncomputable def s_X13_rules_28  (rec28 : jM → Option (Int32 × jM))  (σ : jM) : Option (Int32 × jM) :=
  bd (f_X13_isWell  σ) (fun r48 σ49 => (if r48 = 0 then f_X13_rules_49   σ49 else (if (rI σ49 324 19) = 0 then f_X13_rules_49   σ49 else bd (f_X13_readClause  σ49) (fun _ σ54 => rec28  σ54))))
noncomputable def f_X13_rules_28  (n : Nat) : jM → Option (Int32 × jM) := Nat.rec (motive := fun _ => jM → Option (Int32 × jM)) (fun  _ => none) (fun _ q => s_X13_rules_28  q) n
noncomputable def f_X13_rules  (σ : jM) : Option (Int32 × jM) :=
  (if (rI (wI σ 324 0 0) 324 8) = 10 then some ((-1), wI σ 324 0 0) else bd (f_X13_starts  (wI σ 324 0 0)) (fun _ σ66 => gd (inb 10 11) (f_X13_rules_28  Fu  (wI σ66 331 (Int32.toNatClampNeg 10) 0))))
set_option maxRecDepth 20000 in
set_option maxHeartbeats 4000000 in
theorem t_X13_rules_78  : ∀ (n : Nat) (l2 : Int32) (σ : jM) (r : Int32 × jM), f_X13_rules_78  n l2 σ = some r → J mi_X13_rules 8 0 0 (jqI r) 78 [(0, .ref 324), (2, .int l2)] [] (ms σ) := by
  intro n
  induction n with
  | zero =>
    intro l2 σ r  h
    have h : (none : Option (Int32 × jM)) = some r := h
    cases h
  | succ n ih =>
    intro l2 σ r  h
    have h : s_X13_rules_78  (f_X13_rules_78  n) l2 σ = some r := h
    unfold s_X13_rules_78 at h
    refine J_iload_n 1 dX13_rules_78 rfl ?_
    refine J_bipush (v := 12) dX13_rules_79 (by decide) ?_
    refine J_icmp_ge (tgt := 182) dX13_rules_81 (by decide) (fun c25 => ?_) (fun c25 => ?_)
    · have h := (if_pos c25).symm.trans h
      refine J_aload_n 0 dX13_rules_182 rfl ?_
      refine M_getR gf_X13_29_12 dX13_rules_183 (g_324_9 _) k_324 n_324 ?_
      refine J_aload_n 0 dX13_rules_186 rfl ?_
      refine M_getI gf_X13_282_12 dX13_rules_187 k_324 n_324 ?_
      refine J_aload_n 0 dX13_rules_190 rfl ?_
      refine M_getI gf_X13_173_12 dX13_rules_191 k_324 n_324 ?_
      obtain ⟨g26, h⟩ := gd_inv h
      refine M_iast dX13_rules_194 a_330 n_330 g26 ?_
      refine J_aload_n 0 dX13_rules_195 rfl ?_
      refine J_dup dX13_rules_196 rfl ?_
      refine M_getI gf_X13_282_12 dX13_rules_197 k_324 n_324 ?_
      refine J_iconst (v := 1) dX13_rules_200 (by decide) ?_
      refine J_iadd dX13_rules_201 ?_
      refine M_putI pf_X13_282_12 dX13_rules_202 k_324 n_324 ⟨rfl, rfl⟩ ?_
      refine J_aload_n 0 dX13_rules_205 rfl ?_
      refine M_getR gf_X13_32_12 dX13_rules_206 (g_324_10 _) k_324 n_324 ?_
      refine J_aload_n 0 dX13_rules_209 rfl ?_
      refine M_getI gf_X13_282_12 dX13_rules_210 k_324 n_324 ?_
      refine J_iconst (v := 1) dX13_rules_213 (by decide) ?_
      refine J_isub dX13_rules_214 ?_
      obtain ⟨g27, h⟩ := gd_inv h
      refine M_iald dX13_rules_215 a_331 n_331 g27 ?_
      exact J_ret (v := some (.int (rI (wI (wI σ 330 (Int32.toNatClampNeg (rI σ 324 8)) (rI σ 324 1)) 324 8 ((rI (wI σ 330 (Int32.toNatClampNeg (rI σ 324 8)) (rI σ 324 1)) 324 8) + 1)) 331 (Int32.toNatClampNeg ((rI (wI (wI σ 330 (Int32.toNatClampNeg (rI σ 324 8)) (rI σ 324 1)) 324 8 ((rI (wI σ 330 (Int32.toNatClampNeg (rI σ 324 8)) (rI σ 324 1)) 324 8) + 1)) 324 8) - 1))))) rfl ⟨dX13_rules_216, Or.inl rfl⟩ (jqI_mk h)
    · have h := (if_neg c25).symm.trans h
      refine J_aload_n 0 dX13_rules_84 rfl ?_
      refine M_getR gf_X13_35_12 dX13_rules_85 (g_324_11 _) k_324 n_324 ?_
      refine J_bipush (v := 12) dX13_rules_88 (by decide) ?_
      refine J_aload_n 0 dX13_rules_90 rfl ?_
      refine M_getI gf_X13_282_12 dX13_rules_91 k_324 n_324 ?_
      refine J_imul dX13_rules_94 ?_
      refine J_iload_n 1 dX13_rules_95 rfl ?_
      refine J_iadd dX13_rules_96 ?_
      refine J_aload_n 0 dX13_rules_97 rfl ?_
      refine M_getR gf_X13_35_12 dX13_rules_98 (g_324_11 _) k_324 n_324 ?_
      refine J_bipush (v := 120) dX13_rules_101 (by decide) ?_
      refine J_iload_n 1 dX13_rules_103 rfl ?_
      refine J_iadd dX13_rules_104 ?_
      obtain ⟨g28, h⟩ := gd_inv h
      refine M_iald dX13_rules_105 a_332 n_332 g28 ?_
      obtain ⟨g29, h⟩ := gd_inv h
      refine M_iast dX13_rules_106 a_332 n_332 g29 ?_
      refine J_aload_n 0 dX13_rules_107 rfl ?_
      refine M_getR gf_X13_38_12 dX13_rules_108 (g_324_12 _) k_324 n_324 ?_
      refine J_bipush (v := 12) dX13_rules_111 (by decide) ?_
      refine J_aload_n 0 dX13_rules_113 rfl ?_
      refine M_getI gf_X13_282_12 dX13_rules_114 k_324 n_324 ?_
      refine J_imul dX13_rules_117 ?_
      refine J_iload_n 1 dX13_rules_118 rfl ?_
      refine J_iadd dX13_rules_119 ?_
      refine J_aload_n 0 dX13_rules_120 rfl ?_
      refine M_getR gf_X13_38_12 dX13_rules_121 (g_324_12 _) k_324 n_324 ?_
      refine J_bipush (v := 120) dX13_rules_124 (by decide) ?_
      refine J_iload_n 1 dX13_rules_126 rfl ?_
      refine J_iadd dX13_rules_127 ?_
      obtain ⟨g30, h⟩ := gd_inv h
      refine M_iald dX13_rules_128 a_333 n_333 g30 ?_
      obtain ⟨g31, h⟩ := gd_inv h
      refine M_iast dX13_rules_129 a_333 n_333 g31 ?_
      refine J_aload_n 0 dX13_rules_130 rfl ?_
      refine M_getR gf_X13_41_12 dX13_rules_131 (g_324_13 _) k_324 n_324 ?_
      refine J_bipush (v := 12) dX13_rules_134 (by decide) ?_
      refine J_aload_n 0 dX13_rules_136 rfl ?_
      refine M_getI gf_X13_282_12 dX13_rules_137 k_324 n_324 ?_
      refine J_imul dX13_rules_140 ?_
      refine J_iload_n 1 dX13_rules_141 rfl ?_
      refine J_iadd dX13_rules_142 ?_
      refine J_aload_n 0 dX13_rules_143 rfl ?_
      refine M_getR gf_X13_41_12 dX13_rules_144 (g_324_13 _) k_324 n_324 ?_
      refine J_bipush (v := 120) dX13_rules_147 (by decide) ?_
      refine J_iload_n 1 dX13_rules_149 rfl ?_
      refine J_iadd dX13_rules_150 ?_
      obtain ⟨g32, h⟩ := gd_inv h
      refine M_iald dX13_rules_151 a_334 n_334 g32 ?_
      obtain ⟨g33, h⟩ := gd_inv h
      refine M_iast dX13_rules_152 a_334 n_334 g33 ?_
      refine J_aload_n 0 dX13_rules_153 rfl ?_
      refine M_getR gf_X13_44_12 dX13_rules_154 (g_324_14 _) k_324 n_324 ?_
      refine J_bipush (v := 12) dX13_rules_157 (by decide) ?_
      refine J_aload_n 0 dX13_rules_159 rfl ?_
      refine M_getI gf_X13_282_12 dX13_rules_160 k_324 n_324 ?_
      refine J_imul dX13_rules_163 ?_
      refine J_iload_n 1 dX13_rules_164 rfl ?_
      refine J_iadd dX13_rules_165 ?_
      refine J_aload_n 0 dX13_rules_166 rfl ?_
      refine M_getR gf_X13_44_12 dX13_rules_167 (g_324_14 _) k_324 n_324 ?_
      refine J_bipush (v := 120) dX13_rules_170 (by decide) ?_
      refine J_iload_n 1 dX13_rules_172 rfl ?_
      refine J_iadd dX13_rules_173 ?_
      obtain ⟨g34, h⟩ := gd_inv h
      refine M_iald dX13_rules_174 a_335 n_335 g34 ?_
      obtain ⟨g35, h⟩ := gd_inv h
      refine M_iast dX13_rules_175 a_335 n_335 g35 ?_
      refine J_iinc (v := (l2 + 1)) (ls' := [(2, .int (l2 + 1)), (0, .ref 324)]) 1 dX13_rules_176 rfl rfl (by decide) rfl ?_
      refine J_goto (tgt := 78) dX13_rules_179 (by decide) ?_
      refine J_pick [1, 0] rfl ?_
      exact ih _ _ _  h
set_option maxRecDepth 20000 in
set_option maxHeartbeats 4000000 in
theorem t_X13_rules_49   (σ : jM) (r : Int32 × jM)  (h : f_X13_rules_49   σ = some r) : J mi_X13_rules 8 0 0 (jqI r) 49 [(0, .ref 324)] [] (ms σ) := by
  unfold f_X13_rules_49 at h
  refine J_aload_n 0 dX13_rules_49 rfl ?_
  obtain ⟨r42, σ43, h44, h⟩ := bd_inv h
  refine M_callVI (d' := 2) (k := 324) (As := []) (st := []) cv_X13_252 dX13_rules_50 rfl (by decide) rfl (Nat.le_of_ble_eq_true rfl) (Nat.le_of_ble_eq_true rfl) (by decide) n_324 k_324 rfl rfl (t_X13_stops  h44) ?_
  refine J_istore_n (i := 1) (ls' := [(1, .int r42), (0, .ref 324)]) dX13_rules_53 rfl (by decide) rfl ?_
  refine J_iload_n 0 dX13_rules_54 rfl ?_
  refine J_if_ge (tgt := 60) dX13_rules_55 (by decide) (fun c45 => ?_) (fun c45 => ?_)
  · have h := (if_pos c45).symm.trans h
    refine J_aload_n 1 dX13_rules_60 rfl ?_
    refine M_getR gf_X13_32_12 dX13_rules_61 (g_324_10 _) k_324 n_324 ?_
    refine J_aload_n 1 dX13_rules_64 rfl ?_
    refine M_getI gf_X13_282_12 dX13_rules_65 k_324 n_324 ?_
    refine J_aload_n 1 dX13_rules_68 rfl ?_
    refine M_getR gf_X13_32_12 dX13_rules_69 (g_324_10 _) k_324 n_324 ?_
    refine J_bipush (v := 10) dX13_rules_72 (by decide) ?_
    obtain ⟨g46, h⟩ := gd_inv h
    refine M_iald dX13_rules_74 a_331 n_331 g46 ?_
    obtain ⟨g47, h⟩ := gd_inv h
    refine M_iast dX13_rules_75 a_331 n_331 g47 ?_
    refine J_iconst (v := 0) dX13_rules_76 (by decide) ?_
    refine J_istore_n (i := 2) (ls' := [(2, .int 0), (1, .int r42), (0, .ref 324)]) dX13_rules_77 rfl (by decide) rfl ?_
    refine J_pick [2, 0] rfl ?_
    exact t_X13_rules_78  _ _ _ _  h
  · have h := (if_neg c45).symm.trans h
    refine J_iload_n 0 dX13_rules_58 rfl ?_
    exact J_ret (v := some (.int r42)) rfl ⟨dX13_rules_59, Or.inl rfl⟩ (jqI_mk h)
set_option maxRecDepth 20000 in
set_option maxHeartbeats 4000000 in
theorem t_X13_rules_28  : ∀ (n : Nat)  (σ : jM) (r : Int32 × jM), f_X13_rules_28  n  σ = some r → J mi_X13_rules 8 0 0 (jqI r) 28 [(0, .ref 324)] [] (ms σ) := by
  intro n
  induction n with
  | zero =>
    intro  σ r  h
    have h : (none : Option (Int32 × jM)) = some r := h
    cases h
  | succ n ih =>
    intro  σ r  h
    have h : s_X13_rules_28  (f_X13_rules_28  n)  σ = some r := h
    unfold s_X13_rules_28 at h
    refine J_aload_n 0 dX13_rules_28 rfl ?_
    obtain ⟨r56, σ57, h58, h⟩ := bd_inv h
    refine M_callVI (d' := 1) (k := 324) (As := []) (st := []) cv_X13_222 dX13_rules_29 rfl (by decide) rfl (Nat.le_of_ble_eq_true rfl) (Nat.le_of_ble_eq_true rfl) (by decide) n_324 k_324 rfl rfl (t_X13_isWell  h58) ?_
    refine J_if_eq (tgt := 49) dX13_rules_32 (by decide) (fun c59 => ?_) (fun c59 => ?_)
    · have h := (if_pos c59).symm.trans h
      exact t_X13_rules_49   _ _  h
    · have h := (if_neg c59).symm.trans h
      refine J_aload_n 0 dX13_rules_35 rfl ?_
      refine M_getI gf_X13_189_12 dX13_rules_36 k_324 n_324 ?_
      refine J_if_eq (tgt := 49) dX13_rules_39 (by decide) (fun c60 => ?_) (fun c60 => ?_)
      · have h := (if_pos c60).symm.trans h
        exact t_X13_rules_49   _ _  h
      · have h := (if_neg c60).symm.trans h
        refine J_aload_n 0 dX13_rules_42 rfl ?_
        obtain ⟨_, σ62, h63, h⟩ := bd_inv h
        refine M_callVV (d' := 7) (k := 324) (As := []) (st := []) cv_X13_285 dX13_rules_43 rfl (by decide) rfl (Nat.le_of_ble_eq_true rfl) (Nat.le_of_ble_eq_true rfl) (by decide) n_324 k_324 rfl rfl (t_X13_readClause  h63) ?_
        refine J_goto (tgt := 28) dX13_rules_46 (by decide) ?_
        exact ih  _ _  h
set_option maxRecDepth 20000 in
set_option maxHeartbeats 4000000 in
theorem t_X13_rules  {σ : jM} {r : Int32 × jM}  (h : f_X13_rules  σ = some r) : J mi_X13_rules 8 0 0 (jqI r) 0 [(0, .ref 324)] [] (ms σ) := by
  unfold f_X13_rules at h
  refine J_aload_n 0 dX13_rules_0 rfl ?_
  refine J_iconst (v := 0) dX13_rules_1 (by decide) ?_
  refine M_putI pf_X13_1_12 dX13_rules_2 k_324 n_324 ⟨rfl, rfl⟩ ?_
  refine J_aload_n 0 dX13_rules_5 rfl ?_
  refine M_getI gf_X13_282_12 dX13_rules_6 k_324 n_324 ?_
  refine J_bipush (v := 10) dX13_rules_9 (by decide) ?_
  refine J_icmp_ne (tgt := 16) dX13_rules_11 (by decide) (fun c64 => ?_) (fun c64 => ?_)
  · have h := (if_neg c64).symm.trans h
    refine J_aload_n 0 dX13_rules_16 rfl ?_
    obtain ⟨_, σ66, h67, h⟩ := bd_inv h
    refine M_callVV (d' := 3) (k := 324) (As := []) (st := []) cv_X13_246 dX13_rules_17 rfl (by decide) rfl (Nat.le_of_ble_eq_true rfl) (Nat.le_of_ble_eq_true rfl) (by decide) n_324 k_324 rfl rfl (t_X13_starts  h67) ?_
    refine J_aload_n 0 dX13_rules_20 rfl ?_
    refine M_getR gf_X13_32_12 dX13_rules_21 (g_324_10 _) k_324 n_324 ?_
    refine J_bipush (v := 10) dX13_rules_24 (by decide) ?_
    refine J_iconst (v := 0) dX13_rules_26 (by decide) ?_
    obtain ⟨g68, h⟩ := gd_inv h
    refine M_iast dX13_rules_27 a_331 n_331 g68 ?_
    exact t_X13_rules_28  _  _ _  h
  · have h := (if_pos c64).symm.trans h
    refine J_iconst (v := (-1)) dX13_rules_14 (by decide) ?_
    exact J_ret (v := some (.int (-1))) rfl ⟨dX13_rules_15, Or.inl rfl⟩ (jqI_mk h)
theorem dX13_rulesBy_0 : decode cX13_rulesBy 0 = .ok (.iconst (-1), 1) := by decide +kernel
theorem dX13_rulesBy_1 : decode cX13_rulesBy 1 = .ok (.istore_n 2, 1) := by decide +kernel
theorem dX13_rulesBy_2 : decode cX13_rulesBy 2 = .ok (.iconst 0, 1) := by decide +kernel
theorem dX13_rulesBy_3 : decode cX13_rulesBy 3 = .ok (.istore_n 3, 1) := by decide +kernel
theorem dX13_rulesBy_4 : decode cX13_rulesBy 4 = .ok (.iload_n 3, 1) := by decide +kernel
theorem dX13_rulesBy_5 : decode cX13_rulesBy 5 = .ok (.aload_n 0, 1) := by decide +kernel
theorem dX13_rulesBy_6 : decode cX13_rulesBy 6 = .ok (.getfield 282, 3) := by decide +kernel
theorem dX13_rulesBy_9 : decode cX13_rulesBy 9 = .ok (.if_icmp .ge 21, 3) := by decide +kernel
theorem dX13_rulesBy_12 : decode cX13_rulesBy 12 = .ok (.aload_n 0, 1) := by decide +kernel
theorem dX13_rulesBy_13 : decode cX13_rulesBy 13 = .ok (.getfield 29, 3) := by decide +kernel
theorem dX13_rulesBy_16 : decode cX13_rulesBy 16 = .ok (.iload_n 3, 1) := by decide +kernel
theorem dX13_rulesBy_17 : decode cX13_rulesBy 17 = .ok (.iaload, 1) := by decide +kernel
theorem dX13_rulesBy_18 : decode cX13_rulesBy 18 = .ok (.iload_n 1, 1) := by decide +kernel
theorem dX13_rulesBy_19 : decode cX13_rulesBy 19 = .ok (.if_icmp .gt 5, 3) := by decide +kernel
theorem dX13_rulesBy_22 : decode cX13_rulesBy 22 = .ok (.iload_n 3, 1) := by decide +kernel
theorem dX13_rulesBy_23 : decode cX13_rulesBy 23 = .ok (.istore_n 2, 1) := by decide +kernel
theorem dX13_rulesBy_24 : decode cX13_rulesBy 24 = .ok (.iinc 3 1, 3) := by decide +kernel
theorem dX13_rulesBy_27 : decode cX13_rulesBy 27 = .ok (.goto (-23), 3) := by decide +kernel
theorem dX13_rulesBy_30 : decode cX13_rulesBy 30 = .ok (.iload_n 2, 1) := by decide +kernel
theorem dX13_rulesBy_31 : decode cX13_rulesBy 31 = .ok (.ireturn, 1) := by decide +kernel
noncomputable def f_X13_rulesBy_24 (rec4 : Int32 → Int32 → Int32 → jM → Option (Int32 × jM)) (l1 : Int32) (l2 : Int32) (l3 : Int32) (σ : jM) : Option (Int32 × jM) :=
  rec4 l1 l2 (l3 + 1) σ
noncomputable def s_X13_rulesBy_4  (rec4 : Int32 → Int32 → Int32 → jM → Option (Int32 × jM)) (l1 : Int32) (l2 : Int32) (l3 : Int32) (σ : jM) : Option (Int32 × jM) :=
  (if (rI σ 324 8) ≤ l3 then some (l2, σ) else gd (inb l3 10) ((if l1 < (rI σ 330 (Int32.toNatClampNeg l3)) then f_X13_rulesBy_24 rec4 l1 l2 l3 σ else f_X13_rulesBy_24 rec4 l1 l3 l3 σ)))
noncomputable def f_X13_rulesBy_4  (n : Nat) : Int32 → Int32 → Int32 → jM → Option (Int32 × jM) := Nat.rec (motive := fun _ => Int32 → Int32 → Int32 → jM → Option (Int32 × jM)) (fun _ _ _ _ => none) (fun _ q => s_X13_rulesBy_4  q) n
noncomputable def f_X13_rulesBy (a1 : Int32) (σ : jM) : Option (Int32 × jM) :=
  f_X13_rulesBy_4  Fu a1 (-1) 0 σ
set_option maxRecDepth 20000 in
set_option maxHeartbeats 4000000 in
theorem t_X13_rulesBy_24 {rec4 : Int32 → Int32 → Int32 → jM → Option (Int32 × jM)} (hrec4 : ∀ (l1 : Int32) (l2 : Int32) (l3 : Int32) (σ : jM) (r : Int32 × jM), rec4 l1 l2 l3 σ = some r → J mi_X13_rulesBy 1 0 0 (jqI r) 4 [(0, .ref 324), (1, .int l1), (2, .int l2), (3, .int l3)] [] (ms σ)) (l1 : Int32) (l2 : Int32) (l3 : Int32) (σ : jM) (r : Int32 × jM)  (h : f_X13_rulesBy_24 rec4 l1 l2 l3 σ = some r) : J mi_X13_rulesBy 1 0 0 (jqI r) 24 [(0, .ref 324), (1, .int l1), (2, .int l2), (3, .int l3)] [] (ms σ) := by
  unfold f_X13_rulesBy_24 at h
  refine J_iinc (v := (l3 + 1)) (ls' := [(3, .int (l3 + 1)), (0, .ref 324), (1, .int l1), (2, .int l2)]) 3 dX13_rulesBy_24 rfl rfl (by decide) rfl ?_
  refine J_goto (tgt := 4) dX13_rulesBy_27 (by decide) ?_
  refine J_pick [1, 2, 3, 0] rfl ?_
  exact hrec4 _ _ _ _ _  h
set_option maxRecDepth 20000 in
set_option maxHeartbeats 4000000 in
theorem t_X13_rulesBy_4  : ∀ (n : Nat) (l1 : Int32) (l2 : Int32) (l3 : Int32) (σ : jM) (r : Int32 × jM), f_X13_rulesBy_4  n l1 l2 l3 σ = some r → J mi_X13_rulesBy 1 0 0 (jqI r) 4 [(0, .ref 324), (1, .int l1), (2, .int l2), (3, .int l3)] [] (ms σ) := by
  intro n
  induction n with
  | zero =>
    intro l1 l2 l3 σ r  h
    have h : (none : Option (Int32 × jM)) = some r := h
    cases h
  | succ n ih =>
    intro l1 l2 l3 σ r  h
    have h : s_X13_rulesBy_4  (f_X13_rulesBy_4  n) l1 l2 l3 σ = some r := h
    unfold s_X13_rulesBy_4 at h
    refine J_iload_n 3 dX13_rulesBy_4 rfl ?_
    refine J_aload_n 0 dX13_rulesBy_5 rfl ?_
    refine M_getI gf_X13_282_12 dX13_rulesBy_6 k_324 n_324 ?_
    refine J_icmp_ge (tgt := 30) dX13_rulesBy_9 (by decide) (fun c5 => ?_) (fun c5 => ?_)
    · have h := (if_pos c5).symm.trans h
      refine J_iload_n 2 dX13_rulesBy_30 rfl ?_
      exact J_ret (v := some (.int l2)) rfl ⟨dX13_rulesBy_31, Or.inl rfl⟩ (jqI_mk h)
    · have h := (if_neg c5).symm.trans h
      refine J_aload_n 0 dX13_rulesBy_12 rfl ?_
      refine M_getR gf_X13_29_12 dX13_rulesBy_13 (g_324_9 _) k_324 n_324 ?_
      refine J_iload_n 3 dX13_rulesBy_16 rfl ?_
      obtain ⟨g6, h⟩ := gd_inv h
      refine M_iald dX13_rulesBy_17 a_330 n_330 g6 ?_
      refine J_iload_n 1 dX13_rulesBy_18 rfl ?_
      refine J_icmp_gt (tgt := 24) dX13_rulesBy_19 (by decide) (fun c7 => ?_) (fun c7 => ?_)
      · have h := (if_pos c7).symm.trans h
        exact t_X13_rulesBy_24 ih _ _ _ _ _  h
      · have h := (if_neg c7).symm.trans h
        refine J_iload_n 3 dX13_rulesBy_22 rfl ?_
        refine J_istore_n (i := 2) (ls' := [(2, .int l3), (0, .ref 324), (1, .int l1), (3, .int l3)]) dX13_rulesBy_23 rfl (by decide) rfl ?_
        refine J_pick [1, 2, 0, 3] rfl ?_
        exact t_X13_rulesBy_24 ih _ _ _ _ _  h
set_option maxRecDepth 20000 in
set_option maxHeartbeats 4000000 in
theorem t_X13_rulesBy {a1 : Int32} {σ : jM} {r : Int32 × jM}  (h : f_X13_rulesBy a1 σ = some r) : J mi_X13_rulesBy 1 0 0 (jqI r) 0 [(0, .ref 324), (1, .int a1)] [] (ms σ) := by
  unfold f_X13_rulesBy at h
  refine J_iconst (v := (-1)) dX13_rulesBy_0 (by decide) ?_
  refine J_istore_n (i := 2) (ls' := [(2, .int (-1)), (0, .ref 324), (1, .int a1)]) dX13_rulesBy_1 rfl (by decide) rfl ?_
  refine J_iconst (v := 0) dX13_rulesBy_2 (by decide) ?_
  refine J_istore_n (i := 3) (ls' := [(3, .int 0), (2, .int (-1)), (0, .ref 324), (1, .int a1)]) dX13_rulesBy_3 rfl (by decide) rfl ?_
  refine J_pick [2, 3, 1, 0] rfl ?_
  exact t_X13_rulesBy_4  _ _ _ _ _ _  h
theorem dX13_isSignNumber_0 : decode cX13_isSignNumber 0 = .ok (.iload_n 0, 1) := by decide +kernel
theorem dX13_isSignNumber_1 : decode cX13_isSignNumber 1 = .ok (.ifCond .lt 13, 3) := by decide +kernel
theorem dX13_isSignNumber_4 : decode cX13_isSignNumber 4 = .ok (.iload_n 0, 1) := by decide +kernel
theorem dX13_isSignNumber_5 : decode cX13_isSignNumber 5 = .ok (.bipush 40, 2) := by decide +kernel
theorem dX13_isSignNumber_7 : decode cX13_isSignNumber 7 = .ok (.if_icmp .ge 7, 3) := by decide +kernel
theorem dX13_isSignNumber_10 : decode cX13_isSignNumber 10 = .ok (.iconst 1, 1) := by decide +kernel
theorem dX13_isSignNumber_11 : decode cX13_isSignNumber 11 = .ok (.goto 4, 3) := by decide +kernel
theorem dX13_isSignNumber_14 : decode cX13_isSignNumber 14 = .ok (.iconst 0, 1) := by decide +kernel
theorem dX13_isSignNumber_15 : decode cX13_isSignNumber 15 = .ok (.ireturn, 1) := by decide +kernel
noncomputable def f_X13_isSignNumber_15  (s0 : Int32) (σ : jM) : Option (Int32 × jM) :=
  gd (s0 = 0 ∨ s0 = 1) (some (s0, σ))
noncomputable def f_X13_isSignNumber_14   (σ : jM) : Option (Int32 × jM) :=
  f_X13_isSignNumber_15  0 σ
noncomputable def f_X13_isSignNumber (a0 : Int32) (σ : jM) : Option (Int32 × jM) :=
  (if a0 < 0 then f_X13_isSignNumber_14   σ else (if 40 ≤ a0 then f_X13_isSignNumber_14   σ else f_X13_isSignNumber_15  1 σ))
set_option maxRecDepth 20000 in
set_option maxHeartbeats 4000000 in
theorem t_X13_isSignNumber_15  (s0 : Int32) (σ : jM) (r : Int32 × jM)  (h : f_X13_isSignNumber_15  s0 σ = some r) : J mi_X13_isSignNumber 1 0 0 (jqI r) 15 [] [.int s0] (ms σ) := by
  unfold f_X13_isSignNumber_15 at h
  obtain ⟨g2, h⟩ := gd_inv h
  exact J_ret (v := some (.int s0)) rfl ⟨dX13_isSignNumber_15, Or.inr (Or.inl ⟨rfl, g2⟩)⟩ (jqI_mk h)
set_option maxRecDepth 20000 in
set_option maxHeartbeats 4000000 in
theorem t_X13_isSignNumber_14   (σ : jM) (r : Int32 × jM)  (h : f_X13_isSignNumber_14   σ = some r) : J mi_X13_isSignNumber 1 0 0 (jqI r) 14 [] [] (ms σ) := by
  unfold f_X13_isSignNumber_14 at h
  refine J_iconst (v := 0) dX13_isSignNumber_14 (by decide) ?_
  exact t_X13_isSignNumber_15  _ _ _  h
set_option maxRecDepth 20000 in
set_option maxHeartbeats 4000000 in
theorem t_X13_isSignNumber {a0 : Int32} {σ : jM} {r : Int32 × jM}  (h : f_X13_isSignNumber a0 σ = some r) : J mi_X13_isSignNumber 1 0 0 (jqI r) 0 [(0, .int a0)] [] (ms σ) := by
  unfold f_X13_isSignNumber at h
  refine J_iload_n 0 dX13_isSignNumber_0 rfl ?_
  refine J_if_lt (tgt := 14) dX13_isSignNumber_1 (by decide) (fun c3 => ?_) (fun c3 => ?_)
  · have h := (if_pos c3).symm.trans h
    refine J_pick [] rfl ?_
    exact t_X13_isSignNumber_14   _ _  h
  · have h := (if_neg c3).symm.trans h
    refine J_iload_n 0 dX13_isSignNumber_4 rfl ?_
    refine J_bipush (v := 40) dX13_isSignNumber_5 (by decide) ?_
    refine J_icmp_ge (tgt := 14) dX13_isSignNumber_7 (by decide) (fun c4 => ?_) (fun c4 => ?_)
    · have h := (if_pos c4).symm.trans h
      refine J_pick [] rfl ?_
      exact t_X13_isSignNumber_14   _ _  h
    · have h := (if_neg c4).symm.trans h
      refine J_iconst (v := 1) dX13_isSignNumber_10 (by decide) ?_
      refine J_goto (tgt := 15) dX13_isSignNumber_11 (by decide) ?_
      refine J_pick [] rfl ?_
      exact t_X13_isSignNumber_15  _ _ _  h
theorem dX13_trust_0 : decode cX13_trust 0 = .ok (.aload_n 0, 1) := by decide +kernel
theorem dX13_trust_1 : decode cX13_trust 1 = .ok (.iconst 0, 1) := by decide +kernel
theorem dX13_trust_2 : decode cX13_trust 2 = .ok (.putfield 1, 3) := by decide +kernel
theorem dX13_trust_5 : decode cX13_trust 5 = .ok (.iload_n 1, 1) := by decide +kernel
theorem dX13_trust_6 : decode cX13_trust 6 = .ok (.iconst 0, 1) := by decide +kernel
theorem dX13_trust_7 : decode cX13_trust 7 = .ok (.iconst 3, 1) := by decide +kernel
theorem dX13_trust_8 : decode cX13_trust 8 = .ok (.invokestatic 169, 3) := by decide +kernel
theorem dX13_trust_11 : decode cX13_trust 11 = .ok (.ifCond .eq 13, 3) := by decide +kernel
theorem dX13_trust_14 : decode cX13_trust 14 = .ok (.iload_n 2, 1) := by decide +kernel
theorem dX13_trust_15 : decode cX13_trust 15 = .ok (.iconst 0, 1) := by decide +kernel
theorem dX13_trust_16 : decode cX13_trust 16 = .ok (.bipush 99, 2) := by decide +kernel
theorem dX13_trust_18 : decode cX13_trust 18 = .ok (.invokestatic 169, 3) := by decide +kernel
theorem dX13_trust_21 : decode cX13_trust 21 = .ok (.ifCond .ne 5, 3) := by decide +kernel
theorem dX13_trust_24 : decode cX13_trust 24 = .ok (.iconst 0, 1) := by decide +kernel
theorem dX13_trust_25 : decode cX13_trust 25 = .ok (.ireturn, 1) := by decide +kernel
theorem dX13_trust_26 : decode cX13_trust 26 = .ok (.aload_n 0, 1) := by decide +kernel
theorem dX13_trust_27 : decode cX13_trust 27 = .ok (.getfield 54, 3) := by decide +kernel
theorem dX13_trust_30 : decode cX13_trust 30 = .ok (.iload_n 1, 1) := by decide +kernel
theorem dX13_trust_31 : decode cX13_trust 31 = .ok (.iload_n 2, 1) := by decide +kernel
theorem dX13_trust_32 : decode cX13_trust 32 = .ok (.iastore, 1) := by decide +kernel
theorem dX13_trust_33 : decode cX13_trust 33 = .ok (.iconst 1, 1) := by decide +kernel
theorem dX13_trust_34 : decode cX13_trust 34 = .ok (.ireturn, 1) := by decide +kernel
noncomputable def f_X13_trust_24   (σ : jM) : Option (Int32 × jM) :=
  some (0, σ)
noncomputable def f_X13_trust (a1 : Int32) (a2 : Int32) (σ : jM) : Option (Int32 × jM) :=
  bd (f_X13_within a1 0 3 (wI σ 324 0 0)) (fun r2 σ3 => (if r2 = 0 then f_X13_trust_24   σ3 else bd (f_X13_within a2 0 99 σ3) (fun r6 σ7 => (if r6 = 0 then f_X13_trust_24   σ7 else gd (inb a1 4) (some (1, wI σ7 337 (Int32.toNatClampNeg a1) a2))))))
set_option maxRecDepth 20000 in
set_option maxHeartbeats 4000000 in
theorem t_X13_trust_24   (σ : jM) (r : Int32 × jM)  (h : f_X13_trust_24   σ = some r) : J mi_X13_trust 2 0 0 (jqI r) 24 [] [] (ms σ) := by
  unfold f_X13_trust_24 at h
  refine J_iconst (v := 0) dX13_trust_24 (by decide) ?_
  exact J_ret (v := some (.int 0)) rfl ⟨dX13_trust_25, Or.inr (Or.inl ⟨rfl, Or.inl rfl⟩)⟩ (jqI_mk h)
set_option maxRecDepth 20000 in
set_option maxHeartbeats 4000000 in
theorem t_X13_trust {a1 : Int32} {a2 : Int32} {σ : jM} {r : Int32 × jM}  (h : f_X13_trust a1 a2 σ = some r) : J mi_X13_trust 2 0 0 (jqI r) 0 [(0, .ref 324), (1, .int a1), (2, .int a2)] [] (ms σ) := by
  unfold f_X13_trust at h
  refine J_aload_n 0 dX13_trust_0 rfl ?_
  refine J_iconst (v := 0) dX13_trust_1 (by decide) ?_
  refine M_putI pf_X13_1_12 dX13_trust_2 k_324 n_324 ⟨rfl, rfl⟩ ?_
  refine J_iload_n 1 dX13_trust_5 rfl ?_
  refine J_iconst (v := 0) dX13_trust_6 (by decide) ?_
  refine J_iconst (v := 3) dX13_trust_7 (by decide) ?_
  obtain ⟨r2, σ3, h4, h⟩ := bd_inv h
  refine M_callSI (d' := 1) (As := [.int a1, .int 0, .int 3]) (st := []) cs_X13_169 dX13_trust_8 rfl (Nat.le_of_ble_eq_true rfl) (Nat.le_of_ble_eq_true rfl) (by decide) rfl rfl (t_X13_within  h4) ?_
  refine J_if_eq (tgt := 24) dX13_trust_11 (by decide) (fun c5 => ?_) (fun c5 => ?_)
  · have h := (if_pos c5).symm.trans h
    refine J_pick [] rfl ?_
    exact t_X13_trust_24   _ _  h
  · have h := (if_neg c5).symm.trans h
    refine J_iload_n 2 dX13_trust_14 rfl ?_
    refine J_iconst (v := 0) dX13_trust_15 (by decide) ?_
    refine J_bipush (v := 99) dX13_trust_16 (by decide) ?_
    obtain ⟨r6, σ7, h8, h⟩ := bd_inv h
    refine M_callSI (d' := 1) (As := [.int a2, .int 0, .int 99]) (st := []) cs_X13_169 dX13_trust_18 rfl (Nat.le_of_ble_eq_true rfl) (Nat.le_of_ble_eq_true rfl) (by decide) rfl rfl (t_X13_within  h8) ?_
    refine J_if_ne (tgt := 26) dX13_trust_21 (by decide) (fun c9 => ?_) (fun c9 => ?_)
    · have h := (if_neg c9).symm.trans h
      refine J_aload_n 0 dX13_trust_26 rfl ?_
      refine M_getR gf_X13_54_12 dX13_trust_27 (g_324_24 _) k_324 n_324 ?_
      refine J_iload_n 1 dX13_trust_30 rfl ?_
      refine J_iload_n 2 dX13_trust_31 rfl ?_
      obtain ⟨g10, h⟩ := gd_inv h
      refine M_iast dX13_trust_32 a_337 n_337 g10 ?_
      refine J_iconst (v := 1) dX13_trust_33 (by decide) ?_
      exact J_ret (v := some (.int 1)) rfl ⟨dX13_trust_34, Or.inr (Or.inl ⟨rfl, Or.inr rfl⟩)⟩ (jqI_mk h)
    · have h := (if_pos c9).symm.trans h
      refine J_pick [] rfl ?_
      exact t_X13_trust_24   _ _  h
theorem dX13_holds_0 : decode cX13_holds 0 = .ok (.aload_n 0, 1) := by decide +kernel
theorem dX13_holds_1 : decode cX13_holds 1 = .ok (.iconst 0, 1) := by decide +kernel
theorem dX13_holds_2 : decode cX13_holds 2 = .ok (.putfield 1, 3) := by decide +kernel
theorem dX13_holds_5 : decode cX13_holds 5 = .ok (.iload_n 1, 1) := by decide +kernel
theorem dX13_holds_6 : decode cX13_holds 6 = .ok (.iconst 0, 1) := by decide +kernel
theorem dX13_holds_7 : decode cX13_holds 7 = .ok (.iconst 3, 1) := by decide +kernel
theorem dX13_holds_8 : decode cX13_holds 8 = .ok (.invokestatic 169, 3) := by decide +kernel
theorem dX13_holds_11 : decode cX13_holds 11 = .ok (.ifCond .eq 42, 3) := by decide +kernel
theorem dX13_holds_14 : decode cX13_holds 14 = .ok (.iload_n 2, 1) := by decide +kernel
theorem dX13_holds_15 : decode cX13_holds 15 = .ok (.invokestatic 288, 3) := by decide +kernel
theorem dX13_holds_18 : decode cX13_holds 18 = .ok (.ifCond .eq 35, 3) := by decide +kernel
theorem dX13_holds_21 : decode cX13_holds 21 = .ok (.iload_n 3, 1) := by decide +kernel
theorem dX13_holds_22 : decode cX13_holds 22 = .ok (.invokestatic 288, 3) := by decide +kernel
theorem dX13_holds_25 : decode cX13_holds 25 = .ok (.ifCond .eq 28, 3) := by decide +kernel
theorem dX13_holds_28 : decode cX13_holds 28 = .ok (.iload_n 2, 1) := by decide +kernel
theorem dX13_holds_29 : decode cX13_holds 29 = .ok (.iload_n 3, 1) := by decide +kernel
theorem dX13_holds_30 : decode cX13_holds 30 = .ok (.if_icmp .eq 23, 3) := by decide +kernel
theorem dX13_holds_33 : decode cX13_holds 33 = .ok (.iload 4, 2) := by decide +kernel
theorem dX13_holds_35 : decode cX13_holds 35 = .ok (.iconst 0, 1) := by decide +kernel
theorem dX13_holds_36 : decode cX13_holds 36 = .ok (.iconst 2, 1) := by decide +kernel
theorem dX13_holds_37 : decode cX13_holds 37 = .ok (.invokestatic 169, 3) := by decide +kernel
theorem dX13_holds_40 : decode cX13_holds 40 = .ok (.ifCond .eq 13, 3) := by decide +kernel
theorem dX13_holds_43 : decode cX13_holds 43 = .ok (.aload_n 0, 1) := by decide +kernel
theorem dX13_holds_44 : decode cX13_holds 44 = .ok (.getfield 291, 3) := by decide +kernel
theorem dX13_holds_47 : decode cX13_holds 47 = .ok (.sipush 200, 3) := by decide +kernel
theorem dX13_holds_50 : decode cX13_holds 50 = .ok (.if_icmp .ne 5, 3) := by decide +kernel
theorem dX13_holds_53 : decode cX13_holds 53 = .ok (.iconst 0, 1) := by decide +kernel
theorem dX13_holds_54 : decode cX13_holds 54 = .ok (.ireturn, 1) := by decide +kernel
theorem dX13_holds_55 : decode cX13_holds 55 = .ok (.aload_n 0, 1) := by decide +kernel
theorem dX13_holds_56 : decode cX13_holds 56 = .ok (.getfield 57, 3) := by decide +kernel
theorem dX13_holds_59 : decode cX13_holds 59 = .ok (.aload_n 0, 1) := by decide +kernel
theorem dX13_holds_60 : decode cX13_holds 60 = .ok (.getfield 291, 3) := by decide +kernel
theorem dX13_holds_63 : decode cX13_holds 63 = .ok (.iload_n 1, 1) := by decide +kernel
theorem dX13_holds_64 : decode cX13_holds 64 = .ok (.iastore, 1) := by decide +kernel
theorem dX13_holds_65 : decode cX13_holds 65 = .ok (.aload_n 0, 1) := by decide +kernel
theorem dX13_holds_66 : decode cX13_holds 66 = .ok (.getfield 60, 3) := by decide +kernel
theorem dX13_holds_69 : decode cX13_holds 69 = .ok (.aload_n 0, 1) := by decide +kernel
theorem dX13_holds_70 : decode cX13_holds 70 = .ok (.getfield 291, 3) := by decide +kernel
theorem dX13_holds_73 : decode cX13_holds 73 = .ok (.iload_n 2, 1) := by decide +kernel
theorem dX13_holds_74 : decode cX13_holds 74 = .ok (.iload_n 3, 1) := by decide +kernel
theorem dX13_holds_75 : decode cX13_holds 75 = .ok (.if_icmp .ge 7, 3) := by decide +kernel
theorem dX13_holds_78 : decode cX13_holds 78 = .ok (.iload_n 2, 1) := by decide +kernel
theorem dX13_holds_79 : decode cX13_holds 79 = .ok (.goto 4, 3) := by decide +kernel
theorem dX13_holds_82 : decode cX13_holds 82 = .ok (.iload_n 3, 1) := by decide +kernel
theorem dX13_holds_83 : decode cX13_holds 83 = .ok (.iastore, 1) := by decide +kernel
theorem dX13_holds_84 : decode cX13_holds 84 = .ok (.aload_n 0, 1) := by decide +kernel
theorem dX13_holds_85 : decode cX13_holds 85 = .ok (.getfield 63, 3) := by decide +kernel
theorem dX13_holds_88 : decode cX13_holds 88 = .ok (.aload_n 0, 1) := by decide +kernel
theorem dX13_holds_89 : decode cX13_holds 89 = .ok (.getfield 291, 3) := by decide +kernel
theorem dX13_holds_92 : decode cX13_holds 92 = .ok (.iload_n 2, 1) := by decide +kernel
theorem dX13_holds_93 : decode cX13_holds 93 = .ok (.iload_n 3, 1) := by decide +kernel
theorem dX13_holds_94 : decode cX13_holds 94 = .ok (.if_icmp .ge 7, 3) := by decide +kernel
theorem dX13_holds_97 : decode cX13_holds 97 = .ok (.iload_n 3, 1) := by decide +kernel
theorem dX13_holds_98 : decode cX13_holds 98 = .ok (.goto 4, 3) := by decide +kernel
theorem dX13_holds_101 : decode cX13_holds 101 = .ok (.iload_n 2, 1) := by decide +kernel
theorem dX13_holds_102 : decode cX13_holds 102 = .ok (.iastore, 1) := by decide +kernel
theorem dX13_holds_103 : decode cX13_holds 103 = .ok (.aload_n 0, 1) := by decide +kernel
theorem dX13_holds_104 : decode cX13_holds 104 = .ok (.getfield 66, 3) := by decide +kernel
theorem dX13_holds_107 : decode cX13_holds 107 = .ok (.aload_n 0, 1) := by decide +kernel
theorem dX13_holds_108 : decode cX13_holds 108 = .ok (.getfield 291, 3) := by decide +kernel
theorem dX13_holds_111 : decode cX13_holds 111 = .ok (.iload 4, 2) := by decide +kernel
theorem dX13_holds_113 : decode cX13_holds 113 = .ok (.iastore, 1) := by decide +kernel
theorem dX13_holds_114 : decode cX13_holds 114 = .ok (.aload_n 0, 1) := by decide +kernel
theorem dX13_holds_115 : decode cX13_holds 115 = .ok (.getfield 69, 3) := by decide +kernel
theorem dX13_holds_118 : decode cX13_holds 118 = .ok (.aload_n 0, 1) := by decide +kernel
theorem dX13_holds_119 : decode cX13_holds 119 = .ok (.getfield 291, 3) := by decide +kernel
theorem dX13_holds_122 : decode cX13_holds 122 = .ok (.aload_n 0, 1) := by decide +kernel
theorem dX13_holds_123 : decode cX13_holds 123 = .ok (.getfield 173, 3) := by decide +kernel
theorem dX13_holds_126 : decode cX13_holds 126 = .ok (.iastore, 1) := by decide +kernel
theorem dX13_holds_127 : decode cX13_holds 127 = .ok (.aload_n 0, 1) := by decide +kernel
theorem dX13_holds_128 : decode cX13_holds 128 = .ok (.dup, 1) := by decide +kernel
theorem dX13_holds_129 : decode cX13_holds 129 = .ok (.getfield 291, 3) := by decide +kernel
theorem dX13_holds_132 : decode cX13_holds 132 = .ok (.iconst 1, 1) := by decide +kernel
theorem dX13_holds_133 : decode cX13_holds 133 = .ok (.iadd, 1) := by decide +kernel
theorem dX13_holds_134 : decode cX13_holds 134 = .ok (.putfield 291, 3) := by decide +kernel
theorem dX13_holds_137 : decode cX13_holds 137 = .ok (.iconst 1, 1) := by decide +kernel
theorem dX13_holds_138 : decode cX13_holds 138 = .ok (.ireturn, 1) := by decide +kernel
noncomputable def f_X13_holds_53   (σ : jM) : Option (Int32 × jM) :=
  some (0, σ)
noncomputable def f_X13_holds_102  (l4 : Int32) (s1 : Int32) (s2 : Int32) (σ : jM) : Option (Int32 × jM) :=
  gd (inb s1 200) (gd (inb (rI (wI σ 340 (Int32.toNatClampNeg s1) s2) 324 25) 200) (gd (inb (rI (wI (wI σ 340 (Int32.toNatClampNeg s1) s2) 341 (Int32.toNatClampNeg (rI (wI σ 340 (Int32.toNatClampNeg s1) s2) 324 25)) l4) 324 25) 200) (some (1, wI (wI (wI (wI σ 340 (Int32.toNatClampNeg s1) s2) 341 (Int32.toNatClampNeg (rI (wI σ 340 (Int32.toNatClampNeg s1) s2) 324 25)) l4) 342 (Int32.toNatClampNeg (rI (wI (wI σ 340 (Int32.toNatClampNeg s1) s2) 341 (Int32.toNatClampNeg (rI (wI σ 340 (Int32.toNatClampNeg s1) s2) 324 25)) l4) 324 25)) (rI (wI (wI σ 340 (Int32.toNatClampNeg s1) s2) 341 (Int32.toNatClampNeg (rI (wI σ 340 (Int32.toNatClampNeg s1) s2) 324 25)) l4) 324 1)) 324 25 ((rI (wI (wI (wI σ 340 (Int32.toNatClampNeg s1) s2) 341 (Int32.toNatClampNeg (rI (wI σ 340 (Int32.toNatClampNeg s1) s2) 324 25)) l4) 342 (Int32.toNatClampNeg (rI (wI (wI σ 340 (Int32.toNatClampNeg s1) s2) 341 (Int32.toNatClampNeg (rI (wI σ 340 (Int32.toNatClampNeg s1) s2) 324 25)) l4) 324 25)) (rI (wI (wI σ 340 (Int32.toNatClampNeg s1) s2) 341 (Int32.toNatClampNeg (rI (wI σ 340 (Int32.toNatClampNeg s1) s2) 324 25)) l4) 324 1)) 324 25) + 1)))))
noncomputable def f_X13_holds_83  (l2 : Int32) (l3 : Int32) (l4 : Int32) (s1 : Int32) (s2 : Int32) (σ : jM) : Option (Int32 × jM) :=
  gd (inb s1 200) ((if l3 ≤ l2 then f_X13_holds_102  l4 (rI (wI σ 339 (Int32.toNatClampNeg s1) s2) 324 25) l2 (wI σ 339 (Int32.toNatClampNeg s1) s2) else f_X13_holds_102  l4 (rI (wI σ 339 (Int32.toNatClampNeg s1) s2) 324 25) l3 (wI σ 339 (Int32.toNatClampNeg s1) s2)))
noncomputable def f_X13_holds (a1 : Int32) (a2 : Int32) (a3 : Int32) (a4 : Int32) (σ : jM) : Option (Int32 × jM) :=
  bd (f_X13_within a1 0 3 (wI σ 324 0 0)) (fun r16 σ17 => (if r16 = 0 then f_X13_holds_53   σ17 else bd (f_X13_isSignNumber a2 σ17) (fun r20 σ21 => (if r20 = 0 then f_X13_holds_53   σ21 else bd (f_X13_isSignNumber a3 σ21) (fun r24 σ25 => (if r24 = 0 then f_X13_holds_53   σ25 else (if a2 = a3 then f_X13_holds_53   σ25 else bd (f_X13_within a4 0 2 σ25) (fun r29 σ30 => (if r29 = 0 then f_X13_holds_53   σ30 else (if (rI σ30 324 25) = 200 then f_X13_holds_53   σ30 else gd (inb (rI σ30 324 25) 200) ((if a3 ≤ a2 then f_X13_holds_83  a2 a3 a4 (rI (wI σ30 338 (Int32.toNatClampNeg (rI σ30 324 25)) a1) 324 25) a3 (wI σ30 338 (Int32.toNatClampNeg (rI σ30 324 25)) a1) else f_X13_holds_83  a2 a3 a4 (rI (wI σ30 338 (Int32.toNatClampNeg (rI σ30 324 25)) a1) 324 25) a2 (wI σ30 338 (Int32.toNatClampNeg (rI σ30 324 25)) a1)))))))))))))
set_option maxRecDepth 20000 in
set_option maxHeartbeats 4000000 in
theorem t_X13_holds_53   (σ : jM) (r : Int32 × jM)  (h : f_X13_holds_53   σ = some r) : J mi_X13_holds 2 0 0 (jqI r) 53 [] [] (ms σ) := by
  unfold f_X13_holds_53 at h
  refine J_iconst (v := 0) dX13_holds_53 (by decide) ?_
  exact J_ret (v := some (.int 0)) rfl ⟨dX13_holds_54, Or.inr (Or.inl ⟨rfl, Or.inl rfl⟩)⟩ (jqI_mk h)
set_option maxRecDepth 20000 in
set_option maxHeartbeats 4000000 in
theorem t_X13_holds_102  (l4 : Int32) (s1 : Int32) (s2 : Int32) (σ : jM) (r : Int32 × jM)  (h : f_X13_holds_102  l4 s1 s2 σ = some r) : J mi_X13_holds 2 0 0 (jqI r) 102 [(0, .ref 324), (4, .int l4)] [.int s2, .int s1, .ref 340] (ms σ) := by
  unfold f_X13_holds_102 at h
  obtain ⟨g9, h⟩ := gd_inv h
  refine M_iast dX13_holds_102 a_340 n_340 g9 ?_
  refine J_aload_n 0 dX13_holds_103 rfl ?_
  refine M_getR gf_X13_66_12 dX13_holds_104 (g_324_29 _) k_324 n_324 ?_
  refine J_aload_n 0 dX13_holds_107 rfl ?_
  refine M_getI gf_X13_291_12 dX13_holds_108 k_324 n_324 ?_
  refine J_iload 1 dX13_holds_111 rfl ?_
  obtain ⟨g10, h⟩ := gd_inv h
  refine M_iast dX13_holds_113 a_341 n_341 g10 ?_
  refine J_aload_n 0 dX13_holds_114 rfl ?_
  refine M_getR gf_X13_69_12 dX13_holds_115 (g_324_30 _) k_324 n_324 ?_
  refine J_aload_n 0 dX13_holds_118 rfl ?_
  refine M_getI gf_X13_291_12 dX13_holds_119 k_324 n_324 ?_
  refine J_aload_n 0 dX13_holds_122 rfl ?_
  refine M_getI gf_X13_173_12 dX13_holds_123 k_324 n_324 ?_
  obtain ⟨g11, h⟩ := gd_inv h
  refine M_iast dX13_holds_126 a_342 n_342 g11 ?_
  refine J_aload_n 0 dX13_holds_127 rfl ?_
  refine J_dup dX13_holds_128 rfl ?_
  refine M_getI gf_X13_291_12 dX13_holds_129 k_324 n_324 ?_
  refine J_iconst (v := 1) dX13_holds_132 (by decide) ?_
  refine J_iadd dX13_holds_133 ?_
  refine M_putI pf_X13_291_12 dX13_holds_134 k_324 n_324 ⟨rfl, rfl⟩ ?_
  refine J_iconst (v := 1) dX13_holds_137 (by decide) ?_
  exact J_ret (v := some (.int 1)) rfl ⟨dX13_holds_138, Or.inr (Or.inl ⟨rfl, Or.inr rfl⟩)⟩ (jqI_mk h)
set_option maxRecDepth 20000 in
set_option maxHeartbeats 4000000 in
theorem t_X13_holds_83  (l2 : Int32) (l3 : Int32) (l4 : Int32) (s1 : Int32) (s2 : Int32) (σ : jM) (r : Int32 × jM)  (h : f_X13_holds_83  l2 l3 l4 s1 s2 σ = some r) : J mi_X13_holds 2 0 0 (jqI r) 83 [(0, .ref 324), (2, .int l2), (3, .int l3), (4, .int l4)] [.int s2, .int s1, .ref 339] (ms σ) := by
  unfold f_X13_holds_83 at h
  obtain ⟨g14, h⟩ := gd_inv h
  refine M_iast dX13_holds_83 a_339 n_339 g14 ?_
  refine J_aload_n 0 dX13_holds_84 rfl ?_
  refine M_getR gf_X13_63_12 dX13_holds_85 (g_324_28 _) k_324 n_324 ?_
  refine J_aload_n 0 dX13_holds_88 rfl ?_
  refine M_getI gf_X13_291_12 dX13_holds_89 k_324 n_324 ?_
  refine J_iload_n 1 dX13_holds_92 rfl ?_
  refine J_iload_n 2 dX13_holds_93 rfl ?_
  refine J_icmp_ge (tgt := 101) dX13_holds_94 (by decide) (fun c15 => ?_) (fun c15 => ?_)
  · have h := (if_pos c15).symm.trans h
    refine J_iload_n 1 dX13_holds_101 rfl ?_
    refine J_pick [0, 3] rfl ?_
    exact t_X13_holds_102  _ _ _ _ _  h
  · have h := (if_neg c15).symm.trans h
    refine J_iload_n 2 dX13_holds_97 rfl ?_
    refine J_goto (tgt := 102) dX13_holds_98 (by decide) ?_
    refine J_pick [0, 3] rfl ?_
    exact t_X13_holds_102  _ _ _ _ _  h
set_option maxRecDepth 20000 in
set_option maxHeartbeats 4000000 in
theorem t_X13_holds {a1 : Int32} {a2 : Int32} {a3 : Int32} {a4 : Int32} {σ : jM} {r : Int32 × jM}  (h : f_X13_holds a1 a2 a3 a4 σ = some r) : J mi_X13_holds 2 0 0 (jqI r) 0 [(0, .ref 324), (1, .int a1), (2, .int a2), (3, .int a3), (4, .int a4)] [] (ms σ) := by
  unfold f_X13_holds at h
  refine J_aload_n 0 dX13_holds_0 rfl ?_
  refine J_iconst (v := 0) dX13_holds_1 (by decide) ?_
  refine M_putI pf_X13_1_12 dX13_holds_2 k_324 n_324 ⟨rfl, rfl⟩ ?_
  refine J_iload_n 1 dX13_holds_5 rfl ?_
  refine J_iconst (v := 0) dX13_holds_6 (by decide) ?_
  refine J_iconst (v := 3) dX13_holds_7 (by decide) ?_
  obtain ⟨r16, σ17, h18, h⟩ := bd_inv h
  refine M_callSI (d' := 1) (As := [.int a1, .int 0, .int 3]) (st := []) cs_X13_169 dX13_holds_8 rfl (Nat.le_of_ble_eq_true rfl) (Nat.le_of_ble_eq_true rfl) (by decide) rfl rfl (t_X13_within  h18) ?_
  refine J_if_eq (tgt := 53) dX13_holds_11 (by decide) (fun c19 => ?_) (fun c19 => ?_)
  · have h := (if_pos c19).symm.trans h
    refine J_pick [] rfl ?_
    exact t_X13_holds_53   _ _  h
  · have h := (if_neg c19).symm.trans h
    refine J_iload_n 2 dX13_holds_14 rfl ?_
    obtain ⟨r20, σ21, h22, h⟩ := bd_inv h
    refine M_callSI (d' := 1) (As := [.int a2]) (st := []) cs_X13_288 dX13_holds_15 rfl (Nat.le_of_ble_eq_true rfl) (Nat.le_of_ble_eq_true rfl) (by decide) rfl rfl (t_X13_isSignNumber  h22) ?_
    refine J_if_eq (tgt := 53) dX13_holds_18 (by decide) (fun c23 => ?_) (fun c23 => ?_)
    · have h := (if_pos c23).symm.trans h
      refine J_pick [] rfl ?_
      exact t_X13_holds_53   _ _  h
    · have h := (if_neg c23).symm.trans h
      refine J_iload_n 3 dX13_holds_21 rfl ?_
      obtain ⟨r24, σ25, h26, h⟩ := bd_inv h
      refine M_callSI (d' := 1) (As := [.int a3]) (st := []) cs_X13_288 dX13_holds_22 rfl (Nat.le_of_ble_eq_true rfl) (Nat.le_of_ble_eq_true rfl) (by decide) rfl rfl (t_X13_isSignNumber  h26) ?_
      refine J_if_eq (tgt := 53) dX13_holds_25 (by decide) (fun c27 => ?_) (fun c27 => ?_)
      · have h := (if_pos c27).symm.trans h
        refine J_pick [] rfl ?_
        exact t_X13_holds_53   _ _  h
      · have h := (if_neg c27).symm.trans h
        refine J_iload_n 2 dX13_holds_28 rfl ?_
        refine J_iload_n 3 dX13_holds_29 rfl ?_
        refine J_icmp_eq (tgt := 53) dX13_holds_30 (by decide) (fun c28 => ?_) (fun c28 => ?_)
        · have h := (if_pos c28).symm.trans h
          refine J_pick [] rfl ?_
          exact t_X13_holds_53   _ _  h
        · have h := (if_neg c28).symm.trans h
          refine J_iload 4 dX13_holds_33 rfl ?_
          refine J_iconst (v := 0) dX13_holds_35 (by decide) ?_
          refine J_iconst (v := 2) dX13_holds_36 (by decide) ?_
          obtain ⟨r29, σ30, h31, h⟩ := bd_inv h
          refine M_callSI (d' := 1) (As := [.int a4, .int 0, .int 2]) (st := []) cs_X13_169 dX13_holds_37 rfl (Nat.le_of_ble_eq_true rfl) (Nat.le_of_ble_eq_true rfl) (by decide) rfl rfl (t_X13_within  h31) ?_
          refine J_if_eq (tgt := 53) dX13_holds_40 (by decide) (fun c32 => ?_) (fun c32 => ?_)
          · have h := (if_pos c32).symm.trans h
            refine J_pick [] rfl ?_
            exact t_X13_holds_53   _ _  h
          · have h := (if_neg c32).symm.trans h
            refine J_aload_n 0 dX13_holds_43 rfl ?_
            refine M_getI gf_X13_291_12 dX13_holds_44 k_324 n_324 ?_
            refine J_sipush (v := 200) dX13_holds_47 (by decide) ?_
            refine J_icmp_ne (tgt := 55) dX13_holds_50 (by decide) (fun c33 => ?_) (fun c33 => ?_)
            · have h := (if_neg c33).symm.trans h
              refine J_aload_n 0 dX13_holds_55 rfl ?_
              refine M_getR gf_X13_57_12 dX13_holds_56 (g_324_26 _) k_324 n_324 ?_
              refine J_aload_n 0 dX13_holds_59 rfl ?_
              refine M_getI gf_X13_291_12 dX13_holds_60 k_324 n_324 ?_
              refine J_iload_n 1 dX13_holds_63 rfl ?_
              obtain ⟨g34, h⟩ := gd_inv h
              refine M_iast dX13_holds_64 a_338 n_338 g34 ?_
              refine J_aload_n 0 dX13_holds_65 rfl ?_
              refine M_getR gf_X13_60_12 dX13_holds_66 (g_324_27 _) k_324 n_324 ?_
              refine J_aload_n 0 dX13_holds_69 rfl ?_
              refine M_getI gf_X13_291_12 dX13_holds_70 k_324 n_324 ?_
              refine J_iload_n 2 dX13_holds_73 rfl ?_
              refine J_iload_n 3 dX13_holds_74 rfl ?_
              refine J_icmp_ge (tgt := 82) dX13_holds_75 (by decide) (fun c35 => ?_) (fun c35 => ?_)
              · have h := (if_pos c35).symm.trans h
                refine J_iload_n 3 dX13_holds_82 rfl ?_
                refine J_pick [0, 2, 3, 4] rfl ?_
                exact t_X13_holds_83  _ _ _ _ _ _ _  h
              · have h := (if_neg c35).symm.trans h
                refine J_iload_n 2 dX13_holds_78 rfl ?_
                refine J_goto (tgt := 83) dX13_holds_79 (by decide) ?_
                refine J_pick [0, 2, 3, 4] rfl ?_
                exact t_X13_holds_83  _ _ _ _ _ _ _  h
            · have h := (if_pos c33).symm.trans h
              refine J_pick [] rfl ?_
              exact t_X13_holds_53   _ _  h
theorem dX13_moreTrust_0 : decode cX13_moreTrust 0 = .ok (.iconst 0, 1) := by decide +kernel
theorem dX13_moreTrust_1 : decode cX13_moreTrust 1 = .ok (.istore 4, 2) := by decide +kernel
theorem dX13_moreTrust_3 : decode cX13_moreTrust 3 = .ok (.iconst 0, 1) := by decide +kernel
theorem dX13_moreTrust_4 : decode cX13_moreTrust 4 = .ok (.istore 5, 2) := by decide +kernel
theorem dX13_moreTrust_6 : decode cX13_moreTrust 6 = .ok (.iload 5, 2) := by decide +kernel
theorem dX13_moreTrust_8 : decode cX13_moreTrust 8 = .ok (.iconst 4, 1) := by decide +kernel
theorem dX13_moreTrust_9 : decode cX13_moreTrust 9 = .ok (.if_icmp .ge 122, 3) := by decide +kernel
theorem dX13_moreTrust_12 : decode cX13_moreTrust 12 = .ok (.iconst 2, 1) := by decide +kernel
theorem dX13_moreTrust_13 : decode cX13_moreTrust 13 = .ok (.istore 6, 2) := by decide +kernel
theorem dX13_moreTrust_15 : decode cX13_moreTrust 15 = .ok (.iconst 0, 1) := by decide +kernel
theorem dX13_moreTrust_16 : decode cX13_moreTrust 16 = .ok (.istore 7, 2) := by decide +kernel
theorem dX13_moreTrust_18 : decode cX13_moreTrust 18 = .ok (.iload 7, 2) := by decide +kernel
theorem dX13_moreTrust_20 : decode cX13_moreTrust 20 = .ok (.aload_n 0, 1) := by decide +kernel
theorem dX13_moreTrust_21 : decode cX13_moreTrust 21 = .ok (.getfield 291, 3) := by decide +kernel
theorem dX13_moreTrust_24 : decode cX13_moreTrust 24 = .ok (.if_icmp .ge 63, 3) := by decide +kernel
theorem dX13_moreTrust_27 : decode cX13_moreTrust 27 = .ok (.aload_n 0, 1) := by decide +kernel
theorem dX13_moreTrust_28 : decode cX13_moreTrust 28 = .ok (.getfield 57, 3) := by decide +kernel
theorem dX13_moreTrust_31 : decode cX13_moreTrust 31 = .ok (.iload 7, 2) := by decide +kernel
theorem dX13_moreTrust_33 : decode cX13_moreTrust 33 = .ok (.iaload, 1) := by decide +kernel
theorem dX13_moreTrust_34 : decode cX13_moreTrust 34 = .ok (.iload 5, 2) := by decide +kernel
theorem dX13_moreTrust_36 : decode cX13_moreTrust 36 = .ok (.if_icmp .ne 45, 3) := by decide +kernel
theorem dX13_moreTrust_39 : decode cX13_moreTrust 39 = .ok (.aload_n 0, 1) := by decide +kernel
theorem dX13_moreTrust_40 : decode cX13_moreTrust 40 = .ok (.getfield 60, 3) := by decide +kernel
theorem dX13_moreTrust_43 : decode cX13_moreTrust 43 = .ok (.iload 7, 2) := by decide +kernel
theorem dX13_moreTrust_45 : decode cX13_moreTrust 45 = .ok (.iaload, 1) := by decide +kernel
theorem dX13_moreTrust_46 : decode cX13_moreTrust 46 = .ok (.iload_n 1, 1) := by decide +kernel
theorem dX13_moreTrust_47 : decode cX13_moreTrust 47 = .ok (.if_icmp .ne 34, 3) := by decide +kernel
theorem dX13_moreTrust_50 : decode cX13_moreTrust 50 = .ok (.aload_n 0, 1) := by decide +kernel
theorem dX13_moreTrust_51 : decode cX13_moreTrust 51 = .ok (.getfield 63, 3) := by decide +kernel
theorem dX13_moreTrust_54 : decode cX13_moreTrust 54 = .ok (.iload 7, 2) := by decide +kernel
theorem dX13_moreTrust_56 : decode cX13_moreTrust 56 = .ok (.iaload, 1) := by decide +kernel
theorem dX13_moreTrust_57 : decode cX13_moreTrust 57 = .ok (.iload_n 2, 1) := by decide +kernel
theorem dX13_moreTrust_58 : decode cX13_moreTrust 58 = .ok (.if_icmp .ne 23, 3) := by decide +kernel
theorem dX13_moreTrust_61 : decode cX13_moreTrust 61 = .ok (.aload_n 0, 1) := by decide +kernel
theorem dX13_moreTrust_62 : decode cX13_moreTrust 62 = .ok (.getfield 69, 3) := by decide +kernel
theorem dX13_moreTrust_65 : decode cX13_moreTrust 65 = .ok (.iload 7, 2) := by decide +kernel
theorem dX13_moreTrust_67 : decode cX13_moreTrust 67 = .ok (.iaload, 1) := by decide +kernel
theorem dX13_moreTrust_68 : decode cX13_moreTrust 68 = .ok (.iload_n 3, 1) := by decide +kernel
theorem dX13_moreTrust_69 : decode cX13_moreTrust 69 = .ok (.if_icmp .gt 12, 3) := by decide +kernel
theorem dX13_moreTrust_72 : decode cX13_moreTrust 72 = .ok (.aload_n 0, 1) := by decide +kernel
theorem dX13_moreTrust_73 : decode cX13_moreTrust 73 = .ok (.getfield 66, 3) := by decide +kernel
theorem dX13_moreTrust_76 : decode cX13_moreTrust 76 = .ok (.iload 7, 2) := by decide +kernel
theorem dX13_moreTrust_78 : decode cX13_moreTrust 78 = .ok (.iaload, 1) := by decide +kernel
theorem dX13_moreTrust_79 : decode cX13_moreTrust 79 = .ok (.istore 6, 2) := by decide +kernel
theorem dX13_moreTrust_81 : decode cX13_moreTrust 81 = .ok (.iinc 7 1, 3) := by decide +kernel
theorem dX13_moreTrust_84 : decode cX13_moreTrust 84 = .ok (.goto (-66), 3) := by decide +kernel
theorem dX13_moreTrust_87 : decode cX13_moreTrust 87 = .ok (.iload 4, 2) := by decide +kernel
theorem dX13_moreTrust_89 : decode cX13_moreTrust 89 = .ok (.iload 6, 2) := by decide +kernel
theorem dX13_moreTrust_91 : decode cX13_moreTrust 91 = .ok (.iconst 1, 1) := by decide +kernel
theorem dX13_moreTrust_92 : decode cX13_moreTrust 92 = .ok (.if_icmp .ne 13, 3) := by decide +kernel
theorem dX13_moreTrust_95 : decode cX13_moreTrust 95 = .ok (.aload_n 0, 1) := by decide +kernel
theorem dX13_moreTrust_96 : decode cX13_moreTrust 96 = .ok (.getfield 54, 3) := by decide +kernel
theorem dX13_moreTrust_99 : decode cX13_moreTrust 99 = .ok (.iload 5, 2) := by decide +kernel
theorem dX13_moreTrust_101 : decode cX13_moreTrust 101 = .ok (.iaload, 1) := by decide +kernel
theorem dX13_moreTrust_102 : decode cX13_moreTrust 102 = .ok (.goto 20, 3) := by decide +kernel
theorem dX13_moreTrust_105 : decode cX13_moreTrust 105 = .ok (.iload 6, 2) := by decide +kernel
theorem dX13_moreTrust_107 : decode cX13_moreTrust 107 = .ok (.ifCond .ne 14, 3) := by decide +kernel
theorem dX13_moreTrust_110 : decode cX13_moreTrust 110 = .ok (.aload_n 0, 1) := by decide +kernel
theorem dX13_moreTrust_111 : decode cX13_moreTrust 111 = .ok (.getfield 54, 3) := by decide +kernel
theorem dX13_moreTrust_114 : decode cX13_moreTrust 114 = .ok (.iload 5, 2) := by decide +kernel
theorem dX13_moreTrust_116 : decode cX13_moreTrust 116 = .ok (.iaload, 1) := by decide +kernel
theorem dX13_moreTrust_117 : decode cX13_moreTrust 117 = .ok (.ineg, 1) := by decide +kernel
theorem dX13_moreTrust_118 : decode cX13_moreTrust 118 = .ok (.goto 4, 3) := by decide +kernel
theorem dX13_moreTrust_121 : decode cX13_moreTrust 121 = .ok (.iconst 0, 1) := by decide +kernel
theorem dX13_moreTrust_122 : decode cX13_moreTrust 122 = .ok (.iadd, 1) := by decide +kernel
theorem dX13_moreTrust_123 : decode cX13_moreTrust 123 = .ok (.istore 4, 2) := by decide +kernel
theorem dX13_moreTrust_125 : decode cX13_moreTrust 125 = .ok (.iinc 5 1, 3) := by decide +kernel
theorem dX13_moreTrust_128 : decode cX13_moreTrust 128 = .ok (.goto (-122), 3) := by decide +kernel
theorem dX13_moreTrust_131 : decode cX13_moreTrust 131 = .ok (.iload 4, 2) := by decide +kernel
theorem dX13_moreTrust_133 : decode cX13_moreTrust 133 = .ok (.ireturn, 1) := by decide +kernel
noncomputable def f_X13_moreTrust_122 (rec6 : Int32 → Int32 → Int32 → Int32 → Int32 → jM → Option (Int32 × jM)) (l1 : Int32) (l2 : Int32) (l3 : Int32) (l5 : Int32) (s0 : Int32) (s1 : Int32) (σ : jM) : Option (Int32 × jM) :=
  rec6 l1 l2 l3 (s0 + s1) (l5 + 1) σ
noncomputable def f_X13_moreTrust_81 (rec6 : Int32 → Int32 → Int32 → Int32 → Int32 → jM → Option (Int32 × jM)) (rec18 : Int32 → Int32 → Int32 → Int32 → Int32 → Int32 → Int32 → jM → Option (Int32 × jM)) (l1 : Int32) (l2 : Int32) (l3 : Int32) (l4 : Int32) (l5 : Int32) (l6 : Int32) (l7 : Int32) (σ : jM) : Option (Int32 × jM) :=
  rec18 l1 l2 l3 l4 l5 l6 (l7 + 1) σ
noncomputable def s_X13_moreTrust_18 (rec6 : Int32 → Int32 → Int32 → Int32 → Int32 → jM → Option (Int32 × jM)) (rec18 : Int32 → Int32 → Int32 → Int32 → Int32 → Int32 → Int32 → jM → Option (Int32 × jM)) (l1 : Int32) (l2 : Int32) (l3 : Int32) (l4 : Int32) (l5 : Int32) (l6 : Int32) (l7 : Int32) (σ : jM) : Option (Int32 × jM) :=
  (if (rI σ 324 25) ≤ l7 then (if l6 = 1 then gd (inb l5 4) (f_X13_moreTrust_122 rec6 l1 l2 l3 l5 l4 (rI σ 337 (Int32.toNatClampNeg l5)) σ) else (if l6 = 0 then gd (inb l5 4) (f_X13_moreTrust_122 rec6 l1 l2 l3 l5 l4 (-(rI σ 337 (Int32.toNatClampNeg l5))) σ) else f_X13_moreTrust_122 rec6 l1 l2 l3 l5 l4 0 σ)) else gd (inb l7 200) ((if (rI σ 338 (Int32.toNatClampNeg l7)) = l5 then gd (inb l7 200) ((if (rI σ 339 (Int32.toNatClampNeg l7)) = l1 then gd (inb l7 200) ((if (rI σ 340 (Int32.toNatClampNeg l7)) = l2 then gd (inb l7 200) ((if l3 < (rI σ 342 (Int32.toNatClampNeg l7)) then f_X13_moreTrust_81 rec6 rec18 l1 l2 l3 l4 l5 l6 l7 σ else gd (inb l7 200) (f_X13_moreTrust_81 rec6 rec18 l1 l2 l3 l4 l5 (rI σ 341 (Int32.toNatClampNeg l7)) l7 σ))) else f_X13_moreTrust_81 rec6 rec18 l1 l2 l3 l4 l5 l6 l7 σ)) else f_X13_moreTrust_81 rec6 rec18 l1 l2 l3 l4 l5 l6 l7 σ)) else f_X13_moreTrust_81 rec6 rec18 l1 l2 l3 l4 l5 l6 l7 σ)))
noncomputable def f_X13_moreTrust_18 (rec6 : Int32 → Int32 → Int32 → Int32 → Int32 → jM → Option (Int32 × jM)) (n : Nat) : Int32 → Int32 → Int32 → Int32 → Int32 → Int32 → Int32 → jM → Option (Int32 × jM) := Nat.rec (motive := fun _ => Int32 → Int32 → Int32 → Int32 → Int32 → Int32 → Int32 → jM → Option (Int32 × jM)) (fun _ _ _ _ _ _ _ _ => none) (fun _ q => s_X13_moreTrust_18 rec6 q) n
noncomputable def s_X13_moreTrust_6  (rec6 : Int32 → Int32 → Int32 → Int32 → Int32 → jM → Option (Int32 × jM)) (l1 : Int32) (l2 : Int32) (l3 : Int32) (l4 : Int32) (l5 : Int32) (σ : jM) : Option (Int32 × jM) :=
  (if 4 ≤ l5 then some (l4, σ) else f_X13_moreTrust_18 rec6 Fu l1 l2 l3 l4 l5 2 0 σ)
noncomputable def f_X13_moreTrust_6  (n : Nat) : Int32 → Int32 → Int32 → Int32 → Int32 → jM → Option (Int32 × jM) := Nat.rec (motive := fun _ => Int32 → Int32 → Int32 → Int32 → Int32 → jM → Option (Int32 × jM)) (fun _ _ _ _ _ _ => none) (fun _ q => s_X13_moreTrust_6  q) n
noncomputable def f_X13_moreTrust (a1 : Int32) (a2 : Int32) (a3 : Int32) (σ : jM) : Option (Int32 × jM) :=
  f_X13_moreTrust_6  Fu a1 a2 a3 0 0 σ
set_option maxRecDepth 20000 in
set_option maxHeartbeats 4000000 in
theorem t_X13_moreTrust_122 {rec6 : Int32 → Int32 → Int32 → Int32 → Int32 → jM → Option (Int32 × jM)} (hrec6 : ∀ (l1 : Int32) (l2 : Int32) (l3 : Int32) (l4 : Int32) (l5 : Int32) (σ : jM) (r : Int32 × jM), rec6 l1 l2 l3 l4 l5 σ = some r → J mi_X13_moreTrust 1 0 0 (jqI r) 6 [(0, .ref 324), (1, .int l1), (2, .int l2), (3, .int l3), (4, .int l4), (5, .int l5)] [] (ms σ)) (l1 : Int32) (l2 : Int32) (l3 : Int32) (l5 : Int32) (s0 : Int32) (s1 : Int32) (σ : jM) (r : Int32 × jM)  (h : f_X13_moreTrust_122 rec6 l1 l2 l3 l5 s0 s1 σ = some r) : J mi_X13_moreTrust 1 0 0 (jqI r) 122 [(0, .ref 324), (1, .int l1), (2, .int l2), (3, .int l3), (5, .int l5)] [.int s1, .int s0] (ms σ) := by
  unfold f_X13_moreTrust_122 at h
  refine J_iadd dX13_moreTrust_122 ?_
  refine J_istore (i := 4) (ls' := [(4, .int (s0 + s1)), (0, .ref 324), (1, .int l1), (2, .int l2), (3, .int l3), (5, .int l5)]) dX13_moreTrust_123 (by decide) rfl ?_
  refine J_iinc (v := (l5 + 1)) (ls' := [(5, .int (l5 + 1)), (4, .int (s0 + s1)), (0, .ref 324), (1, .int l1), (2, .int l2), (3, .int l3)]) 5 dX13_moreTrust_125 rfl rfl (by decide) rfl ?_
  refine J_goto (tgt := 6) dX13_moreTrust_128 (by decide) ?_
  refine J_pick [2, 3, 4, 5, 1, 0] rfl ?_
  exact hrec6 _ _ _ _ _ _ _  h
set_option maxRecDepth 20000 in
set_option maxHeartbeats 4000000 in
theorem t_X13_moreTrust_81 {rec6 : Int32 → Int32 → Int32 → Int32 → Int32 → jM → Option (Int32 × jM)} (hrec6 : ∀ (l1 : Int32) (l2 : Int32) (l3 : Int32) (l4 : Int32) (l5 : Int32) (σ : jM) (r : Int32 × jM), rec6 l1 l2 l3 l4 l5 σ = some r → J mi_X13_moreTrust 1 0 0 (jqI r) 6 [(0, .ref 324), (1, .int l1), (2, .int l2), (3, .int l3), (4, .int l4), (5, .int l5)] [] (ms σ)) {rec18 : Int32 → Int32 → Int32 → Int32 → Int32 → Int32 → Int32 → jM → Option (Int32 × jM)} (hrec18 : ∀ (l1 : Int32) (l2 : Int32) (l3 : Int32) (l4 : Int32) (l5 : Int32) (l6 : Int32) (l7 : Int32) (σ : jM) (r : Int32 × jM), rec18 l1 l2 l3 l4 l5 l6 l7 σ = some r → J mi_X13_moreTrust 1 0 0 (jqI r) 18 [(0, .ref 324), (1, .int l1), (2, .int l2), (3, .int l3), (4, .int l4), (5, .int l5), (6, .int l6), (7, .int l7)] [] (ms σ)) (l1 : Int32) (l2 : Int32) (l3 : Int32) (l4 : Int32) (l5 : Int32) (l6 : Int32) (l7 : Int32) (σ : jM) (r : Int32 × jM)  (h : f_X13_moreTrust_81 rec6 rec18 l1 l2 l3 l4 l5 l6 l7 σ = some r) : J mi_X13_moreTrust 1 0 0 (jqI r) 81 [(0, .ref 324), (1, .int l1), (2, .int l2), (3, .int l3), (4, .int l4), (5, .int l5), (6, .int l6), (7, .int l7)] [] (ms σ) := by
  unfold f_X13_moreTrust_81 at h
  refine J_iinc (v := (l7 + 1)) (ls' := [(7, .int (l7 + 1)), (0, .ref 324), (1, .int l1), (2, .int l2), (3, .int l3), (4, .int l4), (5, .int l5), (6, .int l6)]) 7 dX13_moreTrust_81 rfl rfl (by decide) rfl ?_
  refine J_goto (tgt := 18) dX13_moreTrust_84 (by decide) ?_
  refine J_pick [1, 2, 3, 4, 5, 6, 7, 0] rfl ?_
  exact hrec18 _ _ _ _ _ _ _ _ _  h
set_option maxRecDepth 20000 in
set_option maxHeartbeats 4000000 in
theorem t_X13_moreTrust_18 {rec6 : Int32 → Int32 → Int32 → Int32 → Int32 → jM → Option (Int32 × jM)} (hrec6 : ∀ (l1 : Int32) (l2 : Int32) (l3 : Int32) (l4 : Int32) (l5 : Int32) (σ : jM) (r : Int32 × jM), rec6 l1 l2 l3 l4 l5 σ = some r → J mi_X13_moreTrust 1 0 0 (jqI r) 6 [(0, .ref 324), (1, .int l1), (2, .int l2), (3, .int l3), (4, .int l4), (5, .int l5)] [] (ms σ)) : ∀ (n : Nat) (l1 : Int32) (l2 : Int32) (l3 : Int32) (l4 : Int32) (l5 : Int32) (l6 : Int32) (l7 : Int32) (σ : jM) (r : Int32 × jM), f_X13_moreTrust_18 rec6 n l1 l2 l3 l4 l5 l6 l7 σ = some r → J mi_X13_moreTrust 1 0 0 (jqI r) 18 [(0, .ref 324), (1, .int l1), (2, .int l2), (3, .int l3), (4, .int l4), (5, .int l5), (6, .int l6), (7, .int l7)] [] (ms σ) := by
  intro n
  induction n with
  | zero =>
    intro l1 l2 l3 l4 l5 l6 l7 σ r  h
    have h : (none : Option (Int32 × jM)) = some r := h
    cases h
  | succ n ih =>
    intro l1 l2 l3 l4 l5 l6 l7 σ r  h
    have h : s_X13_moreTrust_18 rec6 (f_X13_moreTrust_18 rec6 n) l1 l2 l3 l4 l5 l6 l7 σ = some r := h
    unfold s_X13_moreTrust_18 at h
    refine J_iload 7 dX13_moreTrust_18 rfl ?_
    refine J_aload_n 0 dX13_moreTrust_20 rfl ?_
    refine M_getI gf_X13_291_12 dX13_moreTrust_21 k_324 n_324 ?_
    refine J_icmp_ge (tgt := 87) dX13_moreTrust_24 (by decide) (fun c22 => ?_) (fun c22 => ?_)
    · have h := (if_pos c22).symm.trans h
      refine J_iload 4 dX13_moreTrust_87 rfl ?_
      refine J_iload 6 dX13_moreTrust_89 rfl ?_
      refine J_iconst (v := 1) dX13_moreTrust_91 (by decide) ?_
      refine J_icmp_ne (tgt := 105) dX13_moreTrust_92 (by decide) (fun c23 => ?_) (fun c23 => ?_)
      · have h := (if_neg c23).symm.trans h
        refine J_iload 6 dX13_moreTrust_105 rfl ?_
        refine J_if_ne (tgt := 121) dX13_moreTrust_107 (by decide) (fun c24 => ?_) (fun c24 => ?_)
        · have h := (if_neg c24).symm.trans h
          refine J_iconst (v := 0) dX13_moreTrust_121 (by decide) ?_
          refine J_pick [0, 1, 2, 3, 5] rfl ?_
          exact t_X13_moreTrust_122 hrec6 _ _ _ _ _ _ _ _  h
        · have h := (if_pos c24).symm.trans h
          refine J_aload_n 0 dX13_moreTrust_110 rfl ?_
          refine M_getR gf_X13_54_12 dX13_moreTrust_111 (g_324_24 _) k_324 n_324 ?_
          refine J_iload 5 dX13_moreTrust_114 rfl ?_
          obtain ⟨g25, h⟩ := gd_inv h
          refine M_iald dX13_moreTrust_116 a_337 n_337 g25 ?_
          refine J_ineg dX13_moreTrust_117 ?_
          refine J_goto (tgt := 122) dX13_moreTrust_118 (by decide) ?_
          refine J_pick [0, 1, 2, 3, 5] rfl ?_
          exact t_X13_moreTrust_122 hrec6 _ _ _ _ _ _ _ _  h
      · have h := (if_pos c23).symm.trans h
        refine J_aload_n 0 dX13_moreTrust_95 rfl ?_
        refine M_getR gf_X13_54_12 dX13_moreTrust_96 (g_324_24 _) k_324 n_324 ?_
        refine J_iload 5 dX13_moreTrust_99 rfl ?_
        obtain ⟨g26, h⟩ := gd_inv h
        refine M_iald dX13_moreTrust_101 a_337 n_337 g26 ?_
        refine J_goto (tgt := 122) dX13_moreTrust_102 (by decide) ?_
        refine J_pick [0, 1, 2, 3, 5] rfl ?_
        exact t_X13_moreTrust_122 hrec6 _ _ _ _ _ _ _ _  h
    · have h := (if_neg c22).symm.trans h
      refine J_aload_n 0 dX13_moreTrust_27 rfl ?_
      refine M_getR gf_X13_57_12 dX13_moreTrust_28 (g_324_26 _) k_324 n_324 ?_
      refine J_iload 7 dX13_moreTrust_31 rfl ?_
      obtain ⟨g27, h⟩ := gd_inv h
      refine M_iald dX13_moreTrust_33 a_338 n_338 g27 ?_
      refine J_iload 5 dX13_moreTrust_34 rfl ?_
      refine J_icmp_ne (tgt := 81) dX13_moreTrust_36 (by decide) (fun c28 => ?_) (fun c28 => ?_)
      · have h := (if_neg c28).symm.trans h
        exact t_X13_moreTrust_81 hrec6 ih _ _ _ _ _ _ _ _ _  h
      · have h := (if_pos c28).symm.trans h
        refine J_aload_n 0 dX13_moreTrust_39 rfl ?_
        refine M_getR gf_X13_60_12 dX13_moreTrust_40 (g_324_27 _) k_324 n_324 ?_
        refine J_iload 7 dX13_moreTrust_43 rfl ?_
        obtain ⟨g29, h⟩ := gd_inv h
        refine M_iald dX13_moreTrust_45 a_339 n_339 g29 ?_
        refine J_iload_n 1 dX13_moreTrust_46 rfl ?_
        refine J_icmp_ne (tgt := 81) dX13_moreTrust_47 (by decide) (fun c30 => ?_) (fun c30 => ?_)
        · have h := (if_neg c30).symm.trans h
          exact t_X13_moreTrust_81 hrec6 ih _ _ _ _ _ _ _ _ _  h
        · have h := (if_pos c30).symm.trans h
          refine J_aload_n 0 dX13_moreTrust_50 rfl ?_
          refine M_getR gf_X13_63_12 dX13_moreTrust_51 (g_324_28 _) k_324 n_324 ?_
          refine J_iload 7 dX13_moreTrust_54 rfl ?_
          obtain ⟨g31, h⟩ := gd_inv h
          refine M_iald dX13_moreTrust_56 a_340 n_340 g31 ?_
          refine J_iload_n 2 dX13_moreTrust_57 rfl ?_
          refine J_icmp_ne (tgt := 81) dX13_moreTrust_58 (by decide) (fun c32 => ?_) (fun c32 => ?_)
          · have h := (if_neg c32).symm.trans h
            exact t_X13_moreTrust_81 hrec6 ih _ _ _ _ _ _ _ _ _  h
          · have h := (if_pos c32).symm.trans h
            refine J_aload_n 0 dX13_moreTrust_61 rfl ?_
            refine M_getR gf_X13_69_12 dX13_moreTrust_62 (g_324_30 _) k_324 n_324 ?_
            refine J_iload 7 dX13_moreTrust_65 rfl ?_
            obtain ⟨g33, h⟩ := gd_inv h
            refine M_iald dX13_moreTrust_67 a_342 n_342 g33 ?_
            refine J_iload_n 3 dX13_moreTrust_68 rfl ?_
            refine J_icmp_gt (tgt := 81) dX13_moreTrust_69 (by decide) (fun c34 => ?_) (fun c34 => ?_)
            · have h := (if_pos c34).symm.trans h
              exact t_X13_moreTrust_81 hrec6 ih _ _ _ _ _ _ _ _ _  h
            · have h := (if_neg c34).symm.trans h
              refine J_aload_n 0 dX13_moreTrust_72 rfl ?_
              refine M_getR gf_X13_66_12 dX13_moreTrust_73 (g_324_29 _) k_324 n_324 ?_
              refine J_iload 7 dX13_moreTrust_76 rfl ?_
              obtain ⟨g35, h⟩ := gd_inv h
              refine M_iald dX13_moreTrust_78 a_341 n_341 g35 ?_
              refine J_istore (i := 6) (ls' := [(6, .int (rI σ 341 (Int32.toNatClampNeg l7))), (0, .ref 324), (1, .int l1), (2, .int l2), (3, .int l3), (4, .int l4), (5, .int l5), (7, .int l7)]) dX13_moreTrust_79 (by decide) rfl ?_
              refine J_pick [1, 2, 3, 4, 5, 6, 0, 7] rfl ?_
              exact t_X13_moreTrust_81 hrec6 ih _ _ _ _ _ _ _ _ _  h
set_option maxRecDepth 20000 in
set_option maxHeartbeats 4000000 in
theorem t_X13_moreTrust_6  : ∀ (n : Nat) (l1 : Int32) (l2 : Int32) (l3 : Int32) (l4 : Int32) (l5 : Int32) (σ : jM) (r : Int32 × jM), f_X13_moreTrust_6  n l1 l2 l3 l4 l5 σ = some r → J mi_X13_moreTrust 1 0 0 (jqI r) 6 [(0, .ref 324), (1, .int l1), (2, .int l2), (3, .int l3), (4, .int l4), (5, .int l5)] [] (ms σ) := by
  intro n
  induction n with
  | zero =>
    intro l1 l2 l3 l4 l5 σ r  h
    have h : (none : Option (Int32 × jM)) = some r := h
    cases h
  | succ n ih =>
    intro l1 l2 l3 l4 l5 σ r  h
    have h : s_X13_moreTrust_6  (f_X13_moreTrust_6  n) l1 l2 l3 l4 l5 σ = some r := h
    unfold s_X13_moreTrust_6 at h
    refine J_iload 5 dX13_moreTrust_6 rfl ?_
    refine J_iconst (v := 4) dX13_moreTrust_8 (by decide) ?_
    refine J_icmp_ge (tgt := 131) dX13_moreTrust_9 (by decide) (fun c37 => ?_) (fun c37 => ?_)
    · have h := (if_pos c37).symm.trans h
      refine J_iload 4 dX13_moreTrust_131 rfl ?_
      exact J_ret (v := some (.int l4)) rfl ⟨dX13_moreTrust_133, Or.inl rfl⟩ (jqI_mk h)
    · have h := (if_neg c37).symm.trans h
      refine J_iconst (v := 2) dX13_moreTrust_12 (by decide) ?_
      refine J_istore (i := 6) (ls' := [(6, .int 2), (0, .ref 324), (1, .int l1), (2, .int l2), (3, .int l3), (4, .int l4), (5, .int l5)]) dX13_moreTrust_13 (by decide) rfl ?_
      refine J_iconst (v := 0) dX13_moreTrust_15 (by decide) ?_
      refine J_istore (i := 7) (ls' := [(7, .int 0), (6, .int 2), (0, .ref 324), (1, .int l1), (2, .int l2), (3, .int l3), (4, .int l4), (5, .int l5)]) dX13_moreTrust_16 (by decide) rfl ?_
      refine J_pick [2, 3, 4, 5, 6, 7, 1, 0] rfl ?_
      exact t_X13_moreTrust_18 ih _ _ _ _ _ _ _ _ _ _  h
set_option maxRecDepth 20000 in
set_option maxHeartbeats 4000000 in
theorem t_X13_moreTrust {a1 : Int32} {a2 : Int32} {a3 : Int32} {σ : jM} {r : Int32 × jM}  (h : f_X13_moreTrust a1 a2 a3 σ = some r) : J mi_X13_moreTrust 1 0 0 (jqI r) 0 [(0, .ref 324), (1, .int a1), (2, .int a2), (3, .int a3)] [] (ms σ) := by
  unfold f_X13_moreTrust at h
  refine J_iconst (v := 0) dX13_moreTrust_0 (by decide) ?_
  refine J_istore (i := 4) (ls' := [(4, .int 0), (0, .ref 324), (1, .int a1), (2, .int a2), (3, .int a3)]) dX13_moreTrust_1 (by decide) rfl ?_
  refine J_iconst (v := 0) dX13_moreTrust_3 (by decide) ?_
  refine J_istore (i := 5) (ls' := [(5, .int 0), (4, .int 0), (0, .ref 324), (1, .int a1), (2, .int a2), (3, .int a3)]) dX13_moreTrust_4 (by decide) rfl ?_
  refine J_pick [2, 3, 4, 5, 1, 0] rfl ?_
  exact t_X13_moreTrust_6  _ _ _ _ _ _ _ _  h
