theorem dX13_findLinks_0 : decode cX13_findLinks 0 = .ok (.aload_n 0, 1) := by decide +kernel
theorem dX13_findLinks_1 : decode cX13_findLinks 1 = .ok (.iload_n 1, 1) := by decide +kernel
theorem dX13_findLinks_2 : decode cX13_findLinks 2 = .ok (.invokevirtual 301, 3) := by decide +kernel
theorem dX13_findLinks_5 : decode cX13_findLinks 5 = .ok (.aload_n 0, 1) := by decide +kernel
theorem dX13_findLinks_6 : decode cX13_findLinks 6 = .ok (.iload_n 1, 1) := by decide +kernel
theorem dX13_findLinks_7 : decode cX13_findLinks 7 = .ok (.invokevirtual 329, 3) := by decide +kernel
theorem dX13_findLinks_10 : decode cX13_findLinks 10 = .ok (.iconst 0, 1) := by decide +kernel
theorem dX13_findLinks_11 : decode cX13_findLinks 11 = .ok (.istore_n 2, 1) := by decide +kernel
theorem dX13_findLinks_12 : decode cX13_findLinks 12 = .ok (.iload_n 2, 1) := by decide +kernel
theorem dX13_findLinks_13 : decode cX13_findLinks 13 = .ok (.sipush 3200, 3) := by decide +kernel
theorem dX13_findLinks_16 : decode cX13_findLinks 16 = .ok (.if_icmp .ge 23, 3) := by decide +kernel
theorem dX13_findLinks_19 : decode cX13_findLinks 19 = .ok (.aload_n 0, 1) := by decide +kernel
theorem dX13_findLinks_20 : decode cX13_findLinks 20 = .ok (.getfield 100, 3) := by decide +kernel
theorem dX13_findLinks_23 : decode cX13_findLinks 23 = .ok (.iload_n 2, 1) := by decide +kernel
theorem dX13_findLinks_24 : decode cX13_findLinks 24 = .ok (.iconst 0, 1) := by decide +kernel
theorem dX13_findLinks_25 : decode cX13_findLinks 25 = .ok (.bastore, 1) := by decide +kernel
theorem dX13_findLinks_26 : decode cX13_findLinks 26 = .ok (.aload_n 0, 1) := by decide +kernel
theorem dX13_findLinks_27 : decode cX13_findLinks 27 = .ok (.getfield 103, 3) := by decide +kernel
theorem dX13_findLinks_30 : decode cX13_findLinks 30 = .ok (.iload_n 2, 1) := by decide +kernel
theorem dX13_findLinks_31 : decode cX13_findLinks 31 = .ok (.iconst 0, 1) := by decide +kernel
theorem dX13_findLinks_32 : decode cX13_findLinks 32 = .ok (.bastore, 1) := by decide +kernel
theorem dX13_findLinks_33 : decode cX13_findLinks 33 = .ok (.iinc 2 1, 3) := by decide +kernel
theorem dX13_findLinks_36 : decode cX13_findLinks 36 = .ok (.goto (-24), 3) := by decide +kernel
theorem dX13_findLinks_39 : decode cX13_findLinks 39 = .ok (.aload_n 0, 1) := by decide +kernel
theorem dX13_findLinks_40 : decode cX13_findLinks 40 = .ok (.iload_n 1, 1) := by decide +kernel
theorem dX13_findLinks_41 : decode cX13_findLinks 41 = .ok (.invokevirtual 326, 3) := by decide +kernel
theorem dX13_findLinks_44 : decode cX13_findLinks 44 = .ok (.istore_n 2, 1) := by decide +kernel
theorem dX13_findLinks_45 : decode cX13_findLinks 45 = .ok (.iconst 0, 1) := by decide +kernel
theorem dX13_findLinks_46 : decode cX13_findLinks 46 = .ok (.istore_n 3, 1) := by decide +kernel
theorem dX13_findLinks_47 : decode cX13_findLinks 47 = .ok (.iload_n 2, 1) := by decide +kernel
theorem dX13_findLinks_48 : decode cX13_findLinks 48 = .ok (.iconst (-1), 1) := by decide +kernel
theorem dX13_findLinks_49 : decode cX13_findLinks 49 = .ok (.if_icmp .eq 44, 3) := by decide +kernel
theorem dX13_findLinks_52 : decode cX13_findLinks 52 = .ok (.iload_n 3, 1) := by decide +kernel
theorem dX13_findLinks_53 : decode cX13_findLinks 53 = .ok (.aload_n 0, 1) := by decide +kernel
theorem dX13_findLinks_54 : decode cX13_findLinks 54 = .ok (.getfield 32, 3) := by decide +kernel
theorem dX13_findLinks_57 : decode cX13_findLinks 57 = .ok (.iload_n 2, 1) := by decide +kernel
theorem dX13_findLinks_58 : decode cX13_findLinks 58 = .ok (.iaload, 1) := by decide +kernel
theorem dX13_findLinks_59 : decode cX13_findLinks 59 = .ok (.if_icmp .ge 34, 3) := by decide +kernel
theorem dX13_findLinks_62 : decode cX13_findLinks 62 = .ok (.aload_n 0, 1) := by decide +kernel
theorem dX13_findLinks_63 : decode cX13_findLinks 63 = .ok (.getfield 35, 3) := by decide +kernel
theorem dX13_findLinks_66 : decode cX13_findLinks 66 = .ok (.bipush 12, 2) := by decide +kernel
theorem dX13_findLinks_68 : decode cX13_findLinks 68 = .ok (.iload_n 2, 1) := by decide +kernel
theorem dX13_findLinks_69 : decode cX13_findLinks 69 = .ok (.imul, 1) := by decide +kernel
theorem dX13_findLinks_70 : decode cX13_findLinks 70 = .ok (.iload_n 3, 1) := by decide +kernel
theorem dX13_findLinks_71 : decode cX13_findLinks 71 = .ok (.iadd, 1) := by decide +kernel
theorem dX13_findLinks_72 : decode cX13_findLinks 72 = .ok (.iaload, 1) := by decide +kernel
theorem dX13_findLinks_73 : decode cX13_findLinks 73 = .ok (.iconst 2, 1) := by decide +kernel
theorem dX13_findLinks_74 : decode cX13_findLinks 74 = .ok (.if_icmp .ge 13, 3) := by decide +kernel
theorem dX13_findLinks_77 : decode cX13_findLinks 77 = .ok (.aload_n 0, 1) := by decide +kernel
theorem dX13_findLinks_78 : decode cX13_findLinks 78 = .ok (.bipush 12, 2) := by decide +kernel
theorem dX13_findLinks_80 : decode cX13_findLinks 80 = .ok (.iload_n 2, 1) := by decide +kernel
theorem dX13_findLinks_81 : decode cX13_findLinks 81 = .ok (.imul, 1) := by decide +kernel
theorem dX13_findLinks_82 : decode cX13_findLinks 82 = .ok (.iload_n 3, 1) := by decide +kernel
theorem dX13_findLinks_83 : decode cX13_findLinks 83 = .ok (.iadd, 1) := by decide +kernel
theorem dX13_findLinks_84 : decode cX13_findLinks 84 = .ok (.invokevirtual 335, 3) := by decide +kernel
theorem dX13_findLinks_87 : decode cX13_findLinks 87 = .ok (.iinc 3 1, 3) := by decide +kernel
theorem dX13_findLinks_90 : decode cX13_findLinks 90 = .ok (.goto (-43), 3) := by decide +kernel
theorem dX13_findLinks_93 : decode cX13_findLinks 93 = .ok (.iconst 0, 1) := by decide +kernel
theorem dX13_findLinks_94 : decode cX13_findLinks 94 = .ok (.istore_n 3, 1) := by decide +kernel
theorem dX13_findLinks_95 : decode cX13_findLinks 95 = .ok (.iload_n 3, 1) := by decide +kernel
theorem dX13_findLinks_96 : decode cX13_findLinks 96 = .ok (.aload_n 0, 1) := by decide +kernel
theorem dX13_findLinks_97 : decode cX13_findLinks 97 = .ok (.getfield 304, 3) := by decide +kernel
theorem dX13_findLinks_100 : decode cX13_findLinks 100 = .ok (.if_icmp .ge 140, 3) := by decide +kernel
theorem dX13_findLinks_103 : decode cX13_findLinks 103 = .ok (.aload_n 0, 1) := by decide +kernel
theorem dX13_findLinks_104 : decode cX13_findLinks 104 = .ok (.getfield 72, 3) := by decide +kernel
theorem dX13_findLinks_107 : decode cX13_findLinks 107 = .ok (.aload_n 0, 1) := by decide +kernel
theorem dX13_findLinks_108 : decode cX13_findLinks 108 = .ok (.getfield 78, 3) := by decide +kernel
theorem dX13_findLinks_111 : decode cX13_findLinks 111 = .ok (.iload_n 3, 1) := by decide +kernel
theorem dX13_findLinks_112 : decode cX13_findLinks 112 = .ok (.iaload, 1) := by decide +kernel
theorem dX13_findLinks_113 : decode cX13_findLinks 113 = .ok (.iaload, 1) := by decide +kernel
theorem dX13_findLinks_114 : decode cX13_findLinks 114 = .ok (.istore 4, 2) := by decide +kernel
theorem dX13_findLinks_116 : decode cX13_findLinks 116 = .ok (.aload_n 0, 1) := by decide +kernel
theorem dX13_findLinks_117 : decode cX13_findLinks 117 = .ok (.getfield 72, 3) := by decide +kernel
theorem dX13_findLinks_120 : decode cX13_findLinks 120 = .ok (.aload_n 0, 1) := by decide +kernel
theorem dX13_findLinks_121 : decode cX13_findLinks 121 = .ok (.getfield 81, 3) := by decide +kernel
theorem dX13_findLinks_124 : decode cX13_findLinks 124 = .ok (.iload_n 3, 1) := by decide +kernel
theorem dX13_findLinks_125 : decode cX13_findLinks 125 = .ok (.iaload, 1) := by decide +kernel
theorem dX13_findLinks_126 : decode cX13_findLinks 126 = .ok (.iaload, 1) := by decide +kernel
theorem dX13_findLinks_127 : decode cX13_findLinks 127 = .ok (.istore 5, 2) := by decide +kernel
theorem dX13_findLinks_129 : decode cX13_findLinks 129 = .ok (.iload 4, 2) := by decide +kernel
theorem dX13_findLinks_131 : decode cX13_findLinks 131 = .ok (.iload 5, 2) := by decide +kernel
theorem dX13_findLinks_133 : decode cX13_findLinks 133 = .ok (.if_icmp .eq 101, 3) := by decide +kernel
theorem dX13_findLinks_136 : decode cX13_findLinks 136 = .ok (.aload_n 0, 1) := by decide +kernel
theorem dX13_findLinks_137 : decode cX13_findLinks 137 = .ok (.getfield 88, 3) := by decide +kernel
theorem dX13_findLinks_140 : decode cX13_findLinks 140 = .ok (.iload_n 3, 1) := by decide +kernel
theorem dX13_findLinks_141 : decode cX13_findLinks 141 = .ok (.iaload, 1) := by decide +kernel
theorem dX13_findLinks_142 : decode cX13_findLinks 142 = .ok (.aload_n 0, 1) := by decide +kernel
theorem dX13_findLinks_143 : decode cX13_findLinks 143 = .ok (.getfield 91, 3) := by decide +kernel
theorem dX13_findLinks_146 : decode cX13_findLinks 146 = .ok (.iload_n 3, 1) := by decide +kernel
theorem dX13_findLinks_147 : decode cX13_findLinks 147 = .ok (.iaload, 1) := by decide +kernel
theorem dX13_findLinks_148 : decode cX13_findLinks 148 = .ok (.iload_n 1, 1) := by decide +kernel
theorem dX13_findLinks_149 : decode cX13_findLinks 149 = .ok (.invokestatic 177, 3) := by decide +kernel
theorem dX13_findLinks_152 : decode cX13_findLinks 152 = .ok (.ifCond .ne 6, 3) := by decide +kernel
theorem dX13_findLinks_155 : decode cX13_findLinks 155 = .ok (.goto 79, 3) := by decide +kernel
theorem dX13_findLinks_158 : decode cX13_findLinks 158 = .ok (.aload_n 0, 1) := by decide +kernel
theorem dX13_findLinks_159 : decode cX13_findLinks 159 = .ok (.getfield 84, 3) := by decide +kernel
theorem dX13_findLinks_162 : decode cX13_findLinks 162 = .ok (.iload_n 3, 1) := by decide +kernel
theorem dX13_findLinks_163 : decode cX13_findLinks 163 = .ok (.baload, 1) := by decide +kernel
theorem dX13_findLinks_164 : decode cX13_findLinks 164 = .ok (.ifCond .eq 20, 3) := by decide +kernel
theorem dX13_findLinks_167 : decode cX13_findLinks 167 = .ok (.aload_n 0, 1) := by decide +kernel
theorem dX13_findLinks_168 : decode cX13_findLinks 168 = .ok (.aload_n 0, 1) := by decide +kernel
theorem dX13_findLinks_169 : decode cX13_findLinks 169 = .ok (.getfield 75, 3) := by decide +kernel
theorem dX13_findLinks_172 : decode cX13_findLinks 172 = .ok (.iload_n 3, 1) := by decide +kernel
theorem dX13_findLinks_173 : decode cX13_findLinks 173 = .ok (.iaload, 1) := by decide +kernel
theorem dX13_findLinks_174 : decode cX13_findLinks 174 = .ok (.iload 4, 2) := by decide +kernel
theorem dX13_findLinks_176 : decode cX13_findLinks 176 = .ok (.iload 5, 2) := by decide +kernel
theorem dX13_findLinks_178 : decode cX13_findLinks 178 = .ok (.invokevirtual 338, 3) := by decide +kernel
theorem dX13_findLinks_181 : decode cX13_findLinks 181 = .ok (.goto 53, 3) := by decide +kernel
theorem dX13_findLinks_184 : decode cX13_findLinks 184 = .ok (.aload_n 0, 1) := by decide +kernel
theorem dX13_findLinks_185 : decode cX13_findLinks 185 = .ok (.getfield 103, 3) := by decide +kernel
theorem dX13_findLinks_188 : decode cX13_findLinks 188 = .ok (.sipush 1600, 3) := by decide +kernel
theorem dX13_findLinks_191 : decode cX13_findLinks 191 = .ok (.aload_n 0, 1) := by decide +kernel
theorem dX13_findLinks_192 : decode cX13_findLinks 192 = .ok (.getfield 75, 3) := by decide +kernel
theorem dX13_findLinks_195 : decode cX13_findLinks 195 = .ok (.iload_n 3, 1) := by decide +kernel
theorem dX13_findLinks_196 : decode cX13_findLinks 196 = .ok (.iaload, 1) := by decide +kernel
theorem dX13_findLinks_197 : decode cX13_findLinks 197 = .ok (.imul, 1) := by decide +kernel
theorem dX13_findLinks_198 : decode cX13_findLinks 198 = .ok (.bipush 40, 2) := by decide +kernel
theorem dX13_findLinks_200 : decode cX13_findLinks 200 = .ok (.iload 4, 2) := by decide +kernel
theorem dX13_findLinks_202 : decode cX13_findLinks 202 = .ok (.imul, 1) := by decide +kernel
theorem dX13_findLinks_203 : decode cX13_findLinks 203 = .ok (.iadd, 1) := by decide +kernel
theorem dX13_findLinks_204 : decode cX13_findLinks 204 = .ok (.iload 5, 2) := by decide +kernel
theorem dX13_findLinks_206 : decode cX13_findLinks 206 = .ok (.iadd, 1) := by decide +kernel
theorem dX13_findLinks_207 : decode cX13_findLinks 207 = .ok (.iconst 1, 1) := by decide +kernel
theorem dX13_findLinks_208 : decode cX13_findLinks 208 = .ok (.bastore, 1) := by decide +kernel
theorem dX13_findLinks_209 : decode cX13_findLinks 209 = .ok (.aload_n 0, 1) := by decide +kernel
theorem dX13_findLinks_210 : decode cX13_findLinks 210 = .ok (.getfield 103, 3) := by decide +kernel
theorem dX13_findLinks_213 : decode cX13_findLinks 213 = .ok (.sipush 1600, 3) := by decide +kernel
theorem dX13_findLinks_216 : decode cX13_findLinks 216 = .ok (.aload_n 0, 1) := by decide +kernel
theorem dX13_findLinks_217 : decode cX13_findLinks 217 = .ok (.getfield 75, 3) := by decide +kernel
theorem dX13_findLinks_220 : decode cX13_findLinks 220 = .ok (.iload_n 3, 1) := by decide +kernel
theorem dX13_findLinks_221 : decode cX13_findLinks 221 = .ok (.iaload, 1) := by decide +kernel
theorem dX13_findLinks_222 : decode cX13_findLinks 222 = .ok (.imul, 1) := by decide +kernel
theorem dX13_findLinks_223 : decode cX13_findLinks 223 = .ok (.bipush 40, 2) := by decide +kernel
theorem dX13_findLinks_225 : decode cX13_findLinks 225 = .ok (.iload 5, 2) := by decide +kernel
theorem dX13_findLinks_227 : decode cX13_findLinks 227 = .ok (.imul, 1) := by decide +kernel
theorem dX13_findLinks_228 : decode cX13_findLinks 228 = .ok (.iadd, 1) := by decide +kernel
theorem dX13_findLinks_229 : decode cX13_findLinks 229 = .ok (.iload 4, 2) := by decide +kernel
theorem dX13_findLinks_231 : decode cX13_findLinks 231 = .ok (.iadd, 1) := by decide +kernel
theorem dX13_findLinks_232 : decode cX13_findLinks 232 = .ok (.iconst 1, 1) := by decide +kernel
theorem dX13_findLinks_233 : decode cX13_findLinks 233 = .ok (.bastore, 1) := by decide +kernel
theorem dX13_findLinks_234 : decode cX13_findLinks 234 = .ok (.iinc 3 1, 3) := by decide +kernel
theorem dX13_findLinks_237 : decode cX13_findLinks 237 = .ok (.goto (-142), 3) := by decide +kernel
theorem dX13_findLinks_240 : decode cX13_findLinks 240 = .ok (.aload_n 0, 1) := by decide +kernel
theorem dX13_findLinks_241 : decode cX13_findLinks 241 = .ok (.invokevirtual 342, 3) := by decide +kernel
theorem dX13_findLinks_244 : decode cX13_findLinks 244 = .ok (.return_, 1) := by decide +kernel
noncomputable def f_X13_findLinks_234 (rec95 : Int32 → Int32 → jM → Option (Unit × jM)) (l1 : Int32) (l3 : Int32) (σ : jM) : Option (Unit × jM) :=
  rec95 l1 (l3 + 1) σ
noncomputable def s_X13_findLinks_95  (rec95 : Int32 → Int32 → jM → Option (Unit × jM)) (l1 : Int32) (l3 : Int32) (σ : jM) : Option (Unit × jM) :=
  (if (rI σ 324 32) ≤ l3 then bd (f_X13_findClasses  σ) (fun _ σ19 => some ((), σ19)) else gd (inb l3 60) (gd (inb (rI σ 345 (Int32.toNatClampNeg l3)) 40) (gd (inb l3 60) (gd (inb (rI σ 346 (Int32.toNatClampNeg l3)) 40) ((if (rI σ 343 (Int32.toNatClampNeg (rI σ 345 (Int32.toNatClampNeg l3)))) = (rI σ 343 (Int32.toNatClampNeg (rI σ 346 (Int32.toNatClampNeg l3)))) then f_X13_findLinks_234 rec95 l1 l3 σ else gd (inb l3 60) (gd (inb l3 60) (bd (f_X13_counts (rI σ 348 (Int32.toNatClampNeg l3)) (rI σ 349 (Int32.toNatClampNeg l3)) l1 σ) (fun r28 σ29 => (if r28 = 0 then f_X13_findLinks_234 rec95 l1 l3 σ29 else gd (inb l3 60) ((if (rI σ29 347 (Int32.toNatClampNeg l3)) = 0 then gd (inb l3 60) (gd (inb (((1600 * (rI σ29 344 (Int32.toNatClampNeg l3))) + (40 * (rI σ 343 (Int32.toNatClampNeg (rI σ 345 (Int32.toNatClampNeg l3)))))) + (rI σ 343 (Int32.toNatClampNeg (rI σ 346 (Int32.toNatClampNeg l3))))) 3200) (gd (inb l3 60) (gd (inb (((1600 * (rI (wI σ29 353 (Int32.toNatClampNeg (((1600 * (rI σ29 344 (Int32.toNatClampNeg l3))) + (40 * (rI σ 343 (Int32.toNatClampNeg (rI σ 345 (Int32.toNatClampNeg l3)))))) + (rI σ 343 (Int32.toNatClampNeg (rI σ 346 (Int32.toNatClampNeg l3)))))) (vp_nar .boolean 1)) 344 (Int32.toNatClampNeg l3))) + (40 * (rI σ 343 (Int32.toNatClampNeg (rI σ 346 (Int32.toNatClampNeg l3)))))) + (rI σ 343 (Int32.toNatClampNeg (rI σ 345 (Int32.toNatClampNeg l3))))) 3200) (f_X13_findLinks_234 rec95 l1 l3 (wI (wI σ29 353 (Int32.toNatClampNeg (((1600 * (rI σ29 344 (Int32.toNatClampNeg l3))) + (40 * (rI σ 343 (Int32.toNatClampNeg (rI σ 345 (Int32.toNatClampNeg l3)))))) + (rI σ 343 (Int32.toNatClampNeg (rI σ 346 (Int32.toNatClampNeg l3)))))) (vp_nar .boolean 1)) 353 (Int32.toNatClampNeg (((1600 * (rI (wI σ29 353 (Int32.toNatClampNeg (((1600 * (rI σ29 344 (Int32.toNatClampNeg l3))) + (40 * (rI σ 343 (Int32.toNatClampNeg (rI σ 345 (Int32.toNatClampNeg l3)))))) + (rI σ 343 (Int32.toNatClampNeg (rI σ 346 (Int32.toNatClampNeg l3)))))) (vp_nar .boolean 1)) 344 (Int32.toNatClampNeg l3))) + (40 * (rI σ 343 (Int32.toNatClampNeg (rI σ 346 (Int32.toNatClampNeg l3)))))) + (rI σ 343 (Int32.toNatClampNeg (rI σ 345 (Int32.toNatClampNeg l3)))))) (vp_nar .boolean 1)))))) else gd (inb l3 60) (bd (f_X13_links (rI σ29 344 (Int32.toNatClampNeg l3)) (rI σ 343 (Int32.toNatClampNeg (rI σ 345 (Int32.toNatClampNeg l3)))) (rI σ 343 (Int32.toNatClampNeg (rI σ 346 (Int32.toNatClampNeg l3)))) σ29) (fun _ σ40 => f_X13_findLinks_234 rec95 l1 l3 σ40))))))))))))))
noncomputable def f_X13_findLinks_95  (n : Nat) : Int32 → Int32 → jM → Option (Unit × jM) := Nat.rec (motive := fun _ => Int32 → Int32 → jM → Option (Unit × jM)) (fun _ _ _ => none) (fun _ q => s_X13_findLinks_95  q) n
noncomputable def f_X13_findLinks_93  (l1 : Int32) (σ : jM) : Option (Unit × jM) :=
  f_X13_findLinks_95  Fu l1 0 σ
noncomputable def f_X13_findLinks_87 (rec47 : Int32 → Int32 → Int32 → jM → Option (Unit × jM)) (l1 : Int32) (l2 : Int32) (l3 : Int32) (σ : jM) : Option (Unit × jM) :=
  rec47 l1 l2 (l3 + 1) σ
noncomputable def s_X13_findLinks_47  (rec47 : Int32 → Int32 → Int32 → jM → Option (Unit × jM)) (l1 : Int32) (l2 : Int32) (l3 : Int32) (σ : jM) : Option (Unit × jM) :=
  (if l2 = (-1) then f_X13_findLinks_93  l1 σ else gd (inb l2 11) ((if (rI σ 331 (Int32.toNatClampNeg l2)) ≤ l3 then f_X13_findLinks_93  l1 σ else gd (inb ((12 * l2) + l3) 132) ((if 2 ≤ (rI σ 332 (Int32.toNatClampNeg ((12 * l2) + l3))) then f_X13_findLinks_87 rec47 l1 l2 l3 σ else bd (f_X13_linksBy ((12 * l2) + l3) σ) (fun _ σ73 => f_X13_findLinks_87 rec47 l1 l2 l3 σ73))))))
noncomputable def f_X13_findLinks_47  (n : Nat) : Int32 → Int32 → Int32 → jM → Option (Unit × jM) := Nat.rec (motive := fun _ => Int32 → Int32 → Int32 → jM → Option (Unit × jM)) (fun _ _ _ _ => none) (fun _ q => s_X13_findLinks_47  q) n
noncomputable def s_X13_findLinks_12  (rec12 : Int32 → Int32 → jM → Option (Unit × jM)) (l1 : Int32) (l2 : Int32) (σ : jM) : Option (Unit × jM) :=
  (if 3200 ≤ l2 then bd (f_X13_rulesBy l1 σ) (fun r84 σ85 => f_X13_findLinks_47  Fu l1 r84 0 σ85) else gd (inb l2 3200) (gd (inb l2 3200) (rec12 l1 (l2 + 1) (wI (wI σ 352 (Int32.toNatClampNeg l2) (vp_nar .boolean 0)) 353 (Int32.toNatClampNeg l2) (vp_nar .boolean 0)))))
noncomputable def f_X13_findLinks_12  (n : Nat) : Int32 → Int32 → jM → Option (Unit × jM) := Nat.rec (motive := fun _ => Int32 → Int32 → jM → Option (Unit × jM)) (fun _ _ _ => none) (fun _ q => s_X13_findLinks_12  q) n
noncomputable def f_X13_findLinks (a1 : Int32) (σ : jM) : Option (Unit × jM) :=
  bd (f_X13_findStands a1 σ) (fun _ σ96 => bd (f_X13_findWholes a1 σ96) (fun _ σ99 => f_X13_findLinks_12  Fu a1 0 σ99))
set_option maxRecDepth 20000 in
set_option maxHeartbeats 4000000 in
theorem t_X13_findLinks_234 {rec95 : Int32 → Int32 → jM → Option (Unit × jM)} (hrec95 : ∀ (l1 : Int32) (l3 : Int32) (σ : jM) (r : Unit × jM), rec95 l1 l3 σ = some r → J mi_X13_findLinks 4 0 0 (jqV r) 95 [(0, .ref 324), (1, .int l1), (3, .int l3)] [] (ms σ)) (l1 : Int32) (l3 : Int32) (σ : jM) (r : Unit × jM)  (h : f_X13_findLinks_234 rec95 l1 l3 σ = some r) : J mi_X13_findLinks 4 0 0 (jqV r) 234 [(0, .ref 324), (1, .int l1), (3, .int l3)] [] (ms σ) := by
  unfold f_X13_findLinks_234 at h
  refine J_iinc (v := (l3 + 1)) (ls' := [(3, .int (l3 + 1)), (0, .ref 324), (1, .int l1)]) 2 dX13_findLinks_234 rfl rfl (by decide) rfl ?_
  refine J_goto (tgt := 95) dX13_findLinks_237 (by decide) ?_
  refine J_pick [1, 2, 0] rfl ?_
  exact hrec95 _ _ _ _  h
set_option maxRecDepth 20000 in
set_option maxHeartbeats 4000000 in
theorem t_X13_findLinks_95  : ∀ (n : Nat) (l1 : Int32) (l3 : Int32) (σ : jM) (r : Unit × jM), f_X13_findLinks_95  n l1 l3 σ = some r → J mi_X13_findLinks 4 0 0 (jqV r) 95 [(0, .ref 324), (1, .int l1), (3, .int l3)] [] (ms σ) := by
  intro n
  induction n with
  | zero =>
    intro l1 l3 σ r  h
    have h : (none : Option (Unit × jM)) = some r := h
    cases h
  | succ n ih =>
    intro l1 l3 σ r  h
    have h : s_X13_findLinks_95  (f_X13_findLinks_95  n) l1 l3 σ = some r := h
    unfold s_X13_findLinks_95 at h
    refine J_iload_n 2 dX13_findLinks_95 rfl ?_
    refine J_aload_n 0 dX13_findLinks_96 rfl ?_
    refine M_getI gf_X13_304_12 dX13_findLinks_97 k_324 n_324 ?_
    refine J_icmp_ge (tgt := 240) dX13_findLinks_100 (by decide) (fun c42 => ?_) (fun c42 => ?_)
    · have h := (if_pos c42).symm.trans h
      refine J_aload_n 0 dX13_findLinks_240 rfl ?_
      obtain ⟨_, σ44, h45, h⟩ := bd_inv h
      refine M_callVV (d' := 1) (k := 324) (As := []) (st := []) cv_X13_342 dX13_findLinks_241 rfl (by decide) rfl (Nat.le_of_ble_eq_true rfl) (Nat.le_of_ble_eq_true rfl) (by decide) n_324 k_324 rfl rfl (t_X13_findClasses  h45) ?_
      exact J_ret (v := none) rfl ⟨dX13_findLinks_244, rfl⟩ (jqV_mk h)
    · have h := (if_neg c42).symm.trans h
      refine J_aload_n 0 dX13_findLinks_103 rfl ?_
      refine M_getR gf_X13_72_12 dX13_findLinks_104 (g_324_31 _) k_324 n_324 ?_
      refine J_aload_n 0 dX13_findLinks_107 rfl ?_
      refine M_getR gf_X13_78_12 dX13_findLinks_108 (g_324_34 _) k_324 n_324 ?_
      refine J_iload_n 2 dX13_findLinks_111 rfl ?_
      obtain ⟨g46, h⟩ := gd_inv h
      refine M_iald dX13_findLinks_112 a_345 n_345 g46 ?_
      obtain ⟨g47, h⟩ := gd_inv h
      refine M_iald dX13_findLinks_113 a_343 n_343 g47 ?_
      refine J_istore (i := 4) (ls' := [(4, .int (rI σ 343 (Int32.toNatClampNeg (rI σ 345 (Int32.toNatClampNeg l3))))), (0, .ref 324), (1, .int l1), (3, .int l3)]) dX13_findLinks_114 (by decide) rfl ?_
      refine J_aload_n 1 dX13_findLinks_116 rfl ?_
      refine M_getR gf_X13_72_12 dX13_findLinks_117 (g_324_31 _) k_324 n_324 ?_
      refine J_aload_n 1 dX13_findLinks_120 rfl ?_
      refine M_getR gf_X13_81_12 dX13_findLinks_121 (g_324_35 _) k_324 n_324 ?_
      refine J_iload_n 3 dX13_findLinks_124 rfl ?_
      obtain ⟨g48, h⟩ := gd_inv h
      refine M_iald dX13_findLinks_125 a_346 n_346 g48 ?_
      obtain ⟨g49, h⟩ := gd_inv h
      refine M_iald dX13_findLinks_126 a_343 n_343 g49 ?_
      refine J_istore (i := 5) (ls' := [(5, .int (rI σ 343 (Int32.toNatClampNeg (rI σ 346 (Int32.toNatClampNeg l3))))), (4, .int (rI σ 343 (Int32.toNatClampNeg (rI σ 345 (Int32.toNatClampNeg l3))))), (0, .ref 324), (1, .int l1), (3, .int l3)]) dX13_findLinks_127 (by decide) rfl ?_
      refine J_iload 1 dX13_findLinks_129 rfl ?_
      refine J_iload 0 dX13_findLinks_131 rfl ?_
      refine J_icmp_eq (tgt := 234) dX13_findLinks_133 (by decide) (fun c50 => ?_) (fun c50 => ?_)
      · have h := (if_pos c50).symm.trans h
        refine J_pick [2, 3, 4] rfl ?_
        exact t_X13_findLinks_234 ih _ _ _ _  h
      · have h := (if_neg c50).symm.trans h
        refine J_aload_n 2 dX13_findLinks_136 rfl ?_
        refine M_getR gf_X13_88_12 dX13_findLinks_137 (g_324_37 _) k_324 n_324 ?_
        refine J_iload_n 4 dX13_findLinks_140 rfl ?_
        obtain ⟨g51, h⟩ := gd_inv h
        refine M_iald dX13_findLinks_141 a_348 n_348 g51 ?_
        refine J_aload_n 2 dX13_findLinks_142 rfl ?_
        refine M_getR gf_X13_91_12 dX13_findLinks_143 (g_324_38 _) k_324 n_324 ?_
        refine J_iload_n 4 dX13_findLinks_146 rfl ?_
        obtain ⟨g52, h⟩ := gd_inv h
        refine M_iald dX13_findLinks_147 a_349 n_349 g52 ?_
        refine J_iload_n 3 dX13_findLinks_148 rfl ?_
        obtain ⟨r53, σ54, h55, h⟩ := bd_inv h
        refine M_callSI (d' := 1) (As := [.int (rI σ 348 (Int32.toNatClampNeg l3)), .int (rI σ 349 (Int32.toNatClampNeg l3)), .int l1]) (st := []) cs_X13_177 dX13_findLinks_149 rfl (Nat.le_of_ble_eq_true rfl) (Nat.le_of_ble_eq_true rfl) (by decide) rfl rfl (t_X13_counts  h55) ?_
        refine J_if_ne (tgt := 158) dX13_findLinks_152 (by decide) (fun c56 => ?_) (fun c56 => ?_)
        · have h := (if_neg c56).symm.trans h
          refine J_aload_n 2 dX13_findLinks_158 rfl ?_
          refine M_getR gf_X13_84_12 dX13_findLinks_159 (g_324_36 _) k_324 n_324 ?_
          refine J_iload_n 4 dX13_findLinks_162 rfl ?_
          obtain ⟨g57, h⟩ := gd_inv h
          refine M_zald dX13_findLinks_163 a_347 n_347 g57 ?_
          refine J_if_eq (tgt := 184) dX13_findLinks_164 (by decide) (fun c58 => ?_) (fun c58 => ?_)
          · have h := (if_pos c58).symm.trans h
            refine J_aload_n 2 dX13_findLinks_184 rfl ?_
            refine M_getR gf_X13_103_12 dX13_findLinks_185 (g_324_43 _) k_324 n_324 ?_
            refine J_sipush (v := 1600) dX13_findLinks_188 (by decide) ?_
            refine J_aload_n 2 dX13_findLinks_191 rfl ?_
            refine M_getR gf_X13_75_12 dX13_findLinks_192 (g_324_33 _) k_324 n_324 ?_
            refine J_iload_n 4 dX13_findLinks_195 rfl ?_
            obtain ⟨g59, h⟩ := gd_inv h
            refine M_iald dX13_findLinks_196 a_344 n_344 g59 ?_
            refine J_imul dX13_findLinks_197 ?_
            refine J_bipush (v := 40) dX13_findLinks_198 (by decide) ?_
            refine J_iload 1 dX13_findLinks_200 rfl ?_
            refine J_imul dX13_findLinks_202 ?_
            refine J_iadd dX13_findLinks_203 ?_
            refine J_iload 0 dX13_findLinks_204 rfl ?_
            refine J_iadd dX13_findLinks_206 ?_
            refine J_iconst (v := 1) dX13_findLinks_207 (by decide) ?_
            obtain ⟨g60, h⟩ := gd_inv h
            refine M_zast dX13_findLinks_208 a_353 n_353 g60 ?_
            refine J_aload_n 2 dX13_findLinks_209 rfl ?_
            refine M_getR gf_X13_103_12 dX13_findLinks_210 (g_324_43 _) k_324 n_324 ?_
            refine J_sipush (v := 1600) dX13_findLinks_213 (by decide) ?_
            refine J_aload_n 2 dX13_findLinks_216 rfl ?_
            refine M_getR gf_X13_75_12 dX13_findLinks_217 (g_324_33 _) k_324 n_324 ?_
            refine J_iload_n 4 dX13_findLinks_220 rfl ?_
            obtain ⟨g61, h⟩ := gd_inv h
            refine M_iald dX13_findLinks_221 a_344 n_344 g61 ?_
            refine J_imul dX13_findLinks_222 ?_
            refine J_bipush (v := 40) dX13_findLinks_223 (by decide) ?_
            refine J_iload 0 dX13_findLinks_225 rfl ?_
            refine J_imul dX13_findLinks_227 ?_
            refine J_iadd dX13_findLinks_228 ?_
            refine J_iload 1 dX13_findLinks_229 rfl ?_
            refine J_iadd dX13_findLinks_231 ?_
            refine J_iconst (v := 1) dX13_findLinks_232 (by decide) ?_
            obtain ⟨g62, h⟩ := gd_inv h
            refine M_zast dX13_findLinks_233 a_353 n_353 g62 ?_
            refine J_pick [2, 3, 4] rfl ?_
            exact t_X13_findLinks_234 ih _ _ _ _  h
          · have h := (if_neg c58).symm.trans h
            refine J_aload_n 2 dX13_findLinks_167 rfl ?_
            refine J_aload_n 2 dX13_findLinks_168 rfl ?_
            refine M_getR gf_X13_75_12 dX13_findLinks_169 (g_324_33 _) k_324 n_324 ?_
            refine J_iload_n 4 dX13_findLinks_172 rfl ?_
            obtain ⟨g63, h⟩ := gd_inv h
            refine M_iald dX13_findLinks_173 a_344 n_344 g63 ?_
            refine J_iload 1 dX13_findLinks_174 rfl ?_
            refine J_iload 0 dX13_findLinks_176 rfl ?_
            obtain ⟨_, σ65, h66, h⟩ := bd_inv h
            refine M_callVV (d' := 1) (k := 324) (As := [.int (rI σ54 344 (Int32.toNatClampNeg l3)), .int (rI σ 343 (Int32.toNatClampNeg (rI σ 345 (Int32.toNatClampNeg l3)))), .int (rI σ 343 (Int32.toNatClampNeg (rI σ 346 (Int32.toNatClampNeg l3))))]) (st := []) cv_X13_338 dX13_findLinks_178 rfl (by decide) rfl (Nat.le_of_ble_eq_true rfl) (Nat.le_of_ble_eq_true rfl) (by decide) n_324 k_324 rfl rfl (t_X13_links  h66) ?_
            refine J_goto (tgt := 234) dX13_findLinks_181 (by decide) ?_
            refine J_pick [2, 3, 4] rfl ?_
            exact t_X13_findLinks_234 ih _ _ _ _  h
        · have h := (if_pos c56).symm.trans h
          refine J_goto (tgt := 234) dX13_findLinks_155 (by decide) ?_
          refine J_pick [2, 3, 4] rfl ?_
          exact t_X13_findLinks_234 ih _ _ _ _  h
set_option maxRecDepth 20000 in
set_option maxHeartbeats 4000000 in
theorem t_X13_findLinks_93  (l1 : Int32) (σ : jM) (r : Unit × jM)  (h : f_X13_findLinks_93  l1 σ = some r) : J mi_X13_findLinks 4 0 0 (jqV r) 93 [(0, .ref 324), (1, .int l1)] [] (ms σ) := by
  unfold f_X13_findLinks_93 at h
  refine J_iconst (v := 0) dX13_findLinks_93 (by decide) ?_
  refine J_istore_n (i := 3) (ls' := [(3, .int 0), (0, .ref 324), (1, .int l1)]) dX13_findLinks_94 rfl (by decide) rfl ?_
  refine J_pick [1, 2, 0] rfl ?_
  exact t_X13_findLinks_95  _ _ _ _ _  h
set_option maxRecDepth 20000 in
set_option maxHeartbeats 4000000 in
theorem t_X13_findLinks_87 {rec47 : Int32 → Int32 → Int32 → jM → Option (Unit × jM)} (hrec47 : ∀ (l1 : Int32) (l2 : Int32) (l3 : Int32) (σ : jM) (r : Unit × jM), rec47 l1 l2 l3 σ = some r → J mi_X13_findLinks 4 0 0 (jqV r) 47 [(0, .ref 324), (1, .int l1), (2, .int l2), (3, .int l3)] [] (ms σ)) (l1 : Int32) (l2 : Int32) (l3 : Int32) (σ : jM) (r : Unit × jM)  (h : f_X13_findLinks_87 rec47 l1 l2 l3 σ = some r) : J mi_X13_findLinks 4 0 0 (jqV r) 87 [(0, .ref 324), (1, .int l1), (2, .int l2), (3, .int l3)] [] (ms σ) := by
  unfold f_X13_findLinks_87 at h
  refine J_iinc (v := (l3 + 1)) (ls' := [(3, .int (l3 + 1)), (0, .ref 324), (1, .int l1), (2, .int l2)]) 3 dX13_findLinks_87 rfl rfl (by decide) rfl ?_
  refine J_goto (tgt := 47) dX13_findLinks_90 (by decide) ?_
  refine J_pick [1, 2, 3, 0] rfl ?_
  exact hrec47 _ _ _ _ _  h
set_option maxRecDepth 20000 in
set_option maxHeartbeats 4000000 in
theorem t_X13_findLinks_47  : ∀ (n : Nat) (l1 : Int32) (l2 : Int32) (l3 : Int32) (σ : jM) (r : Unit × jM), f_X13_findLinks_47  n l1 l2 l3 σ = some r → J mi_X13_findLinks 4 0 0 (jqV r) 47 [(0, .ref 324), (1, .int l1), (2, .int l2), (3, .int l3)] [] (ms σ) := by
  intro n
  induction n with
  | zero =>
    intro l1 l2 l3 σ r  h
    have h : (none : Option (Unit × jM)) = some r := h
    cases h
  | succ n ih =>
    intro l1 l2 l3 σ r  h
    have h : s_X13_findLinks_47  (f_X13_findLinks_47  n) l1 l2 l3 σ = some r := h
    unfold s_X13_findLinks_47 at h
    refine J_iload_n 2 dX13_findLinks_47 rfl ?_
    refine J_iconst (v := (-1)) dX13_findLinks_48 (by decide) ?_
    refine J_icmp_eq (tgt := 93) dX13_findLinks_49 (by decide) (fun c75 => ?_) (fun c75 => ?_)
    · have h := (if_pos c75).symm.trans h
      refine J_pick [0, 1] rfl ?_
      exact t_X13_findLinks_93  _ _ _  h
    · have h := (if_neg c75).symm.trans h
      refine J_iload_n 3 dX13_findLinks_52 rfl ?_
      refine J_aload_n 0 dX13_findLinks_53 rfl ?_
      refine M_getR gf_X13_32_12 dX13_findLinks_54 (g_324_10 _) k_324 n_324 ?_
      refine J_iload_n 2 dX13_findLinks_57 rfl ?_
      obtain ⟨g76, h⟩ := gd_inv h
      refine M_iald dX13_findLinks_58 a_331 n_331 g76 ?_
      refine J_icmp_ge (tgt := 93) dX13_findLinks_59 (by decide) (fun c77 => ?_) (fun c77 => ?_)
      · have h := (if_pos c77).symm.trans h
        refine J_pick [0, 1] rfl ?_
        exact t_X13_findLinks_93  _ _ _  h
      · have h := (if_neg c77).symm.trans h
        refine J_aload_n 0 dX13_findLinks_62 rfl ?_
        refine M_getR gf_X13_35_12 dX13_findLinks_63 (g_324_11 _) k_324 n_324 ?_
        refine J_bipush (v := 12) dX13_findLinks_66 (by decide) ?_
        refine J_iload_n 2 dX13_findLinks_68 rfl ?_
        refine J_imul dX13_findLinks_69 ?_
        refine J_iload_n 3 dX13_findLinks_70 rfl ?_
        refine J_iadd dX13_findLinks_71 ?_
        obtain ⟨g78, h⟩ := gd_inv h
        refine M_iald dX13_findLinks_72 a_332 n_332 g78 ?_
        refine J_iconst (v := 2) dX13_findLinks_73 (by decide) ?_
        refine J_icmp_ge (tgt := 87) dX13_findLinks_74 (by decide) (fun c79 => ?_) (fun c79 => ?_)
        · have h := (if_pos c79).symm.trans h
          exact t_X13_findLinks_87 ih _ _ _ _ _  h
        · have h := (if_neg c79).symm.trans h
          refine J_aload_n 0 dX13_findLinks_77 rfl ?_
          refine J_bipush (v := 12) dX13_findLinks_78 (by decide) ?_
          refine J_iload_n 2 dX13_findLinks_80 rfl ?_
          refine J_imul dX13_findLinks_81 ?_
          refine J_iload_n 3 dX13_findLinks_82 rfl ?_
          refine J_iadd dX13_findLinks_83 ?_
          obtain ⟨_, σ81, h82, h⟩ := bd_inv h
          refine M_callVV (d' := 3) (k := 324) (As := [.int ((12 * l2) + l3)]) (st := []) cv_X13_335 dX13_findLinks_84 rfl (by decide) rfl (Nat.le_of_ble_eq_true rfl) (Nat.le_of_ble_eq_true rfl) (by decide) n_324 k_324 rfl rfl (t_X13_linksBy  h82) ?_
          exact t_X13_findLinks_87 ih _ _ _ _ _  h
set_option maxRecDepth 20000 in
set_option maxHeartbeats 4000000 in
theorem t_X13_findLinks_12  : ∀ (n : Nat) (l1 : Int32) (l2 : Int32) (σ : jM) (r : Unit × jM), f_X13_findLinks_12  n l1 l2 σ = some r → J mi_X13_findLinks 4 0 0 (jqV r) 12 [(0, .ref 324), (1, .int l1), (2, .int l2)] [] (ms σ) := by
  intro n
  induction n with
  | zero =>
    intro l1 l2 σ r  h
    have h : (none : Option (Unit × jM)) = some r := h
    cases h
  | succ n ih =>
    intro l1 l2 σ r  h
    have h : s_X13_findLinks_12  (f_X13_findLinks_12  n) l1 l2 σ = some r := h
    unfold s_X13_findLinks_12 at h
    refine J_iload_n 2 dX13_findLinks_12 rfl ?_
    refine J_sipush (v := 3200) dX13_findLinks_13 (by decide) ?_
    refine J_icmp_ge (tgt := 39) dX13_findLinks_16 (by decide) (fun c89 => ?_) (fun c89 => ?_)
    · have h := (if_pos c89).symm.trans h
      refine J_aload_n 0 dX13_findLinks_39 rfl ?_
      refine J_iload_n 1 dX13_findLinks_40 rfl ?_
      obtain ⟨r90, σ91, h92, h⟩ := bd_inv h
      refine M_callVI (d' := 1) (k := 324) (As := [.int l1]) (st := []) cv_X13_326 dX13_findLinks_41 rfl (by decide) rfl (Nat.le_of_ble_eq_true rfl) (Nat.le_of_ble_eq_true rfl) (by decide) n_324 k_324 rfl rfl (t_X13_rulesBy  h92) ?_
      refine J_istore_n (i := 2) (ls' := [(2, .int r90), (0, .ref 324), (1, .int l1)]) dX13_findLinks_44 rfl (by decide) rfl ?_
      refine J_iconst (v := 0) dX13_findLinks_45 (by decide) ?_
      refine J_istore_n (i := 3) (ls' := [(3, .int 0), (2, .int r90), (0, .ref 324), (1, .int l1)]) dX13_findLinks_46 rfl (by decide) rfl ?_
      refine J_pick [2, 3, 1, 0] rfl ?_
      exact t_X13_findLinks_47  _ _ _ _ _ _  h
    · have h := (if_neg c89).symm.trans h
      refine J_aload_n 0 dX13_findLinks_19 rfl ?_
      refine M_getR gf_X13_100_12 dX13_findLinks_20 (g_324_42 _) k_324 n_324 ?_
      refine J_iload_n 2 dX13_findLinks_23 rfl ?_
      refine J_iconst (v := 0) dX13_findLinks_24 (by decide) ?_
      obtain ⟨g93, h⟩ := gd_inv h
      refine M_zast dX13_findLinks_25 a_352 n_352 g93 ?_
      refine J_aload_n 0 dX13_findLinks_26 rfl ?_
      refine M_getR gf_X13_103_12 dX13_findLinks_27 (g_324_43 _) k_324 n_324 ?_
      refine J_iload_n 2 dX13_findLinks_30 rfl ?_
      refine J_iconst (v := 0) dX13_findLinks_31 (by decide) ?_
      obtain ⟨g94, h⟩ := gd_inv h
      refine M_zast dX13_findLinks_32 a_353 n_353 g94 ?_
      refine J_iinc (v := (l2 + 1)) (ls' := [(2, .int (l2 + 1)), (0, .ref 324), (1, .int l1)]) 2 dX13_findLinks_33 rfl rfl (by decide) rfl ?_
      refine J_goto (tgt := 12) dX13_findLinks_36 (by decide) ?_
      refine J_pick [1, 2, 0] rfl ?_
      exact ih _ _ _ _  h
set_option maxRecDepth 20000 in
set_option maxHeartbeats 4000000 in
theorem t_X13_findLinks {a1 : Int32} {σ : jM} {r : Unit × jM}  (h : f_X13_findLinks a1 σ = some r) : J mi_X13_findLinks 4 0 0 (jqV r) 0 [(0, .ref 324), (1, .int a1)] [] (ms σ) := by
  unfold f_X13_findLinks at h
  refine J_aload_n 0 dX13_findLinks_0 rfl ?_
  refine J_iload_n 1 dX13_findLinks_1 rfl ?_
  obtain ⟨_, σ96, h97, h⟩ := bd_inv h
  refine M_callVV (d' := 2) (k := 324) (As := [.int a1]) (st := []) cv_X13_301 dX13_findLinks_2 rfl (by decide) rfl (Nat.le_of_ble_eq_true rfl) (Nat.le_of_ble_eq_true rfl) (by decide) n_324 k_324 rfl rfl (t_X13_findStands  h97) ?_
  refine J_aload_n 0 dX13_findLinks_5 rfl ?_
  refine J_iload_n 1 dX13_findLinks_6 rfl ?_
  obtain ⟨_, σ99, h100, h⟩ := bd_inv h
  refine M_callVV (d' := 3) (k := 324) (As := [.int a1]) (st := []) cv_X13_329 dX13_findLinks_7 rfl (by decide) rfl (Nat.le_of_ble_eq_true rfl) (Nat.le_of_ble_eq_true rfl) (by decide) n_324 k_324 rfl rfl (t_X13_findWholes  h100) ?_
  refine J_iconst (v := 0) dX13_findLinks_10 (by decide) ?_
  refine J_istore_n (i := 2) (ls' := [(2, .int 0), (0, .ref 324), (1, .int a1)]) dX13_findLinks_11 rfl (by decide) rfl ?_
  refine J_pick [1, 2, 0] rfl ?_
  exact t_X13_findLinks_12  _ _ _ _ _  h
theorem dX13_links__0 : decode cX13_links_ 0 = .ok (.aload_n 0, 1) := by decide +kernel
theorem dX13_links__1 : decode cX13_links_ 1 = .ok (.iconst 0, 1) := by decide +kernel
theorem dX13_links__2 : decode cX13_links_ 2 = .ok (.putfield 1, 3) := by decide +kernel
theorem dX13_links__5 : decode cX13_links_ 5 = .ok (.iload_n 1, 1) := by decide +kernel
theorem dX13_links__6 : decode cX13_links_ 6 = .ok (.iconst 0, 1) := by decide +kernel
theorem dX13_links__7 : decode cX13_links_ 7 = .ok (.iconst 1, 1) := by decide +kernel
theorem dX13_links__8 : decode cX13_links_ 8 = .ok (.invokestatic 169, 3) := by decide +kernel
theorem dX13_links__11 : decode cX13_links_ 11 = .ok (.ifCond .eq 11, 3) := by decide +kernel
theorem dX13_links__14 : decode cX13_links_ 14 = .ok (.aload_n 0, 1) := by decide +kernel
theorem dX13_links__15 : decode cX13_links_ 15 = .ok (.iload_n 2, 1) := by decide +kernel
theorem dX13_links__16 : decode cX13_links_ 16 = .ok (.invokevirtual 298, 3) := by decide +kernel
theorem dX13_links__19 : decode cX13_links_ 19 = .ok (.ifCond .ne 5, 3) := by decide +kernel
theorem dX13_links__22 : decode cX13_links_ 22 = .ok (.iconst (-1), 1) := by decide +kernel
theorem dX13_links__23 : decode cX13_links_ 23 = .ok (.ireturn, 1) := by decide +kernel
theorem dX13_links__24 : decode cX13_links_ 24 = .ok (.aload_n 0, 1) := by decide +kernel
theorem dX13_links__25 : decode cX13_links_ 25 = .ok (.iload_n 2, 1) := by decide +kernel
theorem dX13_links__26 : decode cX13_links_ 26 = .ok (.invokevirtual 345, 3) := by decide +kernel
theorem dX13_links__29 : decode cX13_links_ 29 = .ok (.iconst 0, 1) := by decide +kernel
theorem dX13_links__30 : decode cX13_links_ 30 = .ok (.istore_n 3, 1) := by decide +kernel
theorem dX13_links__31 : decode cX13_links_ 31 = .ok (.iconst 0, 1) := by decide +kernel
theorem dX13_links__32 : decode cX13_links_ 32 = .ok (.istore 4, 2) := by decide +kernel
theorem dX13_links__34 : decode cX13_links_ 34 = .ok (.iload 4, 2) := by decide +kernel
theorem dX13_links__36 : decode cX13_links_ 36 = .ok (.sipush 1600, 3) := by decide +kernel
theorem dX13_links__39 : decode cX13_links_ 39 = .ok (.if_icmp .ge 41, 3) := by decide +kernel
theorem dX13_links__42 : decode cX13_links_ 42 = .ok (.aload_n 0, 1) := by decide +kernel
theorem dX13_links__43 : decode cX13_links_ 43 = .ok (.getfield 100, 3) := by decide +kernel
theorem dX13_links__46 : decode cX13_links_ 46 = .ok (.sipush 1600, 3) := by decide +kernel
theorem dX13_links__49 : decode cX13_links_ 49 = .ok (.iload_n 1, 1) := by decide +kernel
theorem dX13_links__50 : decode cX13_links_ 50 = .ok (.imul, 1) := by decide +kernel
theorem dX13_links__51 : decode cX13_links_ 51 = .ok (.iload 4, 2) := by decide +kernel
theorem dX13_links__53 : decode cX13_links_ 53 = .ok (.iadd, 1) := by decide +kernel
theorem dX13_links__54 : decode cX13_links_ 54 = .ok (.baload, 1) := by decide +kernel
theorem dX13_links__55 : decode cX13_links_ 55 = .ok (.ifCond .eq 19, 3) := by decide +kernel
theorem dX13_links__58 : decode cX13_links_ 58 = .ok (.iload 4, 2) := by decide +kernel
theorem dX13_links__60 : decode cX13_links_ 60 = .ok (.bipush 40, 2) := by decide +kernel
theorem dX13_links__62 : decode cX13_links_ 62 = .ok (.idiv, 1) := by decide +kernel
theorem dX13_links__63 : decode cX13_links_ 63 = .ok (.iload 4, 2) := by decide +kernel
theorem dX13_links__65 : decode cX13_links_ 65 = .ok (.bipush 40, 2) := by decide +kernel
theorem dX13_links__67 : decode cX13_links_ 67 = .ok (.irem, 1) := by decide +kernel
theorem dX13_links__68 : decode cX13_links_ 68 = .ok (.if_icmp .ge 6, 3) := by decide +kernel
theorem dX13_links__71 : decode cX13_links_ 71 = .ok (.iinc 3 1, 3) := by decide +kernel
theorem dX13_links__74 : decode cX13_links_ 74 = .ok (.iinc 4 1, 3) := by decide +kernel
theorem dX13_links__77 : decode cX13_links_ 77 = .ok (.goto (-43), 3) := by decide +kernel
theorem dX13_links__80 : decode cX13_links_ 80 = .ok (.iload_n 3, 1) := by decide +kernel
theorem dX13_links__81 : decode cX13_links_ 81 = .ok (.ireturn, 1) := by decide +kernel
noncomputable def f_X13_links__22   (σ : jM) : Option (Int32 × jM) :=
  some ((-1), σ)
noncomputable def f_X13_links__74 (rec34 : Int32 → Int32 → Int32 → jM → Option (Int32 × jM)) (l1 : Int32) (l3 : Int32) (l4 : Int32) (σ : jM) : Option (Int32 × jM) :=
  rec34 l1 l3 (l4 + 1) σ
noncomputable def s_X13_links__34  (rec34 : Int32 → Int32 → Int32 → jM → Option (Int32 × jM)) (l1 : Int32) (l3 : Int32) (l4 : Int32) (σ : jM) : Option (Int32 × jM) :=
  (if 1600 ≤ l4 then some (l3, σ) else gd (inb ((1600 * l1) + l4) 3200) ((if (rI σ 352 (Int32.toNatClampNeg ((1600 * l1) + l4))) = 0 then f_X13_links__74 rec34 l1 l3 l4 σ else (if (l4 - l4 / 40 * 40) ≤ (l4 / 40) then f_X13_links__74 rec34 l1 l3 l4 σ else f_X13_links__74 rec34 l1 (l3 + 1) l4 σ))))
noncomputable def f_X13_links__34  (n : Nat) : Int32 → Int32 → Int32 → jM → Option (Int32 × jM) := Nat.rec (motive := fun _ => Int32 → Int32 → Int32 → jM → Option (Int32 × jM)) (fun _ _ _ _ => none) (fun _ q => s_X13_links__34  q) n
noncomputable def f_X13_links_ (a1 : Int32) (a2 : Int32) (σ : jM) : Option (Int32 × jM) :=
  bd (f_X13_within a1 0 1 (wI σ 324 0 0)) (fun r10 σ11 => (if r10 = 0 then f_X13_links__22   σ11 else bd (f_X13_isKnown a2 σ11) (fun r14 σ15 => (if r14 = 0 then f_X13_links__22   σ15 else bd (f_X13_findLinks a2 σ15) (fun _ σ19 => f_X13_links__34  Fu a1 0 0 σ19)))))
set_option maxRecDepth 20000 in
set_option maxHeartbeats 4000000 in
theorem t_X13_links__22   (σ : jM) (r : Int32 × jM)  (h : f_X13_links__22   σ = some r) : J mi_X13_links_ 5 0 0 (jqI r) 22 [] [] (ms σ) := by
  unfold f_X13_links__22 at h
  refine J_iconst (v := (-1)) dX13_links__22 (by decide) ?_
  exact J_ret (v := some (.int (-1))) rfl ⟨dX13_links__23, Or.inl rfl⟩ (jqI_mk h)
set_option maxRecDepth 20000 in
set_option maxHeartbeats 4000000 in
theorem t_X13_links__74 {rec34 : Int32 → Int32 → Int32 → jM → Option (Int32 × jM)} (hrec34 : ∀ (l1 : Int32) (l3 : Int32) (l4 : Int32) (σ : jM) (r : Int32 × jM), rec34 l1 l3 l4 σ = some r → J mi_X13_links_ 5 0 0 (jqI r) 34 [(0, .ref 324), (1, .int l1), (3, .int l3), (4, .int l4)] [] (ms σ)) (l1 : Int32) (l3 : Int32) (l4 : Int32) (σ : jM) (r : Int32 × jM)  (h : f_X13_links__74 rec34 l1 l3 l4 σ = some r) : J mi_X13_links_ 5 0 0 (jqI r) 74 [(0, .ref 324), (1, .int l1), (3, .int l3), (4, .int l4)] [] (ms σ) := by
  unfold f_X13_links__74 at h
  refine J_iinc (v := (l4 + 1)) (ls' := [(4, .int (l4 + 1)), (0, .ref 324), (1, .int l1), (3, .int l3)]) 3 dX13_links__74 rfl rfl (by decide) rfl ?_
  refine J_goto (tgt := 34) dX13_links__77 (by decide) ?_
  refine J_pick [1, 2, 3, 0] rfl ?_
  exact hrec34 _ _ _ _ _  h
set_option maxRecDepth 20000 in
set_option maxHeartbeats 4000000 in
theorem t_X13_links__34  : ∀ (n : Nat) (l1 : Int32) (l3 : Int32) (l4 : Int32) (σ : jM) (r : Int32 × jM), f_X13_links__34  n l1 l3 l4 σ = some r → J mi_X13_links_ 5 0 0 (jqI r) 34 [(0, .ref 324), (1, .int l1), (3, .int l3), (4, .int l4)] [] (ms σ) := by
  intro n
  induction n with
  | zero =>
    intro l1 l3 l4 σ r  h
    have h : (none : Option (Int32 × jM)) = some r := h
    cases h
  | succ n ih =>
    intro l1 l3 l4 σ r  h
    have h : s_X13_links__34  (f_X13_links__34  n) l1 l3 l4 σ = some r := h
    unfold s_X13_links__34 at h
    refine J_iload 3 dX13_links__34 rfl ?_
    refine J_sipush (v := 1600) dX13_links__36 (by decide) ?_
    refine J_icmp_ge (tgt := 80) dX13_links__39 (by decide) (fun c6 => ?_) (fun c6 => ?_)
    · have h := (if_pos c6).symm.trans h
      refine J_iload_n 2 dX13_links__80 rfl ?_
      exact J_ret (v := some (.int l3)) rfl ⟨dX13_links__81, Or.inl rfl⟩ (jqI_mk h)
    · have h := (if_neg c6).symm.trans h
      refine J_aload_n 0 dX13_links__42 rfl ?_
      refine M_getR gf_X13_100_12 dX13_links__43 (g_324_42 _) k_324 n_324 ?_
      refine J_sipush (v := 1600) dX13_links__46 (by decide) ?_
      refine J_iload_n 1 dX13_links__49 rfl ?_
      refine J_imul dX13_links__50 ?_
      refine J_iload 3 dX13_links__51 rfl ?_
      refine J_iadd dX13_links__53 ?_
      obtain ⟨g7, h⟩ := gd_inv h
      refine M_zald dX13_links__54 a_352 n_352 g7 ?_
      refine J_if_eq (tgt := 74) dX13_links__55 (by decide) (fun c8 => ?_) (fun c8 => ?_)
      · have h := (if_pos c8).symm.trans h
        exact t_X13_links__74 ih _ _ _ _ _  h
      · have h := (if_neg c8).symm.trans h
        refine J_iload 3 dX13_links__58 rfl ?_
        refine J_bipush (v := 40) dX13_links__60 (by decide) ?_
        refine J_idiv dX13_links__62 (by decide) ?_
        refine J_iload 3 dX13_links__63 rfl ?_
        refine J_bipush (v := 40) dX13_links__65 (by decide) ?_
        refine J_irem dX13_links__67 (by decide) ?_
        refine J_icmp_ge (tgt := 74) dX13_links__68 (by decide) (fun c9 => ?_) (fun c9 => ?_)
        · have h := (if_pos c9).symm.trans h
          exact t_X13_links__74 ih _ _ _ _ _  h
        · have h := (if_neg c9).symm.trans h
          refine J_iinc (v := (l3 + 1)) (ls' := [(3, .int (l3 + 1)), (0, .ref 324), (1, .int l1), (4, .int l4)]) 2 dX13_links__71 rfl rfl (by decide) rfl ?_
          refine J_pick [1, 2, 0, 3] rfl ?_
          exact t_X13_links__74 ih _ _ _ _ _  h
set_option maxRecDepth 20000 in
set_option maxHeartbeats 4000000 in
theorem t_X13_links_ {a1 : Int32} {a2 : Int32} {σ : jM} {r : Int32 × jM}  (h : f_X13_links_ a1 a2 σ = some r) : J mi_X13_links_ 5 0 0 (jqI r) 0 [(0, .ref 324), (1, .int a1), (2, .int a2)] [] (ms σ) := by
  unfold f_X13_links_ at h
  refine J_aload_n 0 dX13_links__0 rfl ?_
  refine J_iconst (v := 0) dX13_links__1 (by decide) ?_
  refine M_putI pf_X13_1_12 dX13_links__2 k_324 n_324 ⟨rfl, rfl⟩ ?_
  refine J_iload_n 1 dX13_links__5 rfl ?_
  refine J_iconst (v := 0) dX13_links__6 (by decide) ?_
  refine J_iconst (v := 1) dX13_links__7 (by decide) ?_
  obtain ⟨r10, σ11, h12, h⟩ := bd_inv h
  refine M_callSI (d' := 1) (As := [.int a1, .int 0, .int 1]) (st := []) cs_X13_169 dX13_links__8 rfl (Nat.le_of_ble_eq_true rfl) (Nat.le_of_ble_eq_true rfl) (by decide) rfl rfl (t_X13_within  h12) ?_
  refine J_if_eq (tgt := 22) dX13_links__11 (by decide) (fun c13 => ?_) (fun c13 => ?_)
  · have h := (if_pos c13).symm.trans h
    refine J_pick [] rfl ?_
    exact t_X13_links__22   _ _  h
  · have h := (if_neg c13).symm.trans h
    refine J_aload_n 0 dX13_links__14 rfl ?_
    refine J_iload_n 2 dX13_links__15 rfl ?_
    obtain ⟨r14, σ15, h16, h⟩ := bd_inv h
    refine M_callVI (d' := 1) (k := 324) (As := [.int a2]) (st := []) cv_X13_298 dX13_links__16 rfl (by decide) rfl (Nat.le_of_ble_eq_true rfl) (Nat.le_of_ble_eq_true rfl) (by decide) n_324 k_324 rfl rfl (t_X13_isKnown  h16) ?_
    refine J_if_ne (tgt := 24) dX13_links__19 (by decide) (fun c17 => ?_) (fun c17 => ?_)
    · have h := (if_neg c17).symm.trans h
      refine J_aload_n 0 dX13_links__24 rfl ?_
      refine J_iload_n 2 dX13_links__25 rfl ?_
      obtain ⟨_, σ19, h20, h⟩ := bd_inv h
      refine M_callVV (d' := 4) (k := 324) (As := [.int a2]) (st := []) cv_X13_345 dX13_links__26 rfl (by decide) rfl (Nat.le_of_ble_eq_true rfl) (Nat.le_of_ble_eq_true rfl) (by decide) n_324 k_324 rfl rfl (t_X13_findLinks  h20) ?_
      refine J_iconst (v := 0) dX13_links__29 (by decide) ?_
      refine J_istore_n (i := 3) (ls' := [(3, .int 0), (0, .ref 324), (1, .int a1), (2, .int a2)]) dX13_links__30 rfl (by decide) rfl ?_
      refine J_iconst (v := 0) dX13_links__31 (by decide) ?_
      refine J_istore (i := 4) (ls' := [(4, .int 0), (3, .int 0), (0, .ref 324), (1, .int a1), (2, .int a2)]) dX13_links__32 (by decide) rfl ?_
      refine J_pick [2, 3, 1, 0] rfl ?_
      exact t_X13_links__34  _ _ _ _ _ _  h
    · have h := (if_pos c17).symm.trans h
      refine J_pick [] rfl ?_
      exact t_X13_links__22   _ _  h
theorem dX13_classOf_0 : decode cX13_classOf 0 = .ok (.aload_n 0, 1) := by decide +kernel
theorem dX13_classOf_1 : decode cX13_classOf 1 = .ok (.iconst 0, 1) := by decide +kernel
theorem dX13_classOf_2 : decode cX13_classOf 2 = .ok (.putfield 1, 3) := by decide +kernel
theorem dX13_classOf_5 : decode cX13_classOf 5 = .ok (.iload_n 1, 1) := by decide +kernel
theorem dX13_classOf_6 : decode cX13_classOf 6 = .ok (.iconst 0, 1) := by decide +kernel
theorem dX13_classOf_7 : decode cX13_classOf 7 = .ok (.iconst 1, 1) := by decide +kernel
theorem dX13_classOf_8 : decode cX13_classOf 8 = .ok (.invokestatic 169, 3) := by decide +kernel
theorem dX13_classOf_11 : decode cX13_classOf 11 = .ok (.ifCond .eq 18, 3) := by decide +kernel
theorem dX13_classOf_14 : decode cX13_classOf 14 = .ok (.iload_n 2, 1) := by decide +kernel
theorem dX13_classOf_15 : decode cX13_classOf 15 = .ok (.invokestatic 288, 3) := by decide +kernel
theorem dX13_classOf_18 : decode cX13_classOf 18 = .ok (.ifCond .eq 11, 3) := by decide +kernel
theorem dX13_classOf_21 : decode cX13_classOf 21 = .ok (.aload_n 0, 1) := by decide +kernel
theorem dX13_classOf_22 : decode cX13_classOf 22 = .ok (.iload_n 3, 1) := by decide +kernel
theorem dX13_classOf_23 : decode cX13_classOf 23 = .ok (.invokevirtual 298, 3) := by decide +kernel
theorem dX13_classOf_26 : decode cX13_classOf 26 = .ok (.ifCond .ne 5, 3) := by decide +kernel
theorem dX13_classOf_29 : decode cX13_classOf 29 = .ok (.iconst (-1), 1) := by decide +kernel
theorem dX13_classOf_30 : decode cX13_classOf 30 = .ok (.ireturn, 1) := by decide +kernel
theorem dX13_classOf_31 : decode cX13_classOf 31 = .ok (.aload_n 0, 1) := by decide +kernel
theorem dX13_classOf_32 : decode cX13_classOf 32 = .ok (.iload_n 3, 1) := by decide +kernel
theorem dX13_classOf_33 : decode cX13_classOf 33 = .ok (.invokevirtual 345, 3) := by decide +kernel
theorem dX13_classOf_36 : decode cX13_classOf 36 = .ok (.aload_n 0, 1) := by decide +kernel
theorem dX13_classOf_37 : decode cX13_classOf 37 = .ok (.getfield 106, 3) := by decide +kernel
theorem dX13_classOf_40 : decode cX13_classOf 40 = .ok (.bipush 40, 2) := by decide +kernel
theorem dX13_classOf_42 : decode cX13_classOf 42 = .ok (.iload_n 1, 1) := by decide +kernel
theorem dX13_classOf_43 : decode cX13_classOf 43 = .ok (.imul, 1) := by decide +kernel
theorem dX13_classOf_44 : decode cX13_classOf 44 = .ok (.aload_n 0, 1) := by decide +kernel
theorem dX13_classOf_45 : decode cX13_classOf 45 = .ok (.getfield 72, 3) := by decide +kernel
theorem dX13_classOf_48 : decode cX13_classOf 48 = .ok (.iload_n 2, 1) := by decide +kernel
theorem dX13_classOf_49 : decode cX13_classOf 49 = .ok (.iaload, 1) := by decide +kernel
theorem dX13_classOf_50 : decode cX13_classOf 50 = .ok (.iadd, 1) := by decide +kernel
theorem dX13_classOf_51 : decode cX13_classOf 51 = .ok (.iaload, 1) := by decide +kernel
theorem dX13_classOf_52 : decode cX13_classOf 52 = .ok (.ireturn, 1) := by decide +kernel
noncomputable def f_X13_classOf_29   (σ : jM) : Option (Int32 × jM) :=
  some ((-1), σ)
noncomputable def f_X13_classOf (a1 : Int32) (a2 : Int32) (a3 : Int32) (σ : jM) : Option (Int32 × jM) :=
  bd (f_X13_within a1 0 1 (wI σ 324 0 0)) (fun r3 σ4 => (if r3 = 0 then f_X13_classOf_29   σ4 else bd (f_X13_isSignNumber a2 σ4) (fun r7 σ8 => (if r7 = 0 then f_X13_classOf_29   σ8 else bd (f_X13_isKnown a3 σ8) (fun r11 σ12 => (if r11 = 0 then f_X13_classOf_29   σ12 else bd (f_X13_findLinks a3 σ12) (fun _ σ16 => gd (inb a2 40) (gd (inb ((40 * a1) + (rI σ16 343 (Int32.toNatClampNeg a2))) 80) (some ((rI σ16 354 (Int32.toNatClampNeg ((40 * a1) + (rI σ16 343 (Int32.toNatClampNeg a2))))), σ16))))))))))
set_option maxRecDepth 20000 in
set_option maxHeartbeats 4000000 in
theorem t_X13_classOf_29   (σ : jM) (r : Int32 × jM)  (h : f_X13_classOf_29   σ = some r) : J mi_X13_classOf 5 0 0 (jqI r) 29 [] [] (ms σ) := by
  unfold f_X13_classOf_29 at h
  refine J_iconst (v := (-1)) dX13_classOf_29 (by decide) ?_
  exact J_ret (v := some (.int (-1))) rfl ⟨dX13_classOf_30, Or.inl rfl⟩ (jqI_mk h)
set_option maxRecDepth 20000 in
set_option maxHeartbeats 4000000 in
theorem t_X13_classOf {a1 : Int32} {a2 : Int32} {a3 : Int32} {σ : jM} {r : Int32 × jM}  (h : f_X13_classOf a1 a2 a3 σ = some r) : J mi_X13_classOf 5 0 0 (jqI r) 0 [(0, .ref 324), (1, .int a1), (2, .int a2), (3, .int a3)] [] (ms σ) := by
  unfold f_X13_classOf at h
  refine J_aload_n 0 dX13_classOf_0 rfl ?_
  refine J_iconst (v := 0) dX13_classOf_1 (by decide) ?_
  refine M_putI pf_X13_1_12 dX13_classOf_2 k_324 n_324 ⟨rfl, rfl⟩ ?_
  refine J_iload_n 1 dX13_classOf_5 rfl ?_
  refine J_iconst (v := 0) dX13_classOf_6 (by decide) ?_
  refine J_iconst (v := 1) dX13_classOf_7 (by decide) ?_
  obtain ⟨r3, σ4, h5, h⟩ := bd_inv h
  refine M_callSI (d' := 1) (As := [.int a1, .int 0, .int 1]) (st := []) cs_X13_169 dX13_classOf_8 rfl (Nat.le_of_ble_eq_true rfl) (Nat.le_of_ble_eq_true rfl) (by decide) rfl rfl (t_X13_within  h5) ?_
  refine J_if_eq (tgt := 29) dX13_classOf_11 (by decide) (fun c6 => ?_) (fun c6 => ?_)
  · have h := (if_pos c6).symm.trans h
    refine J_pick [] rfl ?_
    exact t_X13_classOf_29   _ _  h
  · have h := (if_neg c6).symm.trans h
    refine J_iload_n 2 dX13_classOf_14 rfl ?_
    obtain ⟨r7, σ8, h9, h⟩ := bd_inv h
    refine M_callSI (d' := 1) (As := [.int a2]) (st := []) cs_X13_288 dX13_classOf_15 rfl (Nat.le_of_ble_eq_true rfl) (Nat.le_of_ble_eq_true rfl) (by decide) rfl rfl (t_X13_isSignNumber  h9) ?_
    refine J_if_eq (tgt := 29) dX13_classOf_18 (by decide) (fun c10 => ?_) (fun c10 => ?_)
    · have h := (if_pos c10).symm.trans h
      refine J_pick [] rfl ?_
      exact t_X13_classOf_29   _ _  h
    · have h := (if_neg c10).symm.trans h
      refine J_aload_n 0 dX13_classOf_21 rfl ?_
      refine J_iload_n 3 dX13_classOf_22 rfl ?_
      obtain ⟨r11, σ12, h13, h⟩ := bd_inv h
      refine M_callVI (d' := 1) (k := 324) (As := [.int a3]) (st := []) cv_X13_298 dX13_classOf_23 rfl (by decide) rfl (Nat.le_of_ble_eq_true rfl) (Nat.le_of_ble_eq_true rfl) (by decide) n_324 k_324 rfl rfl (t_X13_isKnown  h13) ?_
      refine J_if_ne (tgt := 31) dX13_classOf_26 (by decide) (fun c14 => ?_) (fun c14 => ?_)
      · have h := (if_neg c14).symm.trans h
        refine J_aload_n 0 dX13_classOf_31 rfl ?_
        refine J_iload_n 3 dX13_classOf_32 rfl ?_
        obtain ⟨_, σ16, h17, h⟩ := bd_inv h
        refine M_callVV (d' := 4) (k := 324) (As := [.int a3]) (st := []) cv_X13_345 dX13_classOf_33 rfl (by decide) rfl (Nat.le_of_ble_eq_true rfl) (Nat.le_of_ble_eq_true rfl) (by decide) n_324 k_324 rfl rfl (t_X13_findLinks  h17) ?_
        refine J_aload_n 0 dX13_classOf_36 rfl ?_
        refine M_getR gf_X13_106_12 dX13_classOf_37 (g_324_44 _) k_324 n_324 ?_
        refine J_bipush (v := 40) dX13_classOf_40 (by decide) ?_
        refine J_iload_n 1 dX13_classOf_42 rfl ?_
        refine J_imul dX13_classOf_43 ?_
        refine J_aload_n 0 dX13_classOf_44 rfl ?_
        refine M_getR gf_X13_72_12 dX13_classOf_45 (g_324_31 _) k_324 n_324 ?_
        refine J_iload_n 2 dX13_classOf_48 rfl ?_
        obtain ⟨g18, h⟩ := gd_inv h
        refine M_iald dX13_classOf_49 a_343 n_343 g18 ?_
        refine J_iadd dX13_classOf_50 ?_
        obtain ⟨g19, h⟩ := gd_inv h
        refine M_iald dX13_classOf_51 a_354 n_354 g19 ?_
        exact J_ret (v := some (.int (rI σ16 354 (Int32.toNatClampNeg ((40 * a1) + (rI σ16 343 (Int32.toNatClampNeg a2))))))) rfl ⟨dX13_classOf_52, Or.inl rfl⟩ (jqI_mk h)
      · have h := (if_pos c14).symm.trans h
        refine J_pick [] rfl ?_
        exact t_X13_classOf_29   _ _  h
theorem dX13_findClash_0 : decode cX13_findClash 0 = .ok (.aload_n 0, 1) := by decide +kernel
theorem dX13_findClash_1 : decode cX13_findClash 1 = .ok (.iload_n 1, 1) := by decide +kernel
theorem dX13_findClash_2 : decode cX13_findClash 2 = .ok (.invokevirtual 345, 3) := by decide +kernel
theorem dX13_findClash_5 : decode cX13_findClash 5 = .ok (.iconst 0, 1) := by decide +kernel
theorem dX13_findClash_6 : decode cX13_findClash 6 = .ok (.istore_n 2, 1) := by decide +kernel
theorem dX13_findClash_7 : decode cX13_findClash 7 = .ok (.iload_n 2, 1) := by decide +kernel
theorem dX13_findClash_8 : decode cX13_findClash 8 = .ok (.iconst 2, 1) := by decide +kernel
theorem dX13_findClash_9 : decode cX13_findClash 9 = .ok (.if_icmp .ge 70, 3) := by decide +kernel
theorem dX13_findClash_12 : decode cX13_findClash 12 = .ok (.iconst 0, 1) := by decide +kernel
theorem dX13_findClash_13 : decode cX13_findClash 13 = .ok (.istore_n 3, 1) := by decide +kernel
theorem dX13_findClash_14 : decode cX13_findClash 14 = .ok (.iload_n 3, 1) := by decide +kernel
theorem dX13_findClash_15 : decode cX13_findClash 15 = .ok (.bipush 40, 2) := by decide +kernel
theorem dX13_findClash_17 : decode cX13_findClash 17 = .ok (.if_icmp .ge 56, 3) := by decide +kernel
theorem dX13_findClash_20 : decode cX13_findClash 20 = .ok (.aload_n 0, 1) := by decide +kernel
theorem dX13_findClash_21 : decode cX13_findClash 21 = .ok (.iload_n 2, 1) := by decide +kernel
theorem dX13_findClash_22 : decode cX13_findClash 22 = .ok (.iload_n 3, 1) := by decide +kernel
theorem dX13_findClash_23 : decode cX13_findClash 23 = .ok (.invokevirtual 348, 3) := by decide +kernel
theorem dX13_findClash_26 : decode cX13_findClash 26 = .ok (.iconst 0, 1) := by decide +kernel
theorem dX13_findClash_27 : decode cX13_findClash 27 = .ok (.istore 4, 2) := by decide +kernel
theorem dX13_findClash_29 : decode cX13_findClash 29 = .ok (.iload 4, 2) := by decide +kernel
theorem dX13_findClash_31 : decode cX13_findClash 31 = .ok (.bipush 40, 2) := by decide +kernel
theorem dX13_findClash_33 : decode cX13_findClash 33 = .ok (.if_icmp .ge 34, 3) := by decide +kernel
theorem dX13_findClash_36 : decode cX13_findClash 36 = .ok (.aload_n 0, 1) := by decide +kernel
theorem dX13_findClash_37 : decode cX13_findClash 37 = .ok (.getfield 115, 3) := by decide +kernel
theorem dX13_findClash_40 : decode cX13_findClash 40 = .ok (.sipush 1600, 3) := by decide +kernel
theorem dX13_findClash_43 : decode cX13_findClash 43 = .ok (.iload_n 2, 1) := by decide +kernel
theorem dX13_findClash_44 : decode cX13_findClash 44 = .ok (.imul, 1) := by decide +kernel
theorem dX13_findClash_45 : decode cX13_findClash 45 = .ok (.bipush 40, 2) := by decide +kernel
theorem dX13_findClash_47 : decode cX13_findClash 47 = .ok (.iload_n 3, 1) := by decide +kernel
theorem dX13_findClash_48 : decode cX13_findClash 48 = .ok (.imul, 1) := by decide +kernel
theorem dX13_findClash_49 : decode cX13_findClash 49 = .ok (.iadd, 1) := by decide +kernel
theorem dX13_findClash_50 : decode cX13_findClash 50 = .ok (.iload 4, 2) := by decide +kernel
theorem dX13_findClash_52 : decode cX13_findClash 52 = .ok (.iadd, 1) := by decide +kernel
theorem dX13_findClash_53 : decode cX13_findClash 53 = .ok (.aload_n 0, 1) := by decide +kernel
theorem dX13_findClash_54 : decode cX13_findClash 54 = .ok (.getfield 112, 3) := by decide +kernel
theorem dX13_findClash_57 : decode cX13_findClash 57 = .ok (.iload 4, 2) := by decide +kernel
theorem dX13_findClash_59 : decode cX13_findClash 59 = .ok (.iaload, 1) := by decide +kernel
theorem dX13_findClash_60 : decode cX13_findClash 60 = .ok (.iastore, 1) := by decide +kernel
theorem dX13_findClash_61 : decode cX13_findClash 61 = .ok (.iinc 4 1, 3) := by decide +kernel
theorem dX13_findClash_64 : decode cX13_findClash 64 = .ok (.goto (-35), 3) := by decide +kernel
theorem dX13_findClash_67 : decode cX13_findClash 67 = .ok (.iinc 3 1, 3) := by decide +kernel
theorem dX13_findClash_70 : decode cX13_findClash 70 = .ok (.goto (-56), 3) := by decide +kernel
theorem dX13_findClash_73 : decode cX13_findClash 73 = .ok (.iinc 2 1, 3) := by decide +kernel
theorem dX13_findClash_76 : decode cX13_findClash 76 = .ok (.goto (-69), 3) := by decide +kernel
theorem dX13_findClash_79 : decode cX13_findClash 79 = .ok (.aload_n 0, 1) := by decide +kernel
theorem dX13_findClash_80 : decode cX13_findClash 80 = .ok (.ldc 255, 2) := by decide +kernel
theorem dX13_findClash_82 : decode cX13_findClash 82 = .ok (.putfield 352, 3) := by decide +kernel
theorem dX13_findClash_85 : decode cX13_findClash 85 = .ok (.iconst 0, 1) := by decide +kernel
theorem dX13_findClash_86 : decode cX13_findClash 86 = .ok (.istore_n 2, 1) := by decide +kernel
theorem dX13_findClash_87 : decode cX13_findClash 87 = .ok (.iload_n 2, 1) := by decide +kernel
theorem dX13_findClash_88 : decode cX13_findClash 88 = .ok (.bipush 40, 2) := by decide +kernel
theorem dX13_findClash_90 : decode cX13_findClash 90 = .ok (.if_icmp .ge 140, 3) := by decide +kernel
theorem dX13_findClash_93 : decode cX13_findClash 93 = .ok (.iload_n 2, 1) := by decide +kernel
theorem dX13_findClash_94 : decode cX13_findClash 94 = .ok (.iconst 1, 1) := by decide +kernel
theorem dX13_findClash_95 : decode cX13_findClash 95 = .ok (.iadd, 1) := by decide +kernel
theorem dX13_findClash_96 : decode cX13_findClash 96 = .ok (.istore_n 3, 1) := by decide +kernel
theorem dX13_findClash_97 : decode cX13_findClash 97 = .ok (.iload_n 3, 1) := by decide +kernel
theorem dX13_findClash_98 : decode cX13_findClash 98 = .ok (.bipush 40, 2) := by decide +kernel
theorem dX13_findClash_100 : decode cX13_findClash 100 = .ok (.if_icmp .ge 124, 3) := by decide +kernel
theorem dX13_findClash_103 : decode cX13_findClash 103 = .ok (.bipush 40, 2) := by decide +kernel
theorem dX13_findClash_105 : decode cX13_findClash 105 = .ok (.iload_n 2, 1) := by decide +kernel
theorem dX13_findClash_106 : decode cX13_findClash 106 = .ok (.imul, 1) := by decide +kernel
theorem dX13_findClash_107 : decode cX13_findClash 107 = .ok (.iload_n 3, 1) := by decide +kernel
theorem dX13_findClash_108 : decode cX13_findClash 108 = .ok (.iadd, 1) := by decide +kernel
theorem dX13_findClash_109 : decode cX13_findClash 109 = .ok (.istore 4, 2) := by decide +kernel
theorem dX13_findClash_111 : decode cX13_findClash 111 = .ok (.aload_n 0, 1) := by decide +kernel
theorem dX13_findClash_112 : decode cX13_findClash 112 = .ok (.getfield 115, 3) := by decide +kernel
theorem dX13_findClash_115 : decode cX13_findClash 115 = .ok (.iload 4, 2) := by decide +kernel
theorem dX13_findClash_117 : decode cX13_findClash 117 = .ok (.iaload, 1) := by decide +kernel
theorem dX13_findClash_118 : decode cX13_findClash 118 = .ok (.istore 5, 2) := by decide +kernel
theorem dX13_findClash_120 : decode cX13_findClash 120 = .ok (.aload_n 0, 1) := by decide +kernel
theorem dX13_findClash_121 : decode cX13_findClash 121 = .ok (.getfield 115, 3) := by decide +kernel
theorem dX13_findClash_124 : decode cX13_findClash 124 = .ok (.sipush 1600, 3) := by decide +kernel
theorem dX13_findClash_127 : decode cX13_findClash 127 = .ok (.iload 4, 2) := by decide +kernel
theorem dX13_findClash_129 : decode cX13_findClash 129 = .ok (.iadd, 1) := by decide +kernel
theorem dX13_findClash_130 : decode cX13_findClash 130 = .ok (.iaload, 1) := by decide +kernel
theorem dX13_findClash_131 : decode cX13_findClash 131 = .ok (.istore 6, 2) := by decide +kernel
theorem dX13_findClash_133 : decode cX13_findClash 133 = .ok (.iload 5, 2) := by decide +kernel
theorem dX13_findClash_135 : decode cX13_findClash 135 = .ok (.ldc 255, 2) := by decide +kernel
theorem dX13_findClash_137 : decode cX13_findClash 137 = .ok (.if_icmp .ge 23, 3) := by decide +kernel
theorem dX13_findClash_140 : decode cX13_findClash 140 = .ok (.iload 6, 2) := by decide +kernel
theorem dX13_findClash_142 : decode cX13_findClash 142 = .ok (.ldc 255, 2) := by decide +kernel
theorem dX13_findClash_144 : decode cX13_findClash 144 = .ok (.if_icmp .ge 16, 3) := by decide +kernel
theorem dX13_findClash_147 : decode cX13_findClash 147 = .ok (.aload_n 0, 1) := by decide +kernel
theorem dX13_findClash_148 : decode cX13_findClash 148 = .ok (.iload_n 2, 1) := by decide +kernel
theorem dX13_findClash_149 : decode cX13_findClash 149 = .ok (.iload_n 3, 1) := by decide +kernel
theorem dX13_findClash_150 : decode cX13_findClash 150 = .ok (.iconst 1, 1) := by decide +kernel
theorem dX13_findClash_151 : decode cX13_findClash 151 = .ok (.iload 5, 2) := by decide +kernel
theorem dX13_findClash_153 : decode cX13_findClash 153 = .ok (.iload 6, 2) := by decide +kernel
theorem dX13_findClash_155 : decode cX13_findClash 155 = .ok (.iadd, 1) := by decide +kernel
theorem dX13_findClash_156 : decode cX13_findClash 156 = .ok (.iconst 0, 1) := by decide +kernel
theorem dX13_findClash_157 : decode cX13_findClash 157 = .ok (.invokevirtual 355, 3) := by decide +kernel
theorem dX13_findClash_160 : decode cX13_findClash 160 = .ok (.aload_n 0, 1) := by decide +kernel
theorem dX13_findClash_161 : decode cX13_findClash 161 = .ok (.getfield 103, 3) := by decide +kernel
theorem dX13_findClash_164 : decode cX13_findClash 164 = .ok (.iload 4, 2) := by decide +kernel
theorem dX13_findClash_166 : decode cX13_findClash 166 = .ok (.baload, 1) := by decide +kernel
theorem dX13_findClash_167 : decode cX13_findClash 167 = .ok (.ifCond .eq 20, 3) := by decide +kernel
theorem dX13_findClash_170 : decode cX13_findClash 170 = .ok (.iload 5, 2) := by decide +kernel
theorem dX13_findClash_172 : decode cX13_findClash 172 = .ok (.ldc 255, 2) := by decide +kernel
theorem dX13_findClash_174 : decode cX13_findClash 174 = .ok (.if_icmp .ge 13, 3) := by decide +kernel
theorem dX13_findClash_177 : decode cX13_findClash 177 = .ok (.aload_n 0, 1) := by decide +kernel
theorem dX13_findClash_178 : decode cX13_findClash 178 = .ok (.iload_n 2, 1) := by decide +kernel
theorem dX13_findClash_179 : decode cX13_findClash 179 = .ok (.iload_n 3, 1) := by decide +kernel
theorem dX13_findClash_180 : decode cX13_findClash 180 = .ok (.iconst 2, 1) := by decide +kernel
theorem dX13_findClash_181 : decode cX13_findClash 181 = .ok (.iload 5, 2) := by decide +kernel
theorem dX13_findClash_183 : decode cX13_findClash 183 = .ok (.iconst 0, 1) := by decide +kernel
theorem dX13_findClash_184 : decode cX13_findClash 184 = .ok (.invokevirtual 355, 3) := by decide +kernel
theorem dX13_findClash_187 : decode cX13_findClash 187 = .ok (.aload_n 0, 1) := by decide +kernel
theorem dX13_findClash_188 : decode cX13_findClash 188 = .ok (.getfield 103, 3) := by decide +kernel
theorem dX13_findClash_191 : decode cX13_findClash 191 = .ok (.sipush 1600, 3) := by decide +kernel
theorem dX13_findClash_194 : decode cX13_findClash 194 = .ok (.iload 4, 2) := by decide +kernel
theorem dX13_findClash_196 : decode cX13_findClash 196 = .ok (.iadd, 1) := by decide +kernel
theorem dX13_findClash_197 : decode cX13_findClash 197 = .ok (.baload, 1) := by decide +kernel
theorem dX13_findClash_198 : decode cX13_findClash 198 = .ok (.ifCond .eq 20, 3) := by decide +kernel
theorem dX13_findClash_201 : decode cX13_findClash 201 = .ok (.iload 6, 2) := by decide +kernel
theorem dX13_findClash_203 : decode cX13_findClash 203 = .ok (.ldc 255, 2) := by decide +kernel
theorem dX13_findClash_205 : decode cX13_findClash 205 = .ok (.if_icmp .ge 13, 3) := by decide +kernel
theorem dX13_findClash_208 : decode cX13_findClash 208 = .ok (.aload_n 0, 1) := by decide +kernel
theorem dX13_findClash_209 : decode cX13_findClash 209 = .ok (.iload_n 2, 1) := by decide +kernel
theorem dX13_findClash_210 : decode cX13_findClash 210 = .ok (.iload_n 3, 1) := by decide +kernel
theorem dX13_findClash_211 : decode cX13_findClash 211 = .ok (.iconst 2, 1) := by decide +kernel
theorem dX13_findClash_212 : decode cX13_findClash 212 = .ok (.iload 6, 2) := by decide +kernel
theorem dX13_findClash_214 : decode cX13_findClash 214 = .ok (.iconst 1, 1) := by decide +kernel
theorem dX13_findClash_215 : decode cX13_findClash 215 = .ok (.invokevirtual 355, 3) := by decide +kernel
theorem dX13_findClash_218 : decode cX13_findClash 218 = .ok (.iinc 3 1, 3) := by decide +kernel
theorem dX13_findClash_221 : decode cX13_findClash 221 = .ok (.goto (-124), 3) := by decide +kernel
theorem dX13_findClash_224 : decode cX13_findClash 224 = .ok (.iinc 2 1, 3) := by decide +kernel
theorem dX13_findClash_227 : decode cX13_findClash 227 = .ok (.goto (-140), 3) := by decide +kernel
theorem dX13_findClash_230 : decode cX13_findClash 230 = .ok (.aload_n 0, 1) := by decide +kernel
theorem dX13_findClash_231 : decode cX13_findClash 231 = .ok (.getfield 352, 3) := by decide +kernel
theorem dX13_findClash_234 : decode cX13_findClash 234 = .ok (.ldc 255, 2) := by decide +kernel
theorem dX13_findClash_236 : decode cX13_findClash 236 = .ok (.if_icmp .ge 7, 3) := by decide +kernel
theorem dX13_findClash_239 : decode cX13_findClash 239 = .ok (.iconst 1, 1) := by decide +kernel
theorem dX13_findClash_240 : decode cX13_findClash 240 = .ok (.goto 4, 3) := by decide +kernel
theorem dX13_findClash_243 : decode cX13_findClash 243 = .ok (.iconst 0, 1) := by decide +kernel
theorem dX13_findClash_244 : decode cX13_findClash 244 = .ok (.ireturn, 1) := by decide +kernel
noncomputable def f_X13_findClash_244  (s0 : Int32) (σ : jM) : Option (Int32 × jM) :=
  gd (s0 = 0 ∨ s0 = 1) (some (s0, σ))
noncomputable def f_X13_findClash_218 (rec87 : Int32 → jM → Option (Int32 × jM)) (rec97 : Int32 → Int32 → jM → Option (Int32 × jM)) (l2 : Int32) (l3 : Int32) (σ : jM) : Option (Int32 × jM) :=
  rec97 l2 (l3 + 1) σ
noncomputable def f_X13_findClash_187 (rec87 : Int32 → jM → Option (Int32 × jM)) (rec97 : Int32 → Int32 → jM → Option (Int32 × jM)) (l2 : Int32) (l3 : Int32) (l4 : Int32) (l6 : Int32) (σ : jM) : Option (Int32 × jM) :=
  gd (inb (1600 + l4) 3200) ((if (rI σ 353 (Int32.toNatClampNeg (1600 + l4))) = 0 then f_X13_findClash_218 rec87 rec97 l2 l3 σ else (if 1000000 ≤ l6 then f_X13_findClash_218 rec87 rec97 l2 l3 σ else bd (f_X13_clashes l2 l3 2 l6 1 σ) (fun _ σ13 => f_X13_findClash_218 rec87 rec97 l2 l3 σ13))))
noncomputable def f_X13_findClash_160 (rec87 : Int32 → jM → Option (Int32 × jM)) (rec97 : Int32 → Int32 → jM → Option (Int32 × jM)) (l2 : Int32) (l3 : Int32) (l4 : Int32) (l5 : Int32) (l6 : Int32) (σ : jM) : Option (Int32 × jM) :=
  gd (inb l4 3200) ((if (rI σ 353 (Int32.toNatClampNeg l4)) = 0 then f_X13_findClash_187 rec87 rec97 l2 l3 l4 l6 σ else (if 1000000 ≤ l5 then f_X13_findClash_187 rec87 rec97 l2 l3 l4 l6 σ else bd (f_X13_clashes l2 l3 2 l5 0 σ) (fun _ σ25 => f_X13_findClash_187 rec87 rec97 l2 l3 l4 l6 σ25))))
noncomputable def s_X13_findClash_97 (rec87 : Int32 → jM → Option (Int32 × jM)) (rec97 : Int32 → Int32 → jM → Option (Int32 × jM)) (l2 : Int32) (l3 : Int32) (σ : jM) : Option (Int32 × jM) :=
  (if 40 ≤ l3 then rec87 (l2 + 1) σ else gd (inb ((40 * l2) + l3) 3200) (gd (inb (1600 + ((40 * l2) + l3)) 3200) ((if 1000000 ≤ (rI σ 357 (Int32.toNatClampNeg ((40 * l2) + l3))) then f_X13_findClash_160 rec87 rec97 l2 l3 ((40 * l2) + l3) (rI σ 357 (Int32.toNatClampNeg ((40 * l2) + l3))) (rI σ 357 (Int32.toNatClampNeg (1600 + ((40 * l2) + l3)))) σ else (if 1000000 ≤ (rI σ 357 (Int32.toNatClampNeg (1600 + ((40 * l2) + l3)))) then f_X13_findClash_160 rec87 rec97 l2 l3 ((40 * l2) + l3) (rI σ 357 (Int32.toNatClampNeg ((40 * l2) + l3))) (rI σ 357 (Int32.toNatClampNeg (1600 + ((40 * l2) + l3)))) σ else bd (f_X13_clashes l2 l3 1 ((rI σ 357 (Int32.toNatClampNeg ((40 * l2) + l3))) + (rI σ 357 (Int32.toNatClampNeg (1600 + ((40 * l2) + l3))))) 0 σ) (fun _ σ39 => f_X13_findClash_160 rec87 rec97 l2 l3 ((40 * l2) + l3) (rI σ 357 (Int32.toNatClampNeg ((40 * l2) + l3))) (rI σ 357 (Int32.toNatClampNeg (1600 + ((40 * l2) + l3)))) σ39))))))
noncomputable def f_X13_findClash_97 (rec87 : Int32 → jM → Option (Int32 × jM)) (n : Nat) : Int32 → Int32 → jM → Option (Int32 × jM) := Nat.rec (motive := fun _ => Int32 → Int32 → jM → Option (Int32 × jM)) (fun _ _ _ => none) (fun _ q => s_X13_findClash_97 rec87 q) n
noncomputable def s_X13_findClash_87  (rec87 : Int32 → jM → Option (Int32 × jM)) (l2 : Int32) (σ : jM) : Option (Int32 × jM) :=
  (if 40 ≤ l2 then (if 1000000 ≤ (rI σ 324 50) then f_X13_findClash_244  0 σ else f_X13_findClash_244  1 σ) else f_X13_findClash_97 rec87 Fu l2 (l2 + 1) σ)
noncomputable def f_X13_findClash_87  (n : Nat) : Int32 → jM → Option (Int32 × jM) := Nat.rec (motive := fun _ => Int32 → jM → Option (Int32 × jM)) (fun _ _ => none) (fun _ q => s_X13_findClash_87  q) n
noncomputable def s_X13_findClash_29 (rec7 : Int32 → jM → Option (Int32 × jM)) (rec14 : Int32 → Int32 → jM → Option (Int32 × jM)) (rec29 : Int32 → Int32 → Int32 → jM → Option (Int32 × jM)) (l2 : Int32) (l3 : Int32) (l4 : Int32) (σ : jM) : Option (Int32 × jM) :=
  (if 40 ≤ l4 then rec14 l2 (l3 + 1) σ else gd (inb l4 40) (gd (inb (((1600 * l2) + (40 * l3)) + l4) 3200) (rec29 l2 l3 (l4 + 1) (wI σ 357 (Int32.toNatClampNeg (((1600 * l2) + (40 * l3)) + l4)) (rI σ 356 (Int32.toNatClampNeg l4))))))
noncomputable def f_X13_findClash_29 (rec7 : Int32 → jM → Option (Int32 × jM)) (rec14 : Int32 → Int32 → jM → Option (Int32 × jM)) (n : Nat) : Int32 → Int32 → Int32 → jM → Option (Int32 × jM) := Nat.rec (motive := fun _ => Int32 → Int32 → Int32 → jM → Option (Int32 × jM)) (fun _ _ _ _ => none) (fun _ q => s_X13_findClash_29 rec7 rec14 q) n
noncomputable def s_X13_findClash_14 (rec7 : Int32 → jM → Option (Int32 × jM)) (rec14 : Int32 → Int32 → jM → Option (Int32 × jM)) (l2 : Int32) (l3 : Int32) (σ : jM) : Option (Int32 × jM) :=
  (if 40 ≤ l3 then rec7 (l2 + 1) σ else bd (f_X13_findFar l2 l3 σ) (fun _ σ61 => f_X13_findClash_29 rec7 rec14 Fu l2 l3 0 σ61))
noncomputable def f_X13_findClash_14 (rec7 : Int32 → jM → Option (Int32 × jM)) (n : Nat) : Int32 → Int32 → jM → Option (Int32 × jM) := Nat.rec (motive := fun _ => Int32 → Int32 → jM → Option (Int32 × jM)) (fun _ _ _ => none) (fun _ q => s_X13_findClash_14 rec7 q) n
noncomputable def s_X13_findClash_7  (rec7 : Int32 → jM → Option (Int32 × jM)) (l2 : Int32) (σ : jM) : Option (Int32 × jM) :=
  (if 2 ≤ l2 then f_X13_findClash_87  Fu 0 (wI σ 324 50 1000000) else f_X13_findClash_14 rec7 Fu l2 0 σ)
noncomputable def f_X13_findClash_7  (n : Nat) : Int32 → jM → Option (Int32 × jM) := Nat.rec (motive := fun _ => Int32 → jM → Option (Int32 × jM)) (fun _ _ => none) (fun _ q => s_X13_findClash_7  q) n
noncomputable def f_X13_findClash (a1 : Int32) (σ : jM) : Option (Int32 × jM) :=
  bd (f_X13_findLinks a1 σ) (fun _ σ70 => f_X13_findClash_7  Fu 0 σ70)
set_option maxRecDepth 20000 in
set_option maxHeartbeats 4000000 in
theorem t_X13_findClash_244  (s0 : Int32) (σ : jM) (r : Int32 × jM)  (h : f_X13_findClash_244  s0 σ = some r) : J mi_X13_findClash 5 0 0 (jqI r) 244 [] [.int s0] (ms σ) := by
  unfold f_X13_findClash_244 at h
  obtain ⟨g8, h⟩ := gd_inv h
  exact J_ret (v := some (.int s0)) rfl ⟨dX13_findClash_244, Or.inr (Or.inl ⟨rfl, g8⟩)⟩ (jqI_mk h)
set_option maxRecDepth 20000 in
set_option maxHeartbeats 4000000 in
theorem t_X13_findClash_218 {rec87 : Int32 → jM → Option (Int32 × jM)} (hrec87 : ∀ (l2 : Int32) (σ : jM) (r : Int32 × jM), rec87 l2 σ = some r → J mi_X13_findClash 5 0 0 (jqI r) 87 [(0, .ref 324), (2, .int l2)] [] (ms σ)) {rec97 : Int32 → Int32 → jM → Option (Int32 × jM)} (hrec97 : ∀ (l2 : Int32) (l3 : Int32) (σ : jM) (r : Int32 × jM), rec97 l2 l3 σ = some r → J mi_X13_findClash 5 0 0 (jqI r) 97 [(0, .ref 324), (2, .int l2), (3, .int l3)] [] (ms σ)) (l2 : Int32) (l3 : Int32) (σ : jM) (r : Int32 × jM)  (h : f_X13_findClash_218 rec87 rec97 l2 l3 σ = some r) : J mi_X13_findClash 5 0 0 (jqI r) 218 [(0, .ref 324), (2, .int l2), (3, .int l3)] [] (ms σ) := by
  unfold f_X13_findClash_218 at h
  refine J_iinc (v := (l3 + 1)) (ls' := [(3, .int (l3 + 1)), (0, .ref 324), (2, .int l2)]) 2 dX13_findClash_218 rfl rfl (by decide) rfl ?_
  refine J_goto (tgt := 97) dX13_findClash_221 (by decide) ?_
  refine J_pick [1, 2, 0] rfl ?_
  exact hrec97 _ _ _ _  h
set_option maxRecDepth 20000 in
set_option maxHeartbeats 4000000 in
theorem t_X13_findClash_187 {rec87 : Int32 → jM → Option (Int32 × jM)} (hrec87 : ∀ (l2 : Int32) (σ : jM) (r : Int32 × jM), rec87 l2 σ = some r → J mi_X13_findClash 5 0 0 (jqI r) 87 [(0, .ref 324), (2, .int l2)] [] (ms σ)) {rec97 : Int32 → Int32 → jM → Option (Int32 × jM)} (hrec97 : ∀ (l2 : Int32) (l3 : Int32) (σ : jM) (r : Int32 × jM), rec97 l2 l3 σ = some r → J mi_X13_findClash 5 0 0 (jqI r) 97 [(0, .ref 324), (2, .int l2), (3, .int l3)] [] (ms σ)) (l2 : Int32) (l3 : Int32) (l4 : Int32) (l6 : Int32) (σ : jM) (r : Int32 × jM)  (h : f_X13_findClash_187 rec87 rec97 l2 l3 l4 l6 σ = some r) : J mi_X13_findClash 5 0 0 (jqI r) 187 [(0, .ref 324), (2, .int l2), (3, .int l3), (4, .int l4), (6, .int l6)] [] (ms σ) := by
  unfold f_X13_findClash_187 at h
  refine J_aload_n 0 dX13_findClash_187 rfl ?_
  refine M_getR gf_X13_103_12 dX13_findClash_188 (g_324_43 _) k_324 n_324 ?_
  refine J_sipush (v := 1600) dX13_findClash_191 (by decide) ?_
  refine J_iload 3 dX13_findClash_194 rfl ?_
  refine J_iadd dX13_findClash_196 ?_
  obtain ⟨g15, h⟩ := gd_inv h
  refine M_zald dX13_findClash_197 a_353 n_353 g15 ?_
  refine J_if_eq (tgt := 218) dX13_findClash_198 (by decide) (fun c16 => ?_) (fun c16 => ?_)
  · have h := (if_pos c16).symm.trans h
    refine J_pick [0, 1, 2] rfl ?_
    exact t_X13_findClash_218 hrec87 hrec97 _ _ _ _  h
  · have h := (if_neg c16).symm.trans h
    refine J_iload 4 dX13_findClash_201 rfl ?_
    refine J_ldc dX13_findClash_203 ct_X13_255 ?_
    refine J_icmp_ge (tgt := 218) dX13_findClash_205 (by decide) (fun c17 => ?_) (fun c17 => ?_)
    · have h := (if_pos c17).symm.trans h
      refine J_pick [0, 1, 2] rfl ?_
      exact t_X13_findClash_218 hrec87 hrec97 _ _ _ _  h
    · have h := (if_neg c17).symm.trans h
      refine J_aload_n 0 dX13_findClash_208 rfl ?_
      refine J_iload_n 1 dX13_findClash_209 rfl ?_
      refine J_iload_n 2 dX13_findClash_210 rfl ?_
      refine J_iconst (v := 2) dX13_findClash_211 (by decide) ?_
      refine J_iload 4 dX13_findClash_212 rfl ?_
      refine J_iconst (v := 1) dX13_findClash_214 (by decide) ?_
      obtain ⟨_, σ19, h20, h⟩ := bd_inv h
      refine M_callVV (d' := 1) (k := 324) (As := [.int l2, .int l3, .int 2, .int l6, .int 1]) (st := []) cv_X13_355 dX13_findClash_215 rfl (by decide) rfl (Nat.le_of_ble_eq_true rfl) (Nat.le_of_ble_eq_true rfl) (by decide) n_324 k_324 rfl rfl (t_X13_clashes  h20) ?_
      refine J_pick [0, 1, 2] rfl ?_
      exact t_X13_findClash_218 hrec87 hrec97 _ _ _ _  h
set_option maxRecDepth 20000 in
set_option maxHeartbeats 4000000 in
theorem t_X13_findClash_160 {rec87 : Int32 → jM → Option (Int32 × jM)} (hrec87 : ∀ (l2 : Int32) (σ : jM) (r : Int32 × jM), rec87 l2 σ = some r → J mi_X13_findClash 5 0 0 (jqI r) 87 [(0, .ref 324), (2, .int l2)] [] (ms σ)) {rec97 : Int32 → Int32 → jM → Option (Int32 × jM)} (hrec97 : ∀ (l2 : Int32) (l3 : Int32) (σ : jM) (r : Int32 × jM), rec97 l2 l3 σ = some r → J mi_X13_findClash 5 0 0 (jqI r) 97 [(0, .ref 324), (2, .int l2), (3, .int l3)] [] (ms σ)) (l2 : Int32) (l3 : Int32) (l4 : Int32) (l5 : Int32) (l6 : Int32) (σ : jM) (r : Int32 × jM)  (h : f_X13_findClash_160 rec87 rec97 l2 l3 l4 l5 l6 σ = some r) : J mi_X13_findClash 5 0 0 (jqI r) 160 [(0, .ref 324), (2, .int l2), (3, .int l3), (4, .int l4), (5, .int l5), (6, .int l6)] [] (ms σ) := by
  unfold f_X13_findClash_160 at h
  refine J_aload_n 0 dX13_findClash_160 rfl ?_
  refine M_getR gf_X13_103_12 dX13_findClash_161 (g_324_43 _) k_324 n_324 ?_
  refine J_iload 3 dX13_findClash_164 rfl ?_
  obtain ⟨g27, h⟩ := gd_inv h
  refine M_zald dX13_findClash_166 a_353 n_353 g27 ?_
  refine J_if_eq (tgt := 187) dX13_findClash_167 (by decide) (fun c28 => ?_) (fun c28 => ?_)
  · have h := (if_pos c28).symm.trans h
    refine J_pick [0, 1, 2, 3, 5] rfl ?_
    exact t_X13_findClash_187 hrec87 hrec97 _ _ _ _ _ _  h
  · have h := (if_neg c28).symm.trans h
    refine J_iload 4 dX13_findClash_170 rfl ?_
    refine J_ldc dX13_findClash_172 ct_X13_255 ?_
    refine J_icmp_ge (tgt := 187) dX13_findClash_174 (by decide) (fun c29 => ?_) (fun c29 => ?_)
    · have h := (if_pos c29).symm.trans h
      refine J_pick [0, 1, 2, 3, 5] rfl ?_
      exact t_X13_findClash_187 hrec87 hrec97 _ _ _ _ _ _  h
    · have h := (if_neg c29).symm.trans h
      refine J_aload_n 0 dX13_findClash_177 rfl ?_
      refine J_iload_n 1 dX13_findClash_178 rfl ?_
      refine J_iload_n 2 dX13_findClash_179 rfl ?_
      refine J_iconst (v := 2) dX13_findClash_180 (by decide) ?_
      refine J_iload 4 dX13_findClash_181 rfl ?_
      refine J_iconst (v := 0) dX13_findClash_183 (by decide) ?_
      obtain ⟨_, σ31, h32, h⟩ := bd_inv h
      refine M_callVV (d' := 1) (k := 324) (As := [.int l2, .int l3, .int 2, .int l5, .int 0]) (st := []) cv_X13_355 dX13_findClash_184 rfl (by decide) rfl (Nat.le_of_ble_eq_true rfl) (Nat.le_of_ble_eq_true rfl) (by decide) n_324 k_324 rfl rfl (t_X13_clashes  h32) ?_
      refine J_pick [0, 1, 2, 3, 5] rfl ?_
      exact t_X13_findClash_187 hrec87 hrec97 _ _ _ _ _ _  h
set_option maxRecDepth 20000 in
set_option maxHeartbeats 4000000 in
theorem t_X13_findClash_97 {rec87 : Int32 → jM → Option (Int32 × jM)} (hrec87 : ∀ (l2 : Int32) (σ : jM) (r : Int32 × jM), rec87 l2 σ = some r → J mi_X13_findClash 5 0 0 (jqI r) 87 [(0, .ref 324), (2, .int l2)] [] (ms σ)) : ∀ (n : Nat) (l2 : Int32) (l3 : Int32) (σ : jM) (r : Int32 × jM), f_X13_findClash_97 rec87 n l2 l3 σ = some r → J mi_X13_findClash 5 0 0 (jqI r) 97 [(0, .ref 324), (2, .int l2), (3, .int l3)] [] (ms σ) := by
  intro n
  induction n with
  | zero =>
    intro l2 l3 σ r  h
    have h : (none : Option (Int32 × jM)) = some r := h
    cases h
  | succ n ih =>
    intro l2 l3 σ r  h
    have h : s_X13_findClash_97 rec87 (f_X13_findClash_97 rec87 n) l2 l3 σ = some r := h
    unfold s_X13_findClash_97 at h
    refine J_iload_n 2 dX13_findClash_97 rfl ?_
    refine J_bipush (v := 40) dX13_findClash_98 (by decide) ?_
    refine J_icmp_ge (tgt := 224) dX13_findClash_100 (by decide) (fun c41 => ?_) (fun c41 => ?_)
    · have h := (if_pos c41).symm.trans h
      refine J_iinc (v := (l2 + 1)) (ls' := [(2, .int (l2 + 1)), (0, .ref 324), (3, .int l3)]) 1 dX13_findClash_224 rfl rfl (by decide) rfl ?_
      refine J_goto (tgt := 87) dX13_findClash_227 (by decide) ?_
      refine J_pick [1, 0] rfl ?_
      exact hrec87 _ _ _  h
    · have h := (if_neg c41).symm.trans h
      refine J_bipush (v := 40) dX13_findClash_103 (by decide) ?_
      refine J_iload_n 1 dX13_findClash_105 rfl ?_
      refine J_imul dX13_findClash_106 ?_
      refine J_iload_n 2 dX13_findClash_107 rfl ?_
      refine J_iadd dX13_findClash_108 ?_
      refine J_istore (i := 4) (ls' := [(4, .int ((40 * l2) + l3)), (0, .ref 324), (2, .int l2), (3, .int l3)]) dX13_findClash_109 (by decide) rfl ?_
      refine J_aload_n 1 dX13_findClash_111 rfl ?_
      refine M_getR gf_X13_115_12 dX13_findClash_112 (g_324_52 _) k_324 n_324 ?_
      refine J_iload 0 dX13_findClash_115 rfl ?_
      obtain ⟨g42, h⟩ := gd_inv h
      refine M_iald dX13_findClash_117 a_357 n_357 g42 ?_
      refine J_istore (i := 5) (ls' := [(5, .int (rI σ 357 (Int32.toNatClampNeg ((40 * l2) + l3)))), (4, .int ((40 * l2) + l3)), (0, .ref 324), (2, .int l2), (3, .int l3)]) dX13_findClash_118 (by decide) rfl ?_
      refine J_aload_n 2 dX13_findClash_120 rfl ?_
      refine M_getR gf_X13_115_12 dX13_findClash_121 (g_324_52 _) k_324 n_324 ?_
      refine J_sipush (v := 1600) dX13_findClash_124 (by decide) ?_
      refine J_iload 1 dX13_findClash_127 rfl ?_
      refine J_iadd dX13_findClash_129 ?_
      obtain ⟨g43, h⟩ := gd_inv h
      refine M_iald dX13_findClash_130 a_357 n_357 g43 ?_
      refine J_istore (i := 6) (ls' := [(6, .int (rI σ 357 (Int32.toNatClampNeg (1600 + ((40 * l2) + l3))))), (5, .int (rI σ 357 (Int32.toNatClampNeg ((40 * l2) + l3)))), (4, .int ((40 * l2) + l3)), (0, .ref 324), (2, .int l2), (3, .int l3)]) dX13_findClash_131 (by decide) rfl ?_
      refine J_iload 1 dX13_findClash_133 rfl ?_
      refine J_ldc dX13_findClash_135 ct_X13_255 ?_
      refine J_icmp_ge (tgt := 160) dX13_findClash_137 (by decide) (fun c44 => ?_) (fun c44 => ?_)
      · have h := (if_pos c44).symm.trans h
        refine J_pick [3, 4, 5, 2, 1, 0] rfl ?_
        exact t_X13_findClash_160 hrec87 ih _ _ _ _ _ _ _  h
      · have h := (if_neg c44).symm.trans h
        refine J_iload 0 dX13_findClash_140 rfl ?_
        refine J_ldc dX13_findClash_142 ct_X13_255 ?_
        refine J_icmp_ge (tgt := 160) dX13_findClash_144 (by decide) (fun c45 => ?_) (fun c45 => ?_)
        · have h := (if_pos c45).symm.trans h
          refine J_pick [3, 4, 5, 2, 1, 0] rfl ?_
          exact t_X13_findClash_160 hrec87 ih _ _ _ _ _ _ _  h
        · have h := (if_neg c45).symm.trans h
          refine J_aload_n 3 dX13_findClash_147 rfl ?_
          refine J_iload_n 4 dX13_findClash_148 rfl ?_
          refine J_iload_n 5 dX13_findClash_149 rfl ?_
          refine J_iconst (v := 1) dX13_findClash_150 (by decide) ?_
          refine J_iload 1 dX13_findClash_151 rfl ?_
          refine J_iload 0 dX13_findClash_153 rfl ?_
          refine J_iadd dX13_findClash_155 ?_
          refine J_iconst (v := 0) dX13_findClash_156 (by decide) ?_
          obtain ⟨_, σ47, h48, h⟩ := bd_inv h
          refine M_callVV (d' := 1) (k := 324) (As := [.int l2, .int l3, .int 1, .int ((rI σ 357 (Int32.toNatClampNeg ((40 * l2) + l3))) + (rI σ 357 (Int32.toNatClampNeg (1600 + ((40 * l2) + l3))))), .int 0]) (st := []) cv_X13_355 dX13_findClash_157 rfl (by decide) rfl (Nat.le_of_ble_eq_true rfl) (Nat.le_of_ble_eq_true rfl) (by decide) n_324 k_324 rfl rfl (t_X13_clashes  h48) ?_
          refine J_pick [3, 4, 5, 2, 1, 0] rfl ?_
          exact t_X13_findClash_160 hrec87 ih _ _ _ _ _ _ _  h
set_option maxRecDepth 20000 in
set_option maxHeartbeats 4000000 in
theorem t_X13_findClash_87  : ∀ (n : Nat) (l2 : Int32) (σ : jM) (r : Int32 × jM), f_X13_findClash_87  n l2 σ = some r → J mi_X13_findClash 5 0 0 (jqI r) 87 [(0, .ref 324), (2, .int l2)] [] (ms σ) := by
  intro n
  induction n with
  | zero =>
    intro l2 σ r  h
    have h : (none : Option (Int32 × jM)) = some r := h
    cases h
  | succ n ih =>
    intro l2 σ r  h
    have h : s_X13_findClash_87  (f_X13_findClash_87  n) l2 σ = some r := h
    unfold s_X13_findClash_87 at h
    refine J_iload_n 1 dX13_findClash_87 rfl ?_
    refine J_bipush (v := 40) dX13_findClash_88 (by decide) ?_
    refine J_icmp_ge (tgt := 230) dX13_findClash_90 (by decide) (fun c51 => ?_) (fun c51 => ?_)
    · have h := (if_pos c51).symm.trans h
      refine J_aload_n 0 dX13_findClash_230 rfl ?_
      refine M_getI gf_X13_352_12 dX13_findClash_231 k_324 n_324 ?_
      refine J_ldc dX13_findClash_234 ct_X13_255 ?_
      refine J_icmp_ge (tgt := 243) dX13_findClash_236 (by decide) (fun c52 => ?_) (fun c52 => ?_)
      · have h := (if_pos c52).symm.trans h
        refine J_iconst (v := 0) dX13_findClash_243 (by decide) ?_
        refine J_pick [] rfl ?_
        exact t_X13_findClash_244  _ _ _  h
      · have h := (if_neg c52).symm.trans h
        refine J_iconst (v := 1) dX13_findClash_239 (by decide) ?_
        refine J_goto (tgt := 244) dX13_findClash_240 (by decide) ?_
        refine J_pick [] rfl ?_
        exact t_X13_findClash_244  _ _ _  h
    · have h := (if_neg c51).symm.trans h
      refine J_iload_n 1 dX13_findClash_93 rfl ?_
      refine J_iconst (v := 1) dX13_findClash_94 (by decide) ?_
      refine J_iadd dX13_findClash_95 ?_
      refine J_istore_n (i := 3) (ls' := [(3, .int (l2 + 1)), (0, .ref 324), (2, .int l2)]) dX13_findClash_96 rfl (by decide) rfl ?_
      refine J_pick [1, 2, 0] rfl ?_
      exact t_X13_findClash_97 ih _ _ _ _ _  h
set_option maxRecDepth 20000 in
set_option maxHeartbeats 4000000 in
theorem t_X13_findClash_29 {rec7 : Int32 → jM → Option (Int32 × jM)} (hrec7 : ∀ (l2 : Int32) (σ : jM) (r : Int32 × jM), rec7 l2 σ = some r → J mi_X13_findClash 5 0 0 (jqI r) 7 [(0, .ref 324), (2, .int l2)] [] (ms σ)) {rec14 : Int32 → Int32 → jM → Option (Int32 × jM)} (hrec14 : ∀ (l2 : Int32) (l3 : Int32) (σ : jM) (r : Int32 × jM), rec14 l2 l3 σ = some r → J mi_X13_findClash 5 0 0 (jqI r) 14 [(0, .ref 324), (2, .int l2), (3, .int l3)] [] (ms σ)) : ∀ (n : Nat) (l2 : Int32) (l3 : Int32) (l4 : Int32) (σ : jM) (r : Int32 × jM), f_X13_findClash_29 rec7 rec14 n l2 l3 l4 σ = some r → J mi_X13_findClash 5 0 0 (jqI r) 29 [(0, .ref 324), (2, .int l2), (3, .int l3), (4, .int l4)] [] (ms σ) := by
  intro n
  induction n with
  | zero =>
    intro l2 l3 l4 σ r  h
    have h : (none : Option (Int32 × jM)) = some r := h
    cases h
  | succ n ih =>
    intro l2 l3 l4 σ r  h
    have h : s_X13_findClash_29 rec7 rec14 (f_X13_findClash_29 rec7 rec14 n) l2 l3 l4 σ = some r := h
    unfold s_X13_findClash_29 at h
    refine J_iload 3 dX13_findClash_29 rfl ?_
    refine J_bipush (v := 40) dX13_findClash_31 (by decide) ?_
    refine J_icmp_ge (tgt := 67) dX13_findClash_33 (by decide) (fun c56 => ?_) (fun c56 => ?_)
    · have h := (if_pos c56).symm.trans h
      refine J_iinc (v := (l3 + 1)) (ls' := [(3, .int (l3 + 1)), (0, .ref 324), (2, .int l2), (4, .int l4)]) 2 dX13_findClash_67 rfl rfl (by decide) rfl ?_
      refine J_goto (tgt := 14) dX13_findClash_70 (by decide) ?_
      refine J_pick [1, 2, 0] rfl ?_
      exact hrec14 _ _ _ _  h
    · have h := (if_neg c56).symm.trans h
      refine J_aload_n 0 dX13_findClash_36 rfl ?_
      refine M_getR gf_X13_115_12 dX13_findClash_37 (g_324_52 _) k_324 n_324 ?_
      refine J_sipush (v := 1600) dX13_findClash_40 (by decide) ?_
      refine J_iload_n 1 dX13_findClash_43 rfl ?_
      refine J_imul dX13_findClash_44 ?_
      refine J_bipush (v := 40) dX13_findClash_45 (by decide) ?_
      refine J_iload_n 2 dX13_findClash_47 rfl ?_
      refine J_imul dX13_findClash_48 ?_
      refine J_iadd dX13_findClash_49 ?_
      refine J_iload 3 dX13_findClash_50 rfl ?_
      refine J_iadd dX13_findClash_52 ?_
      refine J_aload_n 0 dX13_findClash_53 rfl ?_
      refine M_getR gf_X13_112_12 dX13_findClash_54 (g_324_46 _) k_324 n_324 ?_
      refine J_iload 3 dX13_findClash_57 rfl ?_
      obtain ⟨g57, h⟩ := gd_inv h
      refine M_iald dX13_findClash_59 a_356 n_356 g57 ?_
      obtain ⟨g58, h⟩ := gd_inv h
      refine M_iast dX13_findClash_60 a_357 n_357 g58 ?_
      refine J_iinc (v := (l4 + 1)) (ls' := [(4, .int (l4 + 1)), (0, .ref 324), (2, .int l2), (3, .int l3)]) 3 dX13_findClash_61 rfl rfl (by decide) rfl ?_
      refine J_goto (tgt := 29) dX13_findClash_64 (by decide) ?_
      refine J_pick [1, 2, 3, 0] rfl ?_
      exact ih _ _ _ _ _  h
set_option maxRecDepth 20000 in
set_option maxHeartbeats 4000000 in
theorem t_X13_findClash_14 {rec7 : Int32 → jM → Option (Int32 × jM)} (hrec7 : ∀ (l2 : Int32) (σ : jM) (r : Int32 × jM), rec7 l2 σ = some r → J mi_X13_findClash 5 0 0 (jqI r) 7 [(0, .ref 324), (2, .int l2)] [] (ms σ)) : ∀ (n : Nat) (l2 : Int32) (l3 : Int32) (σ : jM) (r : Int32 × jM), f_X13_findClash_14 rec7 n l2 l3 σ = some r → J mi_X13_findClash 5 0 0 (jqI r) 14 [(0, .ref 324), (2, .int l2), (3, .int l3)] [] (ms σ) := by
  intro n
  induction n with
  | zero =>
    intro l2 l3 σ r  h
    have h : (none : Option (Int32 × jM)) = some r := h
    cases h
  | succ n ih =>
    intro l2 l3 σ r  h
    have h : s_X13_findClash_14 rec7 (f_X13_findClash_14 rec7 n) l2 l3 σ = some r := h
    unfold s_X13_findClash_14 at h
    refine J_iload_n 2 dX13_findClash_14 rfl ?_
    refine J_bipush (v := 40) dX13_findClash_15 (by decide) ?_
    refine J_icmp_ge (tgt := 73) dX13_findClash_17 (by decide) (fun c63 => ?_) (fun c63 => ?_)
    · have h := (if_pos c63).symm.trans h
      refine J_iinc (v := (l2 + 1)) (ls' := [(2, .int (l2 + 1)), (0, .ref 324), (3, .int l3)]) 1 dX13_findClash_73 rfl rfl (by decide) rfl ?_
      refine J_goto (tgt := 7) dX13_findClash_76 (by decide) ?_
      refine J_pick [1, 0] rfl ?_
      exact hrec7 _ _ _  h
    · have h := (if_neg c63).symm.trans h
      refine J_aload_n 0 dX13_findClash_20 rfl ?_
      refine J_iload_n 1 dX13_findClash_21 rfl ?_
      refine J_iload_n 2 dX13_findClash_22 rfl ?_
      obtain ⟨_, σ65, h66, h⟩ := bd_inv h
      refine M_callVV (d' := 1) (k := 324) (As := [.int l2, .int l3]) (st := []) cv_X13_348 dX13_findClash_23 rfl (by decide) rfl (Nat.le_of_ble_eq_true rfl) (Nat.le_of_ble_eq_true rfl) (by decide) n_324 k_324 rfl rfl (t_X13_findFar  h66) ?_
      refine J_iconst (v := 0) dX13_findClash_26 (by decide) ?_
      refine J_istore (i := 4) (ls' := [(4, .int 0), (0, .ref 324), (2, .int l2), (3, .int l3)]) dX13_findClash_27 (by decide) rfl ?_
      refine J_pick [1, 2, 3, 0] rfl ?_
      exact t_X13_findClash_29 hrec7 ih _ _ _ _ _ _  h
set_option maxRecDepth 20000 in
set_option maxHeartbeats 4000000 in
theorem t_X13_findClash_7  : ∀ (n : Nat) (l2 : Int32) (σ : jM) (r : Int32 × jM), f_X13_findClash_7  n l2 σ = some r → J mi_X13_findClash 5 0 0 (jqI r) 7 [(0, .ref 324), (2, .int l2)] [] (ms σ) := by
  intro n
  induction n with
  | zero =>
    intro l2 σ r  h
    have h : (none : Option (Int32 × jM)) = some r := h
    cases h
  | succ n ih =>
    intro l2 σ r  h
    have h : s_X13_findClash_7  (f_X13_findClash_7  n) l2 σ = some r := h
    unfold s_X13_findClash_7 at h
    refine J_iload_n 1 dX13_findClash_7 rfl ?_
    refine J_iconst (v := 2) dX13_findClash_8 (by decide) ?_
    refine J_icmp_ge (tgt := 79) dX13_findClash_9 (by decide) (fun c68 => ?_) (fun c68 => ?_)
    · have h := (if_pos c68).symm.trans h
      refine J_aload_n 0 dX13_findClash_79 rfl ?_
      refine J_ldc dX13_findClash_80 ct_X13_255 ?_
      refine M_putI pf_X13_352_12 dX13_findClash_82 k_324 n_324 ⟨rfl, rfl⟩ ?_
      refine J_iconst (v := 0) dX13_findClash_85 (by decide) ?_
      refine J_istore_n (i := 2) (ls' := [(2, .int 0), (0, .ref 324)]) dX13_findClash_86 rfl (by decide) rfl ?_
      refine J_pick [1, 0] rfl ?_
      exact t_X13_findClash_87  _ _ _ _  h
    · have h := (if_neg c68).symm.trans h
      refine J_iconst (v := 0) dX13_findClash_12 (by decide) ?_
      refine J_istore_n (i := 3) (ls' := [(3, .int 0), (0, .ref 324), (2, .int l2)]) dX13_findClash_13 rfl (by decide) rfl ?_
      refine J_pick [1, 2, 0] rfl ?_
      exact t_X13_findClash_14 ih _ _ _ _ _  h
set_option maxRecDepth 20000 in
set_option maxHeartbeats 4000000 in
theorem t_X13_findClash {a1 : Int32} {σ : jM} {r : Int32 × jM}  (h : f_X13_findClash a1 σ = some r) : J mi_X13_findClash 5 0 0 (jqI r) 0 [(0, .ref 324), (1, .int a1)] [] (ms σ) := by
  unfold f_X13_findClash at h
  refine J_aload_n 0 dX13_findClash_0 rfl ?_
  refine J_iload_n 1 dX13_findClash_1 rfl ?_
  obtain ⟨_, σ70, h71, h⟩ := bd_inv h
  refine M_callVV (d' := 4) (k := 324) (As := [.int a1]) (st := []) cv_X13_345 dX13_findClash_2 rfl (by decide) rfl (Nat.le_of_ble_eq_true rfl) (Nat.le_of_ble_eq_true rfl) (by decide) n_324 k_324 rfl rfl (t_X13_findLinks  h71) ?_
  refine J_iconst (v := 0) dX13_findClash_5 (by decide) ?_
  refine J_istore_n (i := 2) (ls' := [(2, .int 0), (0, .ref 324), (1, .int a1)]) dX13_findClash_6 rfl (by decide) rfl ?_
  refine J_pick [1, 0] rfl ?_
  exact t_X13_findClash_7  _ _ _ _  h
theorem dX13_clash_0 : decode cX13_clash 0 = .ok (.aload_n 0, 1) := by decide +kernel
theorem dX13_clash_1 : decode cX13_clash 1 = .ok (.iconst 0, 1) := by decide +kernel
theorem dX13_clash_2 : decode cX13_clash 2 = .ok (.putfield 1, 3) := by decide +kernel
theorem dX13_clash_5 : decode cX13_clash 5 = .ok (.aload_n 0, 1) := by decide +kernel
theorem dX13_clash_6 : decode cX13_clash 6 = .ok (.iload_n 1, 1) := by decide +kernel
theorem dX13_clash_7 : decode cX13_clash 7 = .ok (.invokevirtual 298, 3) := by decide +kernel
theorem dX13_clash_10 : decode cX13_clash 10 = .ok (.ifCond .eq 20, 3) := by decide +kernel
theorem dX13_clash_13 : decode cX13_clash 13 = .ok (.iload_n 2, 1) := by decide +kernel
theorem dX13_clash_14 : decode cX13_clash 14 = .ok (.iconst 0, 1) := by decide +kernel
theorem dX13_clash_15 : decode cX13_clash 15 = .ok (.iconst 3, 1) := by decide +kernel
theorem dX13_clash_16 : decode cX13_clash 16 = .ok (.invokestatic 169, 3) := by decide +kernel
theorem dX13_clash_19 : decode cX13_clash 19 = .ok (.ifCond .eq 11, 3) := by decide +kernel
theorem dX13_clash_22 : decode cX13_clash 22 = .ok (.aload_n 0, 1) := by decide +kernel
theorem dX13_clash_23 : decode cX13_clash 23 = .ok (.iload_n 1, 1) := by decide +kernel
theorem dX13_clash_24 : decode cX13_clash 24 = .ok (.invokevirtual 371, 3) := by decide +kernel
theorem dX13_clash_27 : decode cX13_clash 27 = .ok (.ifCond .ne 5, 3) := by decide +kernel
theorem dX13_clash_30 : decode cX13_clash 30 = .ok (.iconst (-1), 1) := by decide +kernel
theorem dX13_clash_31 : decode cX13_clash 31 = .ok (.ireturn, 1) := by decide +kernel
theorem dX13_clash_32 : decode cX13_clash 32 = .ok (.iload_n 2, 1) := by decide +kernel
theorem dX13_clash_33 : decode cX13_clash 33 = .ok (.ifCond .ne 10, 3) := by decide +kernel
theorem dX13_clash_36 : decode cX13_clash 36 = .ok (.aload_n 0, 1) := by decide +kernel
theorem dX13_clash_37 : decode cX13_clash 37 = .ok (.getfield 359, 3) := by decide +kernel
theorem dX13_clash_40 : decode cX13_clash 40 = .ok (.goto 31, 3) := by decide +kernel
theorem dX13_clash_43 : decode cX13_clash 43 = .ok (.iload_n 2, 1) := by decide +kernel
theorem dX13_clash_44 : decode cX13_clash 44 = .ok (.iconst 1, 1) := by decide +kernel
theorem dX13_clash_45 : decode cX13_clash 45 = .ok (.if_icmp .ne 10, 3) := by decide +kernel
theorem dX13_clash_48 : decode cX13_clash 48 = .ok (.aload_n 0, 1) := by decide +kernel
theorem dX13_clash_49 : decode cX13_clash 49 = .ok (.getfield 362, 3) := by decide +kernel
theorem dX13_clash_52 : decode cX13_clash 52 = .ok (.goto 19, 3) := by decide +kernel
theorem dX13_clash_55 : decode cX13_clash 55 = .ok (.iload_n 2, 1) := by decide +kernel
theorem dX13_clash_56 : decode cX13_clash 56 = .ok (.iconst 2, 1) := by decide +kernel
theorem dX13_clash_57 : decode cX13_clash 57 = .ok (.if_icmp .ne 10, 3) := by decide +kernel
theorem dX13_clash_60 : decode cX13_clash 60 = .ok (.aload_n 0, 1) := by decide +kernel
theorem dX13_clash_61 : decode cX13_clash 61 = .ok (.getfield 365, 3) := by decide +kernel
theorem dX13_clash_64 : decode cX13_clash 64 = .ok (.goto 7, 3) := by decide +kernel
theorem dX13_clash_67 : decode cX13_clash 67 = .ok (.aload_n 0, 1) := by decide +kernel
theorem dX13_clash_68 : decode cX13_clash 68 = .ok (.getfield 352, 3) := by decide +kernel
theorem dX13_clash_71 : decode cX13_clash 71 = .ok (.ireturn, 1) := by decide +kernel
noncomputable def f_X13_clash_30   (σ : jM) : Option (Int32 × jM) :=
  some ((-1), σ)
noncomputable def f_X13_clash_71  (s0 : Int32) (σ : jM) : Option (Int32 × jM) :=
  some (s0, σ)
noncomputable def f_X13_clash (a1 : Int32) (a2 : Int32) (σ : jM) : Option (Int32 × jM) :=
  bd (f_X13_isKnown a1 (wI σ 324 0 0)) (fun r1 σ2 => (if r1 = 0 then f_X13_clash_30   σ2 else bd (f_X13_within a2 0 3 σ2) (fun r5 σ6 => (if r5 = 0 then f_X13_clash_30   σ6 else bd (f_X13_findClash a1 σ6) (fun r9 σ10 => (if r9 = 0 then f_X13_clash_30   σ10 else (if a2 = 0 then f_X13_clash_71  (rI σ10 324 47) σ10 else (if a2 = 1 then f_X13_clash_71  (rI σ10 324 48) σ10 else (if a2 = 2 then f_X13_clash_71  (rI σ10 324 49) σ10 else f_X13_clash_71  (rI σ10 324 50) σ10)))))))))
set_option maxRecDepth 20000 in
set_option maxHeartbeats 4000000 in
theorem t_X13_clash_30   (σ : jM) (r : Int32 × jM)  (h : f_X13_clash_30   σ = some r) : J mi_X13_clash 6 0 0 (jqI r) 30 [] [] (ms σ) := by
  unfold f_X13_clash_30 at h
  refine J_iconst (v := (-1)) dX13_clash_30 (by decide) ?_
  exact J_ret (v := some (.int (-1))) rfl ⟨dX13_clash_31, Or.inl rfl⟩ (jqI_mk h)
set_option maxRecDepth 20000 in
set_option maxHeartbeats 4000000 in
theorem t_X13_clash_71  (s0 : Int32) (σ : jM) (r : Int32 × jM)  (h : f_X13_clash_71  s0 σ = some r) : J mi_X13_clash 6 0 0 (jqI r) 71 [] [.int s0] (ms σ) := by
  unfold f_X13_clash_71 at h
  exact J_ret (v := some (.int s0)) rfl ⟨dX13_clash_71, Or.inl rfl⟩ (jqI_mk h)
set_option maxRecDepth 20000 in
set_option maxHeartbeats 4000000 in
theorem t_X13_clash {a1 : Int32} {a2 : Int32} {σ : jM} {r : Int32 × jM}  (h : f_X13_clash a1 a2 σ = some r) : J mi_X13_clash 6 0 0 (jqI r) 0 [(0, .ref 324), (1, .int a1), (2, .int a2)] [] (ms σ) := by
  unfold f_X13_clash at h
  refine J_aload_n 0 dX13_clash_0 rfl ?_
  refine J_iconst (v := 0) dX13_clash_1 (by decide) ?_
  refine M_putI pf_X13_1_12 dX13_clash_2 k_324 n_324 ⟨rfl, rfl⟩ ?_
  refine J_aload_n 0 dX13_clash_5 rfl ?_
  refine J_iload_n 1 dX13_clash_6 rfl ?_
  obtain ⟨r1, σ2, h3, h⟩ := bd_inv h
  refine M_callVI (d' := 1) (k := 324) (As := [.int a1]) (st := []) cv_X13_298 dX13_clash_7 rfl (by decide) rfl (Nat.le_of_ble_eq_true rfl) (Nat.le_of_ble_eq_true rfl) (by decide) n_324 k_324 rfl rfl (t_X13_isKnown  h3) ?_
  refine J_if_eq (tgt := 30) dX13_clash_10 (by decide) (fun c4 => ?_) (fun c4 => ?_)
  · have h := (if_pos c4).symm.trans h
    refine J_pick [] rfl ?_
    exact t_X13_clash_30   _ _  h
  · have h := (if_neg c4).symm.trans h
    refine J_iload_n 2 dX13_clash_13 rfl ?_
    refine J_iconst (v := 0) dX13_clash_14 (by decide) ?_
    refine J_iconst (v := 3) dX13_clash_15 (by decide) ?_
    obtain ⟨r5, σ6, h7, h⟩ := bd_inv h
    refine M_callSI (d' := 1) (As := [.int a2, .int 0, .int 3]) (st := []) cs_X13_169 dX13_clash_16 rfl (Nat.le_of_ble_eq_true rfl) (Nat.le_of_ble_eq_true rfl) (by decide) rfl rfl (t_X13_within  h7) ?_
    refine J_if_eq (tgt := 30) dX13_clash_19 (by decide) (fun c8 => ?_) (fun c8 => ?_)
    · have h := (if_pos c8).symm.trans h
      refine J_pick [] rfl ?_
      exact t_X13_clash_30   _ _  h
    · have h := (if_neg c8).symm.trans h
      refine J_aload_n 0 dX13_clash_22 rfl ?_
      refine J_iload_n 1 dX13_clash_23 rfl ?_
      obtain ⟨r9, σ10, h11, h⟩ := bd_inv h
      refine M_callVI (d' := 5) (k := 324) (As := [.int a1]) (st := []) cv_X13_371 dX13_clash_24 rfl (by decide) rfl (Nat.le_of_ble_eq_true rfl) (Nat.le_of_ble_eq_true rfl) (by decide) n_324 k_324 rfl rfl (t_X13_findClash  h11) ?_
      refine J_if_ne (tgt := 32) dX13_clash_27 (by decide) (fun c12 => ?_) (fun c12 => ?_)
      · have h := (if_neg c12).symm.trans h
        refine J_iload_n 2 dX13_clash_32 rfl ?_
        refine J_if_ne (tgt := 43) dX13_clash_33 (by decide) (fun c13 => ?_) (fun c13 => ?_)
        · have h := (if_neg c13).symm.trans h
          refine J_iload_n 2 dX13_clash_43 rfl ?_
          refine J_iconst (v := 1) dX13_clash_44 (by decide) ?_
          refine J_icmp_ne (tgt := 55) dX13_clash_45 (by decide) (fun c14 => ?_) (fun c14 => ?_)
          · have h := (if_neg c14).symm.trans h
            refine J_iload_n 2 dX13_clash_55 rfl ?_
            refine J_iconst (v := 2) dX13_clash_56 (by decide) ?_
            refine J_icmp_ne (tgt := 67) dX13_clash_57 (by decide) (fun c15 => ?_) (fun c15 => ?_)
            · have h := (if_neg c15).symm.trans h
              refine J_aload_n 0 dX13_clash_67 rfl ?_
              refine M_getI gf_X13_352_12 dX13_clash_68 k_324 n_324 ?_
              refine J_pick [] rfl ?_
              exact t_X13_clash_71  _ _ _  h
            · have h := (if_pos c15).symm.trans h
              refine J_aload_n 0 dX13_clash_60 rfl ?_
              refine M_getI gf_X13_365_12 dX13_clash_61 k_324 n_324 ?_
              refine J_goto (tgt := 71) dX13_clash_64 (by decide) ?_
              refine J_pick [] rfl ?_
              exact t_X13_clash_71  _ _ _  h
          · have h := (if_pos c14).symm.trans h
            refine J_aload_n 0 dX13_clash_48 rfl ?_
            refine M_getI gf_X13_362_12 dX13_clash_49 k_324 n_324 ?_
            refine J_goto (tgt := 71) dX13_clash_52 (by decide) ?_
            refine J_pick [] rfl ?_
            exact t_X13_clash_71  _ _ _  h
        · have h := (if_pos c13).symm.trans h
          refine J_aload_n 0 dX13_clash_36 rfl ?_
          refine M_getI gf_X13_359_12 dX13_clash_37 k_324 n_324 ?_
          refine J_goto (tgt := 71) dX13_clash_40 (by decide) ?_
          refine J_pick [] rfl ?_
          exact t_X13_clash_71  _ _ _  h
      · have h := (if_pos c12).symm.trans h
        refine J_pick [] rfl ?_
        exact t_X13_clash_30   _ _  h
