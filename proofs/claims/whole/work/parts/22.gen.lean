theorem dX13_oftenOf_0 : decode cX13_oftenOf 0 = .ok (.iconst 0, 1) := by decide +kernel
theorem dX13_oftenOf_1 : decode cX13_oftenOf 1 = .ok (.istore 4, 2) := by decide +kernel
theorem dX13_oftenOf_3 : decode cX13_oftenOf 3 = .ok (.iconst 0, 1) := by decide +kernel
theorem dX13_oftenOf_4 : decode cX13_oftenOf 4 = .ok (.istore 5, 2) := by decide +kernel
theorem dX13_oftenOf_6 : decode cX13_oftenOf 6 = .ok (.iload 5, 2) := by decide +kernel
theorem dX13_oftenOf_8 : decode cX13_oftenOf 8 = .ok (.bipush 8, 2) := by decide +kernel
theorem dX13_oftenOf_10 : decode cX13_oftenOf 10 = .ok (.aload_n 0, 1) := by decide +kernel
theorem dX13_oftenOf_11 : decode cX13_oftenOf 11 = .ok (.getfield 243, 3) := by decide +kernel
theorem dX13_oftenOf_14 : decode cX13_oftenOf 14 = .ok (.imul, 1) := by decide +kernel
theorem dX13_oftenOf_15 : decode cX13_oftenOf 15 = .ok (.if_icmp .ge 158, 3) := by decide +kernel
theorem dX13_oftenOf_18 : decode cX13_oftenOf 18 = .ok (.iload 5, 2) := by decide +kernel
theorem dX13_oftenOf_20 : decode cX13_oftenOf 20 = .ok (.bipush 8, 2) := by decide +kernel
theorem dX13_oftenOf_22 : decode cX13_oftenOf 22 = .ok (.irem, 1) := by decide +kernel
theorem dX13_oftenOf_23 : decode cX13_oftenOf 23 = .ok (.aload_n 0, 1) := by decide +kernel
theorem dX13_oftenOf_24 : decode cX13_oftenOf 24 = .ok (.getfield 20, 3) := by decide +kernel
theorem dX13_oftenOf_27 : decode cX13_oftenOf 27 = .ok (.iload 5, 2) := by decide +kernel
theorem dX13_oftenOf_29 : decode cX13_oftenOf 29 = .ok (.bipush 8, 2) := by decide +kernel
theorem dX13_oftenOf_31 : decode cX13_oftenOf 31 = .ok (.idiv, 1) := by decide +kernel
theorem dX13_oftenOf_32 : decode cX13_oftenOf 32 = .ok (.iaload, 1) := by decide +kernel
theorem dX13_oftenOf_33 : decode cX13_oftenOf 33 = .ok (.if_icmp .ge 134, 3) := by decide +kernel
theorem dX13_oftenOf_36 : decode cX13_oftenOf 36 = .ok (.aload_n 0, 1) := by decide +kernel
theorem dX13_oftenOf_37 : decode cX13_oftenOf 37 = .ok (.iload 5, 2) := by decide +kernel
theorem dX13_oftenOf_39 : decode cX13_oftenOf 39 = .ok (.bipush 8, 2) := by decide +kernel
theorem dX13_oftenOf_41 : decode cX13_oftenOf 41 = .ok (.idiv, 1) := by decide +kernel
theorem dX13_oftenOf_42 : decode cX13_oftenOf 42 = .ok (.iload_n 2, 1) := by decide +kernel
theorem dX13_oftenOf_43 : decode cX13_oftenOf 43 = .ok (.invokevirtual 314, 3) := by decide +kernel
theorem dX13_oftenOf_46 : decode cX13_oftenOf 46 = .ok (.ifCond .ne 6, 3) := by decide +kernel
theorem dX13_oftenOf_49 : decode cX13_oftenOf 49 = .ok (.goto 118, 3) := by decide +kernel
theorem dX13_oftenOf_52 : decode cX13_oftenOf 52 = .ok (.iconst 0, 1) := by decide +kernel
theorem dX13_oftenOf_53 : decode cX13_oftenOf 53 = .ok (.istore 6, 2) := by decide +kernel
theorem dX13_oftenOf_55 : decode cX13_oftenOf 55 = .ok (.iload 6, 2) := by decide +kernel
theorem dX13_oftenOf_57 : decode cX13_oftenOf 57 = .ok (.aload_n 0, 1) := by decide +kernel
theorem dX13_oftenOf_58 : decode cX13_oftenOf 58 = .ok (.getfield 23, 3) := by decide +kernel
theorem dX13_oftenOf_61 : decode cX13_oftenOf 61 = .ok (.iload 5, 2) := by decide +kernel
theorem dX13_oftenOf_63 : decode cX13_oftenOf 63 = .ok (.iaload, 1) := by decide +kernel
theorem dX13_oftenOf_64 : decode cX13_oftenOf 64 = .ok (.if_icmp .ge 103, 3) := by decide +kernel
theorem dX13_oftenOf_67 : decode cX13_oftenOf 67 = .ok (.aload_n 0, 1) := by decide +kernel
theorem dX13_oftenOf_68 : decode cX13_oftenOf 68 = .ok (.getfield 26, 3) := by decide +kernel
theorem dX13_oftenOf_71 : decode cX13_oftenOf 71 = .ok (.bipush 6, 2) := by decide +kernel
theorem dX13_oftenOf_73 : decode cX13_oftenOf 73 = .ok (.iload 5, 2) := by decide +kernel
theorem dX13_oftenOf_75 : decode cX13_oftenOf 75 = .ok (.imul, 1) := by decide +kernel
theorem dX13_oftenOf_76 : decode cX13_oftenOf 76 = .ok (.iload 6, 2) := by decide +kernel
theorem dX13_oftenOf_78 : decode cX13_oftenOf 78 = .ok (.iadd, 1) := by decide +kernel
theorem dX13_oftenOf_79 : decode cX13_oftenOf 79 = .ok (.iaload, 1) := by decide +kernel
theorem dX13_oftenOf_80 : decode cX13_oftenOf 80 = .ok (.istore 7, 2) := by decide +kernel
theorem dX13_oftenOf_82 : decode cX13_oftenOf 82 = .ok (.iload 7, 2) := by decide +kernel
theorem dX13_oftenOf_84 : decode cX13_oftenOf 84 = .ok (.iconst (-1), 1) := by decide +kernel
theorem dX13_oftenOf_85 : decode cX13_oftenOf 85 = .ok (.if_icmp .eq 76, 3) := by decide +kernel
theorem dX13_oftenOf_88 : decode cX13_oftenOf 88 = .ok (.aload_n 0, 1) := by decide +kernel
theorem dX13_oftenOf_89 : decode cX13_oftenOf 89 = .ok (.getfield 72, 3) := by decide +kernel
theorem dX13_oftenOf_92 : decode cX13_oftenOf 92 = .ok (.iload 7, 2) := by decide +kernel
theorem dX13_oftenOf_94 : decode cX13_oftenOf 94 = .ok (.iaload, 1) := by decide +kernel
theorem dX13_oftenOf_95 : decode cX13_oftenOf 95 = .ok (.iload_n 1, 1) := by decide +kernel
theorem dX13_oftenOf_96 : decode cX13_oftenOf 96 = .ok (.if_icmp .eq 6, 3) := by decide +kernel
theorem dX13_oftenOf_99 : decode cX13_oftenOf 99 = .ok (.goto 62, 3) := by decide +kernel
theorem dX13_oftenOf_102 : decode cX13_oftenOf 102 = .ok (.aload_n 0, 1) := by decide +kernel
theorem dX13_oftenOf_103 : decode cX13_oftenOf 103 = .ok (.getfield 23, 3) := by decide +kernel
theorem dX13_oftenOf_106 : decode cX13_oftenOf 106 = .ok (.iload 5, 2) := by decide +kernel
theorem dX13_oftenOf_108 : decode cX13_oftenOf 108 = .ok (.iaload, 1) := by decide +kernel
theorem dX13_oftenOf_109 : decode cX13_oftenOf 109 = .ok (.iconst 1, 1) := by decide +kernel
theorem dX13_oftenOf_110 : decode cX13_oftenOf 110 = .ok (.if_icmp .ne 7, 3) := by decide +kernel
theorem dX13_oftenOf_113 : decode cX13_oftenOf 113 = .ok (.iconst 2, 1) := by decide +kernel
theorem dX13_oftenOf_114 : decode cX13_oftenOf 114 = .ok (.goto 31, 3) := by decide +kernel
theorem dX13_oftenOf_117 : decode cX13_oftenOf 117 = .ok (.iload 6, 2) := by decide +kernel
theorem dX13_oftenOf_119 : decode cX13_oftenOf 119 = .ok (.ifCond .ne 7, 3) := by decide +kernel
theorem dX13_oftenOf_122 : decode cX13_oftenOf 122 = .ok (.iconst 0, 1) := by decide +kernel
theorem dX13_oftenOf_123 : decode cX13_oftenOf 123 = .ok (.goto 22, 3) := by decide +kernel
theorem dX13_oftenOf_126 : decode cX13_oftenOf 126 = .ok (.iload 6, 2) := by decide +kernel
theorem dX13_oftenOf_128 : decode cX13_oftenOf 128 = .ok (.aload_n 0, 1) := by decide +kernel
theorem dX13_oftenOf_129 : decode cX13_oftenOf 129 = .ok (.getfield 23, 3) := by decide +kernel
theorem dX13_oftenOf_132 : decode cX13_oftenOf 132 = .ok (.iload 5, 2) := by decide +kernel
theorem dX13_oftenOf_134 : decode cX13_oftenOf 134 = .ok (.iaload, 1) := by decide +kernel
theorem dX13_oftenOf_135 : decode cX13_oftenOf 135 = .ok (.iconst 1, 1) := by decide +kernel
theorem dX13_oftenOf_136 : decode cX13_oftenOf 136 = .ok (.isub, 1) := by decide +kernel
theorem dX13_oftenOf_137 : decode cX13_oftenOf 137 = .ok (.if_icmp .ne 7, 3) := by decide +kernel
theorem dX13_oftenOf_140 : decode cX13_oftenOf 140 = .ok (.iconst 1, 1) := by decide +kernel
theorem dX13_oftenOf_141 : decode cX13_oftenOf 141 = .ok (.goto 4, 3) := by decide +kernel
theorem dX13_oftenOf_144 : decode cX13_oftenOf 144 = .ok (.iconst 3, 1) := by decide +kernel
theorem dX13_oftenOf_145 : decode cX13_oftenOf 145 = .ok (.istore 8, 2) := by decide +kernel
theorem dX13_oftenOf_147 : decode cX13_oftenOf 147 = .ok (.iload_n 3, 1) := by decide +kernel
theorem dX13_oftenOf_148 : decode cX13_oftenOf 148 = .ok (.iconst 4, 1) := by decide +kernel
theorem dX13_oftenOf_149 : decode cX13_oftenOf 149 = .ok (.if_icmp .eq 9, 3) := by decide +kernel
theorem dX13_oftenOf_152 : decode cX13_oftenOf 152 = .ok (.iload 8, 2) := by decide +kernel
theorem dX13_oftenOf_154 : decode cX13_oftenOf 154 = .ok (.iload_n 3, 1) := by decide +kernel
theorem dX13_oftenOf_155 : decode cX13_oftenOf 155 = .ok (.if_icmp .ne 6, 3) := by decide +kernel
theorem dX13_oftenOf_158 : decode cX13_oftenOf 158 = .ok (.iinc 4 1, 3) := by decide +kernel
theorem dX13_oftenOf_161 : decode cX13_oftenOf 161 = .ok (.iinc 6 1, 3) := by decide +kernel
theorem dX13_oftenOf_164 : decode cX13_oftenOf 164 = .ok (.goto (-109), 3) := by decide +kernel
theorem dX13_oftenOf_167 : decode cX13_oftenOf 167 = .ok (.iinc 5 1, 3) := by decide +kernel
theorem dX13_oftenOf_170 : decode cX13_oftenOf 170 = .ok (.goto (-164), 3) := by decide +kernel
theorem dX13_oftenOf_173 : decode cX13_oftenOf 173 = .ok (.iload 4, 2) := by decide +kernel
theorem dX13_oftenOf_175 : decode cX13_oftenOf 175 = .ok (.ireturn, 1) := by decide +kernel
noncomputable def f_X13_oftenOf_167 (rec6 : Int32 → Int32 → Int32 → Int32 → Int32 → jM → Option (Int32 × jM)) (l1 : Int32) (l2 : Int32) (l3 : Int32) (l4 : Int32) (l5 : Int32) (σ : jM) : Option (Int32 × jM) :=
  rec6 l1 l2 l3 l4 (l5 + 1) σ
noncomputable def f_X13_oftenOf_161 (rec6 : Int32 → Int32 → Int32 → Int32 → Int32 → jM → Option (Int32 × jM)) (rec55 : Int32 → Int32 → Int32 → Int32 → Int32 → Int32 → jM → Option (Int32 × jM)) (l1 : Int32) (l2 : Int32) (l3 : Int32) (l4 : Int32) (l5 : Int32) (l6 : Int32) (σ : jM) : Option (Int32 × jM) :=
  rec55 l1 l2 l3 l4 l5 (l6 + 1) σ
noncomputable def f_X13_oftenOf_158 (rec6 : Int32 → Int32 → Int32 → Int32 → Int32 → jM → Option (Int32 × jM)) (rec55 : Int32 → Int32 → Int32 → Int32 → Int32 → Int32 → jM → Option (Int32 × jM)) (l1 : Int32) (l2 : Int32) (l3 : Int32) (l4 : Int32) (l5 : Int32) (l6 : Int32) (σ : jM) : Option (Int32 × jM) :=
  f_X13_oftenOf_161 rec6 rec55 l1 l2 l3 (l4 + 1) l5 l6 σ
noncomputable def f_X13_oftenOf_145 (rec6 : Int32 → Int32 → Int32 → Int32 → Int32 → jM → Option (Int32 × jM)) (rec55 : Int32 → Int32 → Int32 → Int32 → Int32 → Int32 → jM → Option (Int32 × jM)) (l1 : Int32) (l2 : Int32) (l3 : Int32) (l4 : Int32) (l5 : Int32) (l6 : Int32) (s0 : Int32) (σ : jM) : Option (Int32 × jM) :=
  (if l3 = 4 then f_X13_oftenOf_158 rec6 rec55 l1 l2 l3 l4 l5 l6 σ else (if s0 = l3 then f_X13_oftenOf_158 rec6 rec55 l1 l2 l3 l4 l5 l6 σ else f_X13_oftenOf_161 rec6 rec55 l1 l2 l3 l4 l5 l6 σ))
noncomputable def s_X13_oftenOf_55 (rec6 : Int32 → Int32 → Int32 → Int32 → Int32 → jM → Option (Int32 × jM)) (rec55 : Int32 → Int32 → Int32 → Int32 → Int32 → Int32 → jM → Option (Int32 × jM)) (l1 : Int32) (l2 : Int32) (l3 : Int32) (l4 : Int32) (l5 : Int32) (l6 : Int32) (σ : jM) : Option (Int32 × jM) :=
  gd (inb l5 200) ((if (rI σ 328 (Int32.toNatClampNeg l5)) ≤ l6 then f_X13_oftenOf_167 rec6 l1 l2 l3 l4 l5 σ else gd (inb ((6 * l5) + l6) 1200) ((if (rI σ 329 (Int32.toNatClampNeg ((6 * l5) + l6))) = (-1) then f_X13_oftenOf_161 rec6 rec55 l1 l2 l3 l4 l5 l6 σ else gd (inb (rI σ 329 (Int32.toNatClampNeg ((6 * l5) + l6))) 40) ((if (rI σ 343 (Int32.toNatClampNeg (rI σ 329 (Int32.toNatClampNeg ((6 * l5) + l6))))) = l1 then gd (inb l5 200) ((if (rI σ 328 (Int32.toNatClampNeg l5)) = 1 then f_X13_oftenOf_145 rec6 rec55 l1 l2 l3 l4 l5 l6 2 σ else (if l6 = 0 then f_X13_oftenOf_145 rec6 rec55 l1 l2 l3 l4 l5 l6 0 σ else gd (inb l5 200) ((if l6 = ((rI σ 328 (Int32.toNatClampNeg l5)) - 1) then f_X13_oftenOf_145 rec6 rec55 l1 l2 l3 l4 l5 l6 1 σ else f_X13_oftenOf_145 rec6 rec55 l1 l2 l3 l4 l5 l6 3 σ))))) else f_X13_oftenOf_161 rec6 rec55 l1 l2 l3 l4 l5 l6 σ))))))
noncomputable def f_X13_oftenOf_55 (rec6 : Int32 → Int32 → Int32 → Int32 → Int32 → jM → Option (Int32 × jM)) (n : Nat) : Int32 → Int32 → Int32 → Int32 → Int32 → Int32 → jM → Option (Int32 × jM) := Nat.rec (motive := fun _ => Int32 → Int32 → Int32 → Int32 → Int32 → Int32 → jM → Option (Int32 × jM)) (fun _ _ _ _ _ _ _ => none) (fun _ q => s_X13_oftenOf_55 rec6 q) n
noncomputable def s_X13_oftenOf_6  (rec6 : Int32 → Int32 → Int32 → Int32 → Int32 → jM → Option (Int32 × jM)) (l1 : Int32) (l2 : Int32) (l3 : Int32) (l4 : Int32) (l5 : Int32) (σ : jM) : Option (Int32 × jM) :=
  (if (8 * (rI σ 324 2)) ≤ l5 then some (l4, σ) else gd (inb (l5 / 8) 25) ((if (rI σ 327 (Int32.toNatClampNeg (l5 / 8))) ≤ (l5 - l5 / 8 * 8) then f_X13_oftenOf_167 rec6 l1 l2 l3 l4 l5 σ else bd (f_X13_tabletCounts (l5 / 8) l2 σ) (fun r36 σ37 => (if r36 = 0 then f_X13_oftenOf_167 rec6 l1 l2 l3 l4 l5 σ37 else f_X13_oftenOf_55 rec6 Fu l1 l2 l3 l4 l5 0 σ37)))))
noncomputable def f_X13_oftenOf_6  (n : Nat) : Int32 → Int32 → Int32 → Int32 → Int32 → jM → Option (Int32 × jM) := Nat.rec (motive := fun _ => Int32 → Int32 → Int32 → Int32 → Int32 → jM → Option (Int32 × jM)) (fun _ _ _ _ _ _ => none) (fun _ q => s_X13_oftenOf_6  q) n
noncomputable def f_X13_oftenOf (a1 : Int32) (a2 : Int32) (a3 : Int32) (σ : jM) : Option (Int32 × jM) :=
  f_X13_oftenOf_6  Fu a1 a2 a3 0 0 σ
set_option maxRecDepth 20000 in
set_option maxHeartbeats 4000000 in
theorem t_X13_oftenOf_167 {rec6 : Int32 → Int32 → Int32 → Int32 → Int32 → jM → Option (Int32 × jM)} (hrec6 : ∀ (l1 : Int32) (l2 : Int32) (l3 : Int32) (l4 : Int32) (l5 : Int32) (σ : jM) (r : Int32 × jM), rec6 l1 l2 l3 l4 l5 σ = some r → J mi_X13_oftenOf 3 0 0 (jqI r) 6 [(0, .ref 324), (1, .int l1), (2, .int l2), (3, .int l3), (4, .int l4), (5, .int l5)] [] (ms σ)) (l1 : Int32) (l2 : Int32) (l3 : Int32) (l4 : Int32) (l5 : Int32) (σ : jM) (r : Int32 × jM)  (h : f_X13_oftenOf_167 rec6 l1 l2 l3 l4 l5 σ = some r) : J mi_X13_oftenOf 3 0 0 (jqI r) 167 [(0, .ref 324), (1, .int l1), (2, .int l2), (3, .int l3), (4, .int l4), (5, .int l5)] [] (ms σ) := by
  unfold f_X13_oftenOf_167 at h
  refine J_iinc (v := (l5 + 1)) (ls' := [(5, .int (l5 + 1)), (0, .ref 324), (1, .int l1), (2, .int l2), (3, .int l3), (4, .int l4)]) 5 dX13_oftenOf_167 rfl rfl (by decide) rfl ?_
  refine J_goto (tgt := 6) dX13_oftenOf_170 (by decide) ?_
  refine J_pick [1, 2, 3, 4, 5, 0] rfl ?_
  exact hrec6 _ _ _ _ _ _ _  h
set_option maxRecDepth 20000 in
set_option maxHeartbeats 4000000 in
theorem t_X13_oftenOf_161 {rec6 : Int32 → Int32 → Int32 → Int32 → Int32 → jM → Option (Int32 × jM)} (hrec6 : ∀ (l1 : Int32) (l2 : Int32) (l3 : Int32) (l4 : Int32) (l5 : Int32) (σ : jM) (r : Int32 × jM), rec6 l1 l2 l3 l4 l5 σ = some r → J mi_X13_oftenOf 3 0 0 (jqI r) 6 [(0, .ref 324), (1, .int l1), (2, .int l2), (3, .int l3), (4, .int l4), (5, .int l5)] [] (ms σ)) {rec55 : Int32 → Int32 → Int32 → Int32 → Int32 → Int32 → jM → Option (Int32 × jM)} (hrec55 : ∀ (l1 : Int32) (l2 : Int32) (l3 : Int32) (l4 : Int32) (l5 : Int32) (l6 : Int32) (σ : jM) (r : Int32 × jM), rec55 l1 l2 l3 l4 l5 l6 σ = some r → J mi_X13_oftenOf 3 0 0 (jqI r) 55 [(0, .ref 324), (1, .int l1), (2, .int l2), (3, .int l3), (4, .int l4), (5, .int l5), (6, .int l6)] [] (ms σ)) (l1 : Int32) (l2 : Int32) (l3 : Int32) (l4 : Int32) (l5 : Int32) (l6 : Int32) (σ : jM) (r : Int32 × jM)  (h : f_X13_oftenOf_161 rec6 rec55 l1 l2 l3 l4 l5 l6 σ = some r) : J mi_X13_oftenOf 3 0 0 (jqI r) 161 [(0, .ref 324), (1, .int l1), (2, .int l2), (3, .int l3), (4, .int l4), (5, .int l5), (6, .int l6)] [] (ms σ) := by
  unfold f_X13_oftenOf_161 at h
  refine J_iinc (v := (l6 + 1)) (ls' := [(6, .int (l6 + 1)), (0, .ref 324), (1, .int l1), (2, .int l2), (3, .int l3), (4, .int l4), (5, .int l5)]) 6 dX13_oftenOf_161 rfl rfl (by decide) rfl ?_
  refine J_goto (tgt := 55) dX13_oftenOf_164 (by decide) ?_
  refine J_pick [1, 2, 3, 4, 5, 6, 0] rfl ?_
  exact hrec55 _ _ _ _ _ _ _ _  h
set_option maxRecDepth 20000 in
set_option maxHeartbeats 4000000 in
theorem t_X13_oftenOf_158 {rec6 : Int32 → Int32 → Int32 → Int32 → Int32 → jM → Option (Int32 × jM)} (hrec6 : ∀ (l1 : Int32) (l2 : Int32) (l3 : Int32) (l4 : Int32) (l5 : Int32) (σ : jM) (r : Int32 × jM), rec6 l1 l2 l3 l4 l5 σ = some r → J mi_X13_oftenOf 3 0 0 (jqI r) 6 [(0, .ref 324), (1, .int l1), (2, .int l2), (3, .int l3), (4, .int l4), (5, .int l5)] [] (ms σ)) {rec55 : Int32 → Int32 → Int32 → Int32 → Int32 → Int32 → jM → Option (Int32 × jM)} (hrec55 : ∀ (l1 : Int32) (l2 : Int32) (l3 : Int32) (l4 : Int32) (l5 : Int32) (l6 : Int32) (σ : jM) (r : Int32 × jM), rec55 l1 l2 l3 l4 l5 l6 σ = some r → J mi_X13_oftenOf 3 0 0 (jqI r) 55 [(0, .ref 324), (1, .int l1), (2, .int l2), (3, .int l3), (4, .int l4), (5, .int l5), (6, .int l6)] [] (ms σ)) (l1 : Int32) (l2 : Int32) (l3 : Int32) (l4 : Int32) (l5 : Int32) (l6 : Int32) (σ : jM) (r : Int32 × jM)  (h : f_X13_oftenOf_158 rec6 rec55 l1 l2 l3 l4 l5 l6 σ = some r) : J mi_X13_oftenOf 3 0 0 (jqI r) 158 [(0, .ref 324), (1, .int l1), (2, .int l2), (3, .int l3), (4, .int l4), (5, .int l5), (6, .int l6)] [] (ms σ) := by
  unfold f_X13_oftenOf_158 at h
  refine J_iinc (v := (l4 + 1)) (ls' := [(4, .int (l4 + 1)), (0, .ref 324), (1, .int l1), (2, .int l2), (3, .int l3), (5, .int l5), (6, .int l6)]) 4 dX13_oftenOf_158 rfl rfl (by decide) rfl ?_
  refine J_pick [1, 2, 3, 4, 0, 5, 6] rfl ?_
  exact t_X13_oftenOf_161 hrec6 hrec55 _ _ _ _ _ _ _ _  h
set_option maxRecDepth 20000 in
set_option maxHeartbeats 4000000 in
theorem t_X13_oftenOf_145 {rec6 : Int32 → Int32 → Int32 → Int32 → Int32 → jM → Option (Int32 × jM)} (hrec6 : ∀ (l1 : Int32) (l2 : Int32) (l3 : Int32) (l4 : Int32) (l5 : Int32) (σ : jM) (r : Int32 × jM), rec6 l1 l2 l3 l4 l5 σ = some r → J mi_X13_oftenOf 3 0 0 (jqI r) 6 [(0, .ref 324), (1, .int l1), (2, .int l2), (3, .int l3), (4, .int l4), (5, .int l5)] [] (ms σ)) {rec55 : Int32 → Int32 → Int32 → Int32 → Int32 → Int32 → jM → Option (Int32 × jM)} (hrec55 : ∀ (l1 : Int32) (l2 : Int32) (l3 : Int32) (l4 : Int32) (l5 : Int32) (l6 : Int32) (σ : jM) (r : Int32 × jM), rec55 l1 l2 l3 l4 l5 l6 σ = some r → J mi_X13_oftenOf 3 0 0 (jqI r) 55 [(0, .ref 324), (1, .int l1), (2, .int l2), (3, .int l3), (4, .int l4), (5, .int l5), (6, .int l6)] [] (ms σ)) (l1 : Int32) (l2 : Int32) (l3 : Int32) (l4 : Int32) (l5 : Int32) (l6 : Int32) (s0 : Int32) (σ : jM) (r : Int32 × jM)  (h : f_X13_oftenOf_145 rec6 rec55 l1 l2 l3 l4 l5 l6 s0 σ = some r) : J mi_X13_oftenOf 3 0 0 (jqI r) 145 [(0, .ref 324), (1, .int l1), (2, .int l2), (3, .int l3), (4, .int l4), (5, .int l5), (6, .int l6)] [.int s0] (ms σ) := by
  unfold f_X13_oftenOf_145 at h
  refine J_istore (i := 8) (ls' := [(8, .int s0), (0, .ref 324), (1, .int l1), (2, .int l2), (3, .int l3), (4, .int l4), (5, .int l5), (6, .int l6)]) dX13_oftenOf_145 (by decide) rfl ?_
  refine J_iload_n 4 dX13_oftenOf_147 rfl ?_
  refine J_iconst (v := 4) dX13_oftenOf_148 (by decide) ?_
  refine J_icmp_eq (tgt := 158) dX13_oftenOf_149 (by decide) (fun c9 => ?_) (fun c9 => ?_)
  · have h := (if_pos c9).symm.trans h
    refine J_pick [1, 2, 3, 4, 5, 6, 7] rfl ?_
    exact t_X13_oftenOf_158 hrec6 hrec55 _ _ _ _ _ _ _ _  h
  · have h := (if_neg c9).symm.trans h
    refine J_iload 0 dX13_oftenOf_152 rfl ?_
    refine J_iload_n 4 dX13_oftenOf_154 rfl ?_
    refine J_icmp_ne (tgt := 161) dX13_oftenOf_155 (by decide) (fun c10 => ?_) (fun c10 => ?_)
    · have h := (if_neg c10).symm.trans h
      refine J_pick [1, 2, 3, 4, 5, 6, 7] rfl ?_
      exact t_X13_oftenOf_161 hrec6 hrec55 _ _ _ _ _ _ _ _  h
    · have h := (if_pos c10).symm.trans h
      refine J_pick [1, 2, 3, 4, 5, 6, 7] rfl ?_
      exact t_X13_oftenOf_158 hrec6 hrec55 _ _ _ _ _ _ _ _  h
set_option maxRecDepth 20000 in
set_option maxHeartbeats 4000000 in
theorem t_X13_oftenOf_55 {rec6 : Int32 → Int32 → Int32 → Int32 → Int32 → jM → Option (Int32 × jM)} (hrec6 : ∀ (l1 : Int32) (l2 : Int32) (l3 : Int32) (l4 : Int32) (l5 : Int32) (σ : jM) (r : Int32 × jM), rec6 l1 l2 l3 l4 l5 σ = some r → J mi_X13_oftenOf 3 0 0 (jqI r) 6 [(0, .ref 324), (1, .int l1), (2, .int l2), (3, .int l3), (4, .int l4), (5, .int l5)] [] (ms σ)) : ∀ (n : Nat) (l1 : Int32) (l2 : Int32) (l3 : Int32) (l4 : Int32) (l5 : Int32) (l6 : Int32) (σ : jM) (r : Int32 × jM), f_X13_oftenOf_55 rec6 n l1 l2 l3 l4 l5 l6 σ = some r → J mi_X13_oftenOf 3 0 0 (jqI r) 55 [(0, .ref 324), (1, .int l1), (2, .int l2), (3, .int l3), (4, .int l4), (5, .int l5), (6, .int l6)] [] (ms σ) := by
  intro n
  induction n with
  | zero =>
    intro l1 l2 l3 l4 l5 l6 σ r  h
    have h : (none : Option (Int32 × jM)) = some r := h
    cases h
  | succ n ih =>
    intro l1 l2 l3 l4 l5 l6 σ r  h
    have h : s_X13_oftenOf_55 rec6 (f_X13_oftenOf_55 rec6 n) l1 l2 l3 l4 l5 l6 σ = some r := h
    unfold s_X13_oftenOf_55 at h
    refine J_iload 6 dX13_oftenOf_55 rfl ?_
    refine J_aload_n 0 dX13_oftenOf_57 rfl ?_
    refine M_getR gf_X13_23_12 dX13_oftenOf_58 (g_324_6 _) k_324 n_324 ?_
    refine J_iload 5 dX13_oftenOf_61 rfl ?_
    obtain ⟨g22, h⟩ := gd_inv h
    refine M_iald dX13_oftenOf_63 a_328 n_328 g22 ?_
    refine J_icmp_ge (tgt := 167) dX13_oftenOf_64 (by decide) (fun c23 => ?_) (fun c23 => ?_)
    · have h := (if_pos c23).symm.trans h
      refine J_pick [0, 1, 2, 3, 4, 5] rfl ?_
      exact t_X13_oftenOf_167 hrec6 _ _ _ _ _ _ _  h
    · have h := (if_neg c23).symm.trans h
      refine J_aload_n 0 dX13_oftenOf_67 rfl ?_
      refine M_getR gf_X13_26_12 dX13_oftenOf_68 (g_324_7 _) k_324 n_324 ?_
      refine J_bipush (v := 6) dX13_oftenOf_71 (by decide) ?_
      refine J_iload 5 dX13_oftenOf_73 rfl ?_
      refine J_imul dX13_oftenOf_75 ?_
      refine J_iload 6 dX13_oftenOf_76 rfl ?_
      refine J_iadd dX13_oftenOf_78 ?_
      obtain ⟨g24, h⟩ := gd_inv h
      refine M_iald dX13_oftenOf_79 a_329 n_329 g24 ?_
      refine J_istore (i := 7) (ls' := [(7, .int (rI σ 329 (Int32.toNatClampNeg ((6 * l5) + l6)))), (0, .ref 324), (1, .int l1), (2, .int l2), (3, .int l3), (4, .int l4), (5, .int l5), (6, .int l6)]) dX13_oftenOf_80 (by decide) rfl ?_
      refine J_iload 0 dX13_oftenOf_82 rfl ?_
      refine J_iconst (v := (-1)) dX13_oftenOf_84 (by decide) ?_
      refine J_icmp_eq (tgt := 161) dX13_oftenOf_85 (by decide) (fun c25 => ?_) (fun c25 => ?_)
      · have h := (if_pos c25).symm.trans h
        refine J_pick [1, 2, 3, 4, 5, 6, 7] rfl ?_
        exact t_X13_oftenOf_161 hrec6 ih _ _ _ _ _ _ _ _  h
      · have h := (if_neg c25).symm.trans h
        refine J_aload_n 1 dX13_oftenOf_88 rfl ?_
        refine M_getR gf_X13_72_12 dX13_oftenOf_89 (g_324_31 _) k_324 n_324 ?_
        refine J_iload 0 dX13_oftenOf_92 rfl ?_
        obtain ⟨g26, h⟩ := gd_inv h
        refine M_iald dX13_oftenOf_94 a_343 n_343 g26 ?_
        refine J_iload_n 2 dX13_oftenOf_95 rfl ?_
        refine J_icmp_eq (tgt := 102) dX13_oftenOf_96 (by decide) (fun c27 => ?_) (fun c27 => ?_)
        · have h := (if_pos c27).symm.trans h
          refine J_aload_n 1 dX13_oftenOf_102 rfl ?_
          refine M_getR gf_X13_23_12 dX13_oftenOf_103 (g_324_6 _) k_324 n_324 ?_
          refine J_iload 6 dX13_oftenOf_106 rfl ?_
          obtain ⟨g28, h⟩ := gd_inv h
          refine M_iald dX13_oftenOf_108 a_328 n_328 g28 ?_
          refine J_iconst (v := 1) dX13_oftenOf_109 (by decide) ?_
          refine J_icmp_ne (tgt := 117) dX13_oftenOf_110 (by decide) (fun c29 => ?_) (fun c29 => ?_)
          · have h := (if_neg c29).symm.trans h
            refine J_iload 7 dX13_oftenOf_117 rfl ?_
            refine J_if_ne (tgt := 126) dX13_oftenOf_119 (by decide) (fun c30 => ?_) (fun c30 => ?_)
            · have h := (if_neg c30).symm.trans h
              refine J_iload 7 dX13_oftenOf_126 rfl ?_
              refine J_aload_n 1 dX13_oftenOf_128 rfl ?_
              refine M_getR gf_X13_23_12 dX13_oftenOf_129 (g_324_6 _) k_324 n_324 ?_
              refine J_iload 6 dX13_oftenOf_132 rfl ?_
              obtain ⟨g31, h⟩ := gd_inv h
              refine M_iald dX13_oftenOf_134 a_328 n_328 g31 ?_
              refine J_iconst (v := 1) dX13_oftenOf_135 (by decide) ?_
              refine J_isub dX13_oftenOf_136 ?_
              refine J_icmp_ne (tgt := 144) dX13_oftenOf_137 (by decide) (fun c32 => ?_) (fun c32 => ?_)
              · have h := (if_neg c32).symm.trans h
                refine J_iconst (v := 3) dX13_oftenOf_144 (by decide) ?_
                refine J_pick [1, 2, 3, 4, 5, 6, 7] rfl ?_
                exact t_X13_oftenOf_145 hrec6 ih _ _ _ _ _ _ _ _ _  h
              · have h := (if_pos c32).symm.trans h
                refine J_iconst (v := 1) dX13_oftenOf_140 (by decide) ?_
                refine J_goto (tgt := 145) dX13_oftenOf_141 (by decide) ?_
                refine J_pick [1, 2, 3, 4, 5, 6, 7] rfl ?_
                exact t_X13_oftenOf_145 hrec6 ih _ _ _ _ _ _ _ _ _  h
            · have h := (if_pos c30).symm.trans h
              refine J_iconst (v := 0) dX13_oftenOf_122 (by decide) ?_
              refine J_goto (tgt := 145) dX13_oftenOf_123 (by decide) ?_
              refine J_pick [1, 2, 3, 4, 5, 6, 7] rfl ?_
              exact t_X13_oftenOf_145 hrec6 ih _ _ _ _ _ _ _ _ _  h
          · have h := (if_pos c29).symm.trans h
            refine J_iconst (v := 2) dX13_oftenOf_113 (by decide) ?_
            refine J_goto (tgt := 145) dX13_oftenOf_114 (by decide) ?_
            refine J_pick [1, 2, 3, 4, 5, 6, 7] rfl ?_
            exact t_X13_oftenOf_145 hrec6 ih _ _ _ _ _ _ _ _ _  h
        · have h := (if_neg c27).symm.trans h
          refine J_goto (tgt := 161) dX13_oftenOf_99 (by decide) ?_
          refine J_pick [1, 2, 3, 4, 5, 6, 7] rfl ?_
          exact t_X13_oftenOf_161 hrec6 ih _ _ _ _ _ _ _ _  h
set_option maxRecDepth 20000 in
set_option maxHeartbeats 4000000 in
theorem t_X13_oftenOf_6  : ∀ (n : Nat) (l1 : Int32) (l2 : Int32) (l3 : Int32) (l4 : Int32) (l5 : Int32) (σ : jM) (r : Int32 × jM), f_X13_oftenOf_6  n l1 l2 l3 l4 l5 σ = some r → J mi_X13_oftenOf 3 0 0 (jqI r) 6 [(0, .ref 324), (1, .int l1), (2, .int l2), (3, .int l3), (4, .int l4), (5, .int l5)] [] (ms σ) := by
  intro n
  induction n with
  | zero =>
    intro l1 l2 l3 l4 l5 σ r  h
    have h : (none : Option (Int32 × jM)) = some r := h
    cases h
  | succ n ih =>
    intro l1 l2 l3 l4 l5 σ r  h
    have h : s_X13_oftenOf_6  (f_X13_oftenOf_6  n) l1 l2 l3 l4 l5 σ = some r := h
    unfold s_X13_oftenOf_6 at h
    refine J_iload 5 dX13_oftenOf_6 rfl ?_
    refine J_bipush (v := 8) dX13_oftenOf_8 (by decide) ?_
    refine J_aload_n 0 dX13_oftenOf_10 rfl ?_
    refine M_getI gf_X13_243_12 dX13_oftenOf_11 k_324 n_324 ?_
    refine J_imul dX13_oftenOf_14 ?_
    refine J_icmp_ge (tgt := 173) dX13_oftenOf_15 (by decide) (fun c40 => ?_) (fun c40 => ?_)
    · have h := (if_pos c40).symm.trans h
      refine J_iload 4 dX13_oftenOf_173 rfl ?_
      exact J_ret (v := some (.int l4)) rfl ⟨dX13_oftenOf_175, Or.inl rfl⟩ (jqI_mk h)
    · have h := (if_neg c40).symm.trans h
      refine J_iload 5 dX13_oftenOf_18 rfl ?_
      refine J_bipush (v := 8) dX13_oftenOf_20 (by decide) ?_
      refine J_irem dX13_oftenOf_22 (by decide) ?_
      refine J_aload_n 0 dX13_oftenOf_23 rfl ?_
      refine M_getR gf_X13_20_12 dX13_oftenOf_24 (g_324_5 _) k_324 n_324 ?_
      refine J_iload 5 dX13_oftenOf_27 rfl ?_
      refine J_bipush (v := 8) dX13_oftenOf_29 (by decide) ?_
      refine J_idiv dX13_oftenOf_31 (by decide) ?_
      obtain ⟨g41, h⟩ := gd_inv h
      refine M_iald dX13_oftenOf_32 a_327 n_327 g41 ?_
      refine J_icmp_ge (tgt := 167) dX13_oftenOf_33 (by decide) (fun c42 => ?_) (fun c42 => ?_)
      · have h := (if_pos c42).symm.trans h
        exact t_X13_oftenOf_167 ih _ _ _ _ _ _ _  h
      · have h := (if_neg c42).symm.trans h
        refine J_aload_n 0 dX13_oftenOf_36 rfl ?_
        refine J_iload 5 dX13_oftenOf_37 rfl ?_
        refine J_bipush (v := 8) dX13_oftenOf_39 (by decide) ?_
        refine J_idiv dX13_oftenOf_41 (by decide) ?_
        refine J_iload_n 2 dX13_oftenOf_42 rfl ?_
        obtain ⟨r43, σ44, h45, h⟩ := bd_inv h
        refine M_callVI (d' := 2) (k := 324) (As := [.int (l5 / 8), .int l2]) (st := []) cv_X13_314 dX13_oftenOf_43 rfl (by decide) rfl (Nat.le_of_ble_eq_true rfl) (Nat.le_of_ble_eq_true rfl) (by decide) n_324 k_324 rfl rfl (t_X13_tabletCounts  h45) ?_
        refine J_if_ne (tgt := 52) dX13_oftenOf_46 (by decide) (fun c46 => ?_) (fun c46 => ?_)
        · have h := (if_neg c46).symm.trans h
          refine J_iconst (v := 0) dX13_oftenOf_52 (by decide) ?_
          refine J_istore (i := 6) (ls' := [(6, .int 0), (0, .ref 324), (1, .int l1), (2, .int l2), (3, .int l3), (4, .int l4), (5, .int l5)]) dX13_oftenOf_53 (by decide) rfl ?_
          refine J_pick [1, 2, 3, 4, 5, 6, 0] rfl ?_
          exact t_X13_oftenOf_55 ih _ _ _ _ _ _ _ _ _  h
        · have h := (if_pos c46).symm.trans h
          refine J_goto (tgt := 167) dX13_oftenOf_49 (by decide) ?_
          exact t_X13_oftenOf_167 ih _ _ _ _ _ _ _  h
set_option maxRecDepth 20000 in
set_option maxHeartbeats 4000000 in
theorem t_X13_oftenOf {a1 : Int32} {a2 : Int32} {a3 : Int32} {σ : jM} {r : Int32 × jM}  (h : f_X13_oftenOf a1 a2 a3 σ = some r) : J mi_X13_oftenOf 3 0 0 (jqI r) 0 [(0, .ref 324), (1, .int a1), (2, .int a2), (3, .int a3)] [] (ms σ) := by
  unfold f_X13_oftenOf at h
  refine J_iconst (v := 0) dX13_oftenOf_0 (by decide) ?_
  refine J_istore (i := 4) (ls' := [(4, .int 0), (0, .ref 324), (1, .int a1), (2, .int a2), (3, .int a3)]) dX13_oftenOf_1 (by decide) rfl ?_
  refine J_iconst (v := 0) dX13_oftenOf_3 (by decide) ?_
  refine J_istore (i := 5) (ls' := [(5, .int 0), (4, .int 0), (0, .ref 324), (1, .int a1), (2, .int a2), (3, .int a3)]) dX13_oftenOf_4 (by decide) rfl ?_
  refine J_pick [2, 3, 4, 5, 1, 0] rfl ?_
  exact t_X13_oftenOf_6  _ _ _ _ _ _ _ _  h
theorem dX13_often_0 : decode cX13_often 0 = .ok (.aload_n 0, 1) := by decide +kernel
theorem dX13_often_1 : decode cX13_often 1 = .ok (.iconst 0, 1) := by decide +kernel
theorem dX13_often_2 : decode cX13_often 2 = .ok (.putfield 1, 3) := by decide +kernel
theorem dX13_often_5 : decode cX13_often 5 = .ok (.iload_n 1, 1) := by decide +kernel
theorem dX13_often_6 : decode cX13_often 6 = .ok (.invokestatic 288, 3) := by decide +kernel
theorem dX13_often_9 : decode cX13_often 9 = .ok (.ifCond .eq 20, 3) := by decide +kernel
theorem dX13_often_12 : decode cX13_often 12 = .ok (.aload_n 0, 1) := by decide +kernel
theorem dX13_often_13 : decode cX13_often 13 = .ok (.iload_n 2, 1) := by decide +kernel
theorem dX13_often_14 : decode cX13_often 14 = .ok (.invokevirtual 298, 3) := by decide +kernel
theorem dX13_often_17 : decode cX13_often 17 = .ok (.ifCond .eq 12, 3) := by decide +kernel
theorem dX13_often_20 : decode cX13_often 20 = .ok (.iload_n 3, 1) := by decide +kernel
theorem dX13_often_21 : decode cX13_often 21 = .ok (.iconst 0, 1) := by decide +kernel
theorem dX13_often_22 : decode cX13_often 22 = .ok (.iconst 4, 1) := by decide +kernel
theorem dX13_often_23 : decode cX13_often 23 = .ok (.invokestatic 169, 3) := by decide +kernel
theorem dX13_often_26 : decode cX13_often 26 = .ok (.ifCond .ne 5, 3) := by decide +kernel
theorem dX13_often_29 : decode cX13_often 29 = .ok (.iconst (-1), 1) := by decide +kernel
theorem dX13_often_30 : decode cX13_often 30 = .ok (.ireturn, 1) := by decide +kernel
theorem dX13_often_31 : decode cX13_often 31 = .ok (.aload_n 0, 1) := by decide +kernel
theorem dX13_often_32 : decode cX13_often 32 = .ok (.iload_n 2, 1) := by decide +kernel
theorem dX13_often_33 : decode cX13_often 33 = .ok (.invokevirtual 301, 3) := by decide +kernel
theorem dX13_often_36 : decode cX13_often 36 = .ok (.aload_n 0, 1) := by decide +kernel
theorem dX13_often_37 : decode cX13_often 37 = .ok (.aload_n 0, 1) := by decide +kernel
theorem dX13_often_38 : decode cX13_often 38 = .ok (.getfield 72, 3) := by decide +kernel
theorem dX13_often_41 : decode cX13_often 41 = .ok (.iload_n 1, 1) := by decide +kernel
theorem dX13_often_42 : decode cX13_often 42 = .ok (.iaload, 1) := by decide +kernel
theorem dX13_often_43 : decode cX13_often 43 = .ok (.iload_n 2, 1) := by decide +kernel
theorem dX13_often_44 : decode cX13_often 44 = .ok (.iload_n 3, 1) := by decide +kernel
theorem dX13_often_45 : decode cX13_often 45 = .ok (.invokevirtual 459, 3) := by decide +kernel
theorem dX13_often_48 : decode cX13_often 48 = .ok (.ireturn, 1) := by decide +kernel
noncomputable def f_X13_often_29   (σ : jM) : Option (Int32 × jM) :=
  some ((-1), σ)
noncomputable def f_X13_often (a1 : Int32) (a2 : Int32) (a3 : Int32) (σ : jM) : Option (Int32 × jM) :=
  bd (f_X13_isSignNumber a1 (wI σ 324 0 0)) (fun r2 σ3 => (if r2 = 0 then f_X13_often_29   σ3 else bd (f_X13_isKnown a2 σ3) (fun r6 σ7 => (if r6 = 0 then f_X13_often_29   σ7 else bd (f_X13_within a3 0 4 σ7) (fun r10 σ11 => (if r10 = 0 then f_X13_often_29   σ11 else bd (f_X13_findStands a2 σ11) (fun _ σ15 => gd (inb a1 40) (bd (f_X13_oftenOf (rI σ15 343 (Int32.toNatClampNeg a1)) a2 a3 σ15) (fun r18 σ19 => some (r18, σ19))))))))))
set_option maxRecDepth 20000 in
set_option maxHeartbeats 4000000 in
theorem t_X13_often_29   (σ : jM) (r : Int32 × jM)  (h : f_X13_often_29   σ = some r) : J mi_X13_often 4 0 0 (jqI r) 29 [] [] (ms σ) := by
  unfold f_X13_often_29 at h
  refine J_iconst (v := (-1)) dX13_often_29 (by decide) ?_
  exact J_ret (v := some (.int (-1))) rfl ⟨dX13_often_30, Or.inl rfl⟩ (jqI_mk h)
set_option maxRecDepth 20000 in
set_option maxHeartbeats 4000000 in
theorem t_X13_often {a1 : Int32} {a2 : Int32} {a3 : Int32} {σ : jM} {r : Int32 × jM}  (h : f_X13_often a1 a2 a3 σ = some r) : J mi_X13_often 4 0 0 (jqI r) 0 [(0, .ref 324), (1, .int a1), (2, .int a2), (3, .int a3)] [] (ms σ) := by
  unfold f_X13_often at h
  refine J_aload_n 0 dX13_often_0 rfl ?_
  refine J_iconst (v := 0) dX13_often_1 (by decide) ?_
  refine M_putI pf_X13_1_12 dX13_often_2 k_324 n_324 ⟨rfl, rfl⟩ ?_
  refine J_iload_n 1 dX13_often_5 rfl ?_
  obtain ⟨r2, σ3, h4, h⟩ := bd_inv h
  refine M_callSI (d' := 1) (As := [.int a1]) (st := []) cs_X13_288 dX13_often_6 rfl (Nat.le_of_ble_eq_true rfl) (Nat.le_of_ble_eq_true rfl) (by decide) rfl rfl (t_X13_isSignNumber  h4) ?_
  refine J_if_eq (tgt := 29) dX13_often_9 (by decide) (fun c5 => ?_) (fun c5 => ?_)
  · have h := (if_pos c5).symm.trans h
    refine J_pick [] rfl ?_
    exact t_X13_often_29   _ _  h
  · have h := (if_neg c5).symm.trans h
    refine J_aload_n 0 dX13_often_12 rfl ?_
    refine J_iload_n 2 dX13_often_13 rfl ?_
    obtain ⟨r6, σ7, h8, h⟩ := bd_inv h
    refine M_callVI (d' := 1) (k := 324) (As := [.int a2]) (st := []) cv_X13_298 dX13_often_14 rfl (by decide) rfl (Nat.le_of_ble_eq_true rfl) (Nat.le_of_ble_eq_true rfl) (by decide) n_324 k_324 rfl rfl (t_X13_isKnown  h8) ?_
    refine J_if_eq (tgt := 29) dX13_often_17 (by decide) (fun c9 => ?_) (fun c9 => ?_)
    · have h := (if_pos c9).symm.trans h
      refine J_pick [] rfl ?_
      exact t_X13_often_29   _ _  h
    · have h := (if_neg c9).symm.trans h
      refine J_iload_n 3 dX13_often_20 rfl ?_
      refine J_iconst (v := 0) dX13_often_21 (by decide) ?_
      refine J_iconst (v := 4) dX13_often_22 (by decide) ?_
      obtain ⟨r10, σ11, h12, h⟩ := bd_inv h
      refine M_callSI (d' := 1) (As := [.int a3, .int 0, .int 4]) (st := []) cs_X13_169 dX13_often_23 rfl (Nat.le_of_ble_eq_true rfl) (Nat.le_of_ble_eq_true rfl) (by decide) rfl rfl (t_X13_within  h12) ?_
      refine J_if_ne (tgt := 31) dX13_often_26 (by decide) (fun c13 => ?_) (fun c13 => ?_)
      · have h := (if_neg c13).symm.trans h
        refine J_aload_n 0 dX13_often_31 rfl ?_
        refine J_iload_n 2 dX13_often_32 rfl ?_
        obtain ⟨_, σ15, h16, h⟩ := bd_inv h
        refine M_callVV (d' := 2) (k := 324) (As := [.int a2]) (st := []) cv_X13_301 dX13_often_33 rfl (by decide) rfl (Nat.le_of_ble_eq_true rfl) (Nat.le_of_ble_eq_true rfl) (by decide) n_324 k_324 rfl rfl (t_X13_findStands  h16) ?_
        refine J_aload_n 0 dX13_often_36 rfl ?_
        refine J_aload_n 0 dX13_often_37 rfl ?_
        refine M_getR gf_X13_72_12 dX13_often_38 (g_324_31 _) k_324 n_324 ?_
        refine J_iload_n 1 dX13_often_41 rfl ?_
        obtain ⟨g17, h⟩ := gd_inv h
        refine M_iald dX13_often_42 a_343 n_343 g17 ?_
        refine J_iload_n 2 dX13_often_43 rfl ?_
        refine J_iload_n 3 dX13_often_44 rfl ?_
        obtain ⟨r18, σ19, h20, h⟩ := bd_inv h
        refine M_callVI (d' := 3) (k := 324) (As := [.int (rI σ15 343 (Int32.toNatClampNeg a1)), .int a2, .int a3]) (st := []) cv_X13_459 dX13_often_45 rfl (by decide) rfl (Nat.le_of_ble_eq_true rfl) (Nat.le_of_ble_eq_true rfl) (by decide) n_324 k_324 rfl rfl (t_X13_oftenOf  h20) ?_
        exact J_ret (v := some (.int r18)) rfl ⟨dX13_often_48, Or.inl rfl⟩ (jqI_mk h)
      · have h := (if_pos c13).symm.trans h
        refine J_pick [] rfl ?_
        exact t_X13_often_29   _ _  h
theorem dX13_rank_0 : decode cX13_rank 0 = .ok (.aload_n 0, 1) := by decide +kernel
theorem dX13_rank_1 : decode cX13_rank 1 = .ok (.iconst 0, 1) := by decide +kernel
theorem dX13_rank_2 : decode cX13_rank 2 = .ok (.putfield 1, 3) := by decide +kernel
theorem dX13_rank_5 : decode cX13_rank 5 = .ok (.aload_n 0, 1) := by decide +kernel
theorem dX13_rank_6 : decode cX13_rank 6 = .ok (.iload_n 1, 1) := by decide +kernel
theorem dX13_rank_7 : decode cX13_rank 7 = .ok (.invokevirtual 298, 3) := by decide +kernel
theorem dX13_rank_10 : decode cX13_rank 10 = .ok (.ifCond .eq 7, 3) := by decide +kernel
theorem dX13_rank_13 : decode cX13_rank 13 = .ok (.iload_n 2, 1) := by decide +kernel
theorem dX13_rank_14 : decode cX13_rank 14 = .ok (.ifCond .ge 5, 3) := by decide +kernel
theorem dX13_rank_17 : decode cX13_rank 17 = .ok (.iconst (-1), 1) := by decide +kernel
theorem dX13_rank_18 : decode cX13_rank 18 = .ok (.ireturn, 1) := by decide +kernel
theorem dX13_rank_19 : decode cX13_rank 19 = .ok (.aload_n 0, 1) := by decide +kernel
theorem dX13_rank_20 : decode cX13_rank 20 = .ok (.iload_n 1, 1) := by decide +kernel
theorem dX13_rank_21 : decode cX13_rank 21 = .ok (.invokevirtual 301, 3) := by decide +kernel
theorem dX13_rank_24 : decode cX13_rank 24 = .ok (.iconst 0, 1) := by decide +kernel
theorem dX13_rank_25 : decode cX13_rank 25 = .ok (.istore_n 3, 1) := by decide +kernel
theorem dX13_rank_26 : decode cX13_rank 26 = .ok (.iload_n 3, 1) := by decide +kernel
theorem dX13_rank_27 : decode cX13_rank 27 = .ok (.bipush 40, 2) := by decide +kernel
theorem dX13_rank_29 : decode cX13_rank 29 = .ok (.if_icmp .ge 123, 3) := by decide +kernel
theorem dX13_rank_32 : decode cX13_rank 32 = .ok (.aload_n 0, 1) := by decide +kernel
theorem dX13_rank_33 : decode cX13_rank 33 = .ok (.iload_n 3, 1) := by decide +kernel
theorem dX13_rank_34 : decode cX13_rank 34 = .ok (.iload_n 1, 1) := by decide +kernel
theorem dX13_rank_35 : decode cX13_rank 35 = .ok (.iconst 4, 1) := by decide +kernel
theorem dX13_rank_36 : decode cX13_rank 36 = .ok (.invokevirtual 459, 3) := by decide +kernel
theorem dX13_rank_39 : decode cX13_rank 39 = .ok (.istore 4, 2) := by decide +kernel
theorem dX13_rank_41 : decode cX13_rank 41 = .ok (.iload 4, 2) := by decide +kernel
theorem dX13_rank_43 : decode cX13_rank 43 = .ok (.ifCond .ne 6, 3) := by decide +kernel
theorem dX13_rank_46 : decode cX13_rank 46 = .ok (.goto 100, 3) := by decide +kernel
theorem dX13_rank_49 : decode cX13_rank 49 = .ok (.aload_n 0, 1) := by decide +kernel
theorem dX13_rank_50 : decode cX13_rank 50 = .ok (.iload_n 3, 1) := by decide +kernel
theorem dX13_rank_51 : decode cX13_rank 51 = .ok (.iload_n 1, 1) := by decide +kernel
theorem dX13_rank_52 : decode cX13_rank 52 = .ok (.iconst 0, 1) := by decide +kernel
theorem dX13_rank_53 : decode cX13_rank 53 = .ok (.invokevirtual 459, 3) := by decide +kernel
theorem dX13_rank_56 : decode cX13_rank 56 = .ok (.istore 5, 2) := by decide +kernel
theorem dX13_rank_58 : decode cX13_rank 58 = .ok (.iconst 0, 1) := by decide +kernel
theorem dX13_rank_59 : decode cX13_rank 59 = .ok (.istore 6, 2) := by decide +kernel
theorem dX13_rank_61 : decode cX13_rank 61 = .ok (.iconst 0, 1) := by decide +kernel
theorem dX13_rank_62 : decode cX13_rank 62 = .ok (.istore 7, 2) := by decide +kernel
theorem dX13_rank_64 : decode cX13_rank 64 = .ok (.iload 7, 2) := by decide +kernel
theorem dX13_rank_66 : decode cX13_rank 66 = .ok (.bipush 40, 2) := by decide +kernel
theorem dX13_rank_68 : decode cX13_rank 68 = .ok (.if_icmp .ge 70, 3) := by decide +kernel
theorem dX13_rank_71 : decode cX13_rank 71 = .ok (.iload 5, 2) := by decide +kernel
theorem dX13_rank_73 : decode cX13_rank 73 = .ok (.aload_n 0, 1) := by decide +kernel
theorem dX13_rank_74 : decode cX13_rank 74 = .ok (.iload 7, 2) := by decide +kernel
theorem dX13_rank_76 : decode cX13_rank 76 = .ok (.iload_n 1, 1) := by decide +kernel
theorem dX13_rank_77 : decode cX13_rank 77 = .ok (.iconst 4, 1) := by decide +kernel
theorem dX13_rank_78 : decode cX13_rank 78 = .ok (.invokevirtual 459, 3) := by decide +kernel
theorem dX13_rank_81 : decode cX13_rank 81 = .ok (.imul, 1) := by decide +kernel
theorem dX13_rank_82 : decode cX13_rank 82 = .ok (.aload_n 0, 1) := by decide +kernel
theorem dX13_rank_83 : decode cX13_rank 83 = .ok (.iload 7, 2) := by decide +kernel
theorem dX13_rank_85 : decode cX13_rank 85 = .ok (.iload_n 1, 1) := by decide +kernel
theorem dX13_rank_86 : decode cX13_rank 86 = .ok (.iconst 0, 1) := by decide +kernel
theorem dX13_rank_87 : decode cX13_rank 87 = .ok (.invokevirtual 459, 3) := by decide +kernel
theorem dX13_rank_90 : decode cX13_rank 90 = .ok (.iload 4, 2) := by decide +kernel
theorem dX13_rank_92 : decode cX13_rank 92 = .ok (.imul, 1) := by decide +kernel
theorem dX13_rank_93 : decode cX13_rank 93 = .ok (.isub, 1) := by decide +kernel
theorem dX13_rank_94 : decode cX13_rank 94 = .ok (.istore 8, 2) := by decide +kernel
theorem dX13_rank_96 : decode cX13_rank 96 = .ok (.iload 7, 2) := by decide +kernel
theorem dX13_rank_98 : decode cX13_rank 98 = .ok (.iload_n 3, 1) := by decide +kernel
theorem dX13_rank_99 : decode cX13_rank 99 = .ok (.if_icmp .eq 33, 3) := by decide +kernel
theorem dX13_rank_102 : decode cX13_rank 102 = .ok (.aload_n 0, 1) := by decide +kernel
theorem dX13_rank_103 : decode cX13_rank 103 = .ok (.iload 7, 2) := by decide +kernel
theorem dX13_rank_105 : decode cX13_rank 105 = .ok (.iload_n 1, 1) := by decide +kernel
theorem dX13_rank_106 : decode cX13_rank 106 = .ok (.iconst 4, 1) := by decide +kernel
theorem dX13_rank_107 : decode cX13_rank 107 = .ok (.invokevirtual 459, 3) := by decide +kernel
theorem dX13_rank_110 : decode cX13_rank 110 = .ok (.ifCond .le 22, 3) := by decide +kernel
theorem dX13_rank_113 : decode cX13_rank 113 = .ok (.iload 8, 2) := by decide +kernel
theorem dX13_rank_115 : decode cX13_rank 115 = .ok (.ifCond .lt 14, 3) := by decide +kernel
theorem dX13_rank_118 : decode cX13_rank 118 = .ok (.iload 8, 2) := by decide +kernel
theorem dX13_rank_120 : decode cX13_rank 120 = .ok (.ifCond .ne 12, 3) := by decide +kernel
theorem dX13_rank_123 : decode cX13_rank 123 = .ok (.iload 7, 2) := by decide +kernel
theorem dX13_rank_125 : decode cX13_rank 125 = .ok (.iload_n 3, 1) := by decide +kernel
theorem dX13_rank_126 : decode cX13_rank 126 = .ok (.if_icmp .ge 6, 3) := by decide +kernel
theorem dX13_rank_129 : decode cX13_rank 129 = .ok (.iinc 6 1, 3) := by decide +kernel
theorem dX13_rank_132 : decode cX13_rank 132 = .ok (.iinc 7 1, 3) := by decide +kernel
theorem dX13_rank_135 : decode cX13_rank 135 = .ok (.goto (-71), 3) := by decide +kernel
theorem dX13_rank_138 : decode cX13_rank 138 = .ok (.iload 6, 2) := by decide +kernel
theorem dX13_rank_140 : decode cX13_rank 140 = .ok (.iload_n 2, 1) := by decide +kernel
theorem dX13_rank_141 : decode cX13_rank 141 = .ok (.if_icmp .ne 5, 3) := by decide +kernel
theorem dX13_rank_144 : decode cX13_rank 144 = .ok (.iload_n 3, 1) := by decide +kernel
theorem dX13_rank_145 : decode cX13_rank 145 = .ok (.ireturn, 1) := by decide +kernel
theorem dX13_rank_146 : decode cX13_rank 146 = .ok (.iinc 3 1, 3) := by decide +kernel
theorem dX13_rank_149 : decode cX13_rank 149 = .ok (.goto (-123), 3) := by decide +kernel
theorem dX13_rank_152 : decode cX13_rank 152 = .ok (.iconst (-1), 1) := by decide +kernel
theorem dX13_rank_153 : decode cX13_rank 153 = .ok (.ireturn, 1) := by decide +kernel
noncomputable def f_X13_rank_17   (σ : jM) : Option (Int32 × jM) :=
  some ((-1), σ)
noncomputable def f_X13_rank_146 (rec26 : Int32 → Int32 → Int32 → jM → Option (Int32 × jM)) (l1 : Int32) (l2 : Int32) (l3 : Int32) (σ : jM) : Option (Int32 × jM) :=
  rec26 l1 l2 (l3 + 1) σ
noncomputable def f_X13_rank_132 (rec26 : Int32 → Int32 → Int32 → jM → Option (Int32 × jM)) (rec64 : Int32 → Int32 → Int32 → Int32 → Int32 → Int32 → Int32 → jM → Option (Int32 × jM)) (l1 : Int32) (l2 : Int32) (l3 : Int32) (l4 : Int32) (l5 : Int32) (l6 : Int32) (l7 : Int32) (σ : jM) : Option (Int32 × jM) :=
  rec64 l1 l2 l3 l4 l5 l6 (l7 + 1) σ
noncomputable def f_X13_rank_129 (rec26 : Int32 → Int32 → Int32 → jM → Option (Int32 × jM)) (rec64 : Int32 → Int32 → Int32 → Int32 → Int32 → Int32 → Int32 → jM → Option (Int32 × jM)) (l1 : Int32) (l2 : Int32) (l3 : Int32) (l4 : Int32) (l5 : Int32) (l6 : Int32) (l7 : Int32) (σ : jM) : Option (Int32 × jM) :=
  f_X13_rank_132 rec26 rec64 l1 l2 l3 l4 l5 (l6 + 1) l7 σ
noncomputable def s_X13_rank_64 (rec26 : Int32 → Int32 → Int32 → jM → Option (Int32 × jM)) (rec64 : Int32 → Int32 → Int32 → Int32 → Int32 → Int32 → Int32 → jM → Option (Int32 × jM)) (l1 : Int32) (l2 : Int32) (l3 : Int32) (l4 : Int32) (l5 : Int32) (l6 : Int32) (l7 : Int32) (σ : jM) : Option (Int32 × jM) :=
  (if 40 ≤ l7 then (if l6 = l2 then some (l3, σ) else f_X13_rank_146 rec26 l1 l2 l3 σ) else bd (f_X13_oftenOf l7 l1 4 σ) (fun r3 σ4 => bd (f_X13_oftenOf l7 l1 0 σ4) (fun r6 σ7 => (if l7 = l3 then f_X13_rank_132 rec26 rec64 l1 l2 l3 l4 l5 l6 l7 σ7 else bd (f_X13_oftenOf l7 l1 4 σ7) (fun r10 σ11 => (if r10 ≤ 0 then f_X13_rank_132 rec26 rec64 l1 l2 l3 l4 l5 l6 l7 σ11 else (if ((l5 * r3) - (r6 * l4)) < 0 then f_X13_rank_129 rec26 rec64 l1 l2 l3 l4 l5 l6 l7 σ11 else (if ((l5 * r3) - (r6 * l4)) = 0 then (if l3 ≤ l7 then f_X13_rank_132 rec26 rec64 l1 l2 l3 l4 l5 l6 l7 σ11 else f_X13_rank_129 rec26 rec64 l1 l2 l3 l4 l5 l6 l7 σ11) else f_X13_rank_132 rec26 rec64 l1 l2 l3 l4 l5 l6 l7 σ11))))))))
noncomputable def f_X13_rank_64 (rec26 : Int32 → Int32 → Int32 → jM → Option (Int32 × jM)) (n : Nat) : Int32 → Int32 → Int32 → Int32 → Int32 → Int32 → Int32 → jM → Option (Int32 × jM) := Nat.rec (motive := fun _ => Int32 → Int32 → Int32 → Int32 → Int32 → Int32 → Int32 → jM → Option (Int32 × jM)) (fun _ _ _ _ _ _ _ _ => none) (fun _ q => s_X13_rank_64 rec26 q) n
noncomputable def s_X13_rank_26  (rec26 : Int32 → Int32 → Int32 → jM → Option (Int32 × jM)) (l1 : Int32) (l2 : Int32) (l3 : Int32) (σ : jM) : Option (Int32 × jM) :=
  (if 40 ≤ l3 then some ((-1), σ) else bd (f_X13_oftenOf l3 l1 4 σ) (fun r34 σ35 => (if r34 = 0 then f_X13_rank_146 rec26 l1 l2 l3 σ35 else bd (f_X13_oftenOf l3 l1 0 σ35) (fun r38 σ39 => f_X13_rank_64 rec26 Fu l1 l2 l3 r34 r38 0 0 σ39))))
noncomputable def f_X13_rank_26  (n : Nat) : Int32 → Int32 → Int32 → jM → Option (Int32 × jM) := Nat.rec (motive := fun _ => Int32 → Int32 → Int32 → jM → Option (Int32 × jM)) (fun _ _ _ _ => none) (fun _ q => s_X13_rank_26  q) n
noncomputable def f_X13_rank (a1 : Int32) (a2 : Int32) (σ : jM) : Option (Int32 × jM) :=
  bd (f_X13_isKnown a1 (wI σ 324 0 0)) (fun r49 σ50 => (if r49 = 0 then f_X13_rank_17   σ50 else (if 0 ≤ a2 then bd (f_X13_findStands a1 σ50) (fun _ σ55 => f_X13_rank_26  Fu a1 a2 0 σ55) else f_X13_rank_17   σ50)))
set_option maxRecDepth 20000 in
set_option maxHeartbeats 4000000 in
theorem t_X13_rank_17   (σ : jM) (r : Int32 × jM)  (h : f_X13_rank_17   σ = some r) : J mi_X13_rank 4 0 0 (jqI r) 17 [] [] (ms σ) := by
  unfold f_X13_rank_17 at h
  refine J_iconst (v := (-1)) dX13_rank_17 (by decide) ?_
  exact J_ret (v := some (.int (-1))) rfl ⟨dX13_rank_18, Or.inl rfl⟩ (jqI_mk h)
set_option maxRecDepth 20000 in
set_option maxHeartbeats 4000000 in
theorem t_X13_rank_146 {rec26 : Int32 → Int32 → Int32 → jM → Option (Int32 × jM)} (hrec26 : ∀ (l1 : Int32) (l2 : Int32) (l3 : Int32) (σ : jM) (r : Int32 × jM), rec26 l1 l2 l3 σ = some r → J mi_X13_rank 4 0 0 (jqI r) 26 [(0, .ref 324), (1, .int l1), (2, .int l2), (3, .int l3)] [] (ms σ)) (l1 : Int32) (l2 : Int32) (l3 : Int32) (σ : jM) (r : Int32 × jM)  (h : f_X13_rank_146 rec26 l1 l2 l3 σ = some r) : J mi_X13_rank 4 0 0 (jqI r) 146 [(0, .ref 324), (1, .int l1), (2, .int l2), (3, .int l3)] [] (ms σ) := by
  unfold f_X13_rank_146 at h
  refine J_iinc (v := (l3 + 1)) (ls' := [(3, .int (l3 + 1)), (0, .ref 324), (1, .int l1), (2, .int l2)]) 3 dX13_rank_146 rfl rfl (by decide) rfl ?_
  refine J_goto (tgt := 26) dX13_rank_149 (by decide) ?_
  refine J_pick [1, 2, 3, 0] rfl ?_
  exact hrec26 _ _ _ _ _  h
set_option maxRecDepth 20000 in
set_option maxHeartbeats 4000000 in
theorem t_X13_rank_132 {rec26 : Int32 → Int32 → Int32 → jM → Option (Int32 × jM)} (hrec26 : ∀ (l1 : Int32) (l2 : Int32) (l3 : Int32) (σ : jM) (r : Int32 × jM), rec26 l1 l2 l3 σ = some r → J mi_X13_rank 4 0 0 (jqI r) 26 [(0, .ref 324), (1, .int l1), (2, .int l2), (3, .int l3)] [] (ms σ)) {rec64 : Int32 → Int32 → Int32 → Int32 → Int32 → Int32 → Int32 → jM → Option (Int32 × jM)} (hrec64 : ∀ (l1 : Int32) (l2 : Int32) (l3 : Int32) (l4 : Int32) (l5 : Int32) (l6 : Int32) (l7 : Int32) (σ : jM) (r : Int32 × jM), rec64 l1 l2 l3 l4 l5 l6 l7 σ = some r → J mi_X13_rank 4 0 0 (jqI r) 64 [(0, .ref 324), (1, .int l1), (2, .int l2), (3, .int l3), (4, .int l4), (5, .int l5), (6, .int l6), (7, .int l7)] [] (ms σ)) (l1 : Int32) (l2 : Int32) (l3 : Int32) (l4 : Int32) (l5 : Int32) (l6 : Int32) (l7 : Int32) (σ : jM) (r : Int32 × jM)  (h : f_X13_rank_132 rec26 rec64 l1 l2 l3 l4 l5 l6 l7 σ = some r) : J mi_X13_rank 4 0 0 (jqI r) 132 [(0, .ref 324), (1, .int l1), (2, .int l2), (3, .int l3), (4, .int l4), (5, .int l5), (6, .int l6), (7, .int l7)] [] (ms σ) := by
  unfold f_X13_rank_132 at h
  refine J_iinc (v := (l7 + 1)) (ls' := [(7, .int (l7 + 1)), (0, .ref 324), (1, .int l1), (2, .int l2), (3, .int l3), (4, .int l4), (5, .int l5), (6, .int l6)]) 7 dX13_rank_132 rfl rfl (by decide) rfl ?_
  refine J_goto (tgt := 64) dX13_rank_135 (by decide) ?_
  refine J_pick [1, 2, 3, 4, 5, 6, 7, 0] rfl ?_
  exact hrec64 _ _ _ _ _ _ _ _ _  h
set_option maxRecDepth 20000 in
set_option maxHeartbeats 4000000 in
theorem t_X13_rank_129 {rec26 : Int32 → Int32 → Int32 → jM → Option (Int32 × jM)} (hrec26 : ∀ (l1 : Int32) (l2 : Int32) (l3 : Int32) (σ : jM) (r : Int32 × jM), rec26 l1 l2 l3 σ = some r → J mi_X13_rank 4 0 0 (jqI r) 26 [(0, .ref 324), (1, .int l1), (2, .int l2), (3, .int l3)] [] (ms σ)) {rec64 : Int32 → Int32 → Int32 → Int32 → Int32 → Int32 → Int32 → jM → Option (Int32 × jM)} (hrec64 : ∀ (l1 : Int32) (l2 : Int32) (l3 : Int32) (l4 : Int32) (l5 : Int32) (l6 : Int32) (l7 : Int32) (σ : jM) (r : Int32 × jM), rec64 l1 l2 l3 l4 l5 l6 l7 σ = some r → J mi_X13_rank 4 0 0 (jqI r) 64 [(0, .ref 324), (1, .int l1), (2, .int l2), (3, .int l3), (4, .int l4), (5, .int l5), (6, .int l6), (7, .int l7)] [] (ms σ)) (l1 : Int32) (l2 : Int32) (l3 : Int32) (l4 : Int32) (l5 : Int32) (l6 : Int32) (l7 : Int32) (σ : jM) (r : Int32 × jM)  (h : f_X13_rank_129 rec26 rec64 l1 l2 l3 l4 l5 l6 l7 σ = some r) : J mi_X13_rank 4 0 0 (jqI r) 129 [(0, .ref 324), (1, .int l1), (2, .int l2), (3, .int l3), (4, .int l4), (5, .int l5), (6, .int l6), (7, .int l7)] [] (ms σ) := by
  unfold f_X13_rank_129 at h
  refine J_iinc (v := (l6 + 1)) (ls' := [(6, .int (l6 + 1)), (0, .ref 324), (1, .int l1), (2, .int l2), (3, .int l3), (4, .int l4), (5, .int l5), (7, .int l7)]) 6 dX13_rank_129 rfl rfl (by decide) rfl ?_
  refine J_pick [1, 2, 3, 4, 5, 6, 0, 7] rfl ?_
  exact t_X13_rank_132 hrec26 hrec64 _ _ _ _ _ _ _ _ _  h
set_option maxRecDepth 20000 in
set_option maxHeartbeats 4000000 in
theorem t_X13_rank_64 {rec26 : Int32 → Int32 → Int32 → jM → Option (Int32 × jM)} (hrec26 : ∀ (l1 : Int32) (l2 : Int32) (l3 : Int32) (σ : jM) (r : Int32 × jM), rec26 l1 l2 l3 σ = some r → J mi_X13_rank 4 0 0 (jqI r) 26 [(0, .ref 324), (1, .int l1), (2, .int l2), (3, .int l3)] [] (ms σ)) : ∀ (n : Nat) (l1 : Int32) (l2 : Int32) (l3 : Int32) (l4 : Int32) (l5 : Int32) (l6 : Int32) (l7 : Int32) (σ : jM) (r : Int32 × jM), f_X13_rank_64 rec26 n l1 l2 l3 l4 l5 l6 l7 σ = some r → J mi_X13_rank 4 0 0 (jqI r) 64 [(0, .ref 324), (1, .int l1), (2, .int l2), (3, .int l3), (4, .int l4), (5, .int l5), (6, .int l6), (7, .int l7)] [] (ms σ) := by
  intro n
  induction n with
  | zero =>
    intro l1 l2 l3 l4 l5 l6 l7 σ r  h
    have h : (none : Option (Int32 × jM)) = some r := h
    cases h
  | succ n ih =>
    intro l1 l2 l3 l4 l5 l6 l7 σ r  h
    have h : s_X13_rank_64 rec26 (f_X13_rank_64 rec26 n) l1 l2 l3 l4 l5 l6 l7 σ = some r := h
    unfold s_X13_rank_64 at h
    refine J_iload 7 dX13_rank_64 rfl ?_
    refine J_bipush (v := 40) dX13_rank_66 (by decide) ?_
    refine J_icmp_ge (tgt := 138) dX13_rank_68 (by decide) (fun c17 => ?_) (fun c17 => ?_)
    · have h := (if_pos c17).symm.trans h
      refine J_iload 6 dX13_rank_138 rfl ?_
      refine J_iload_n 2 dX13_rank_140 rfl ?_
      refine J_icmp_ne (tgt := 146) dX13_rank_141 (by decide) (fun c18 => ?_) (fun c18 => ?_)
      · have h := (if_neg c18).symm.trans h
        refine J_pick [0, 1, 2, 3] rfl ?_
        exact t_X13_rank_146 hrec26 _ _ _ _ _  h
      · have h := (if_pos c18).symm.trans h
        refine J_iload_n 3 dX13_rank_144 rfl ?_
        exact J_ret (v := some (.int l3)) rfl ⟨dX13_rank_145, Or.inl rfl⟩ (jqI_mk h)
    · have h := (if_neg c17).symm.trans h
      refine J_iload 5 dX13_rank_71 rfl ?_
      refine J_aload_n 0 dX13_rank_73 rfl ?_
      refine J_iload 7 dX13_rank_74 rfl ?_
      refine J_iload_n 1 dX13_rank_76 rfl ?_
      refine J_iconst (v := 4) dX13_rank_77 (by decide) ?_
      obtain ⟨r19, σ20, h21, h⟩ := bd_inv h
      refine M_callVI (d' := 3) (k := 324) (As := [.int l7, .int l1, .int 4]) (st := [.int l5]) cv_X13_459 dX13_rank_78 rfl (by decide) rfl (Nat.le_of_ble_eq_true rfl) (Nat.le_of_ble_eq_true rfl) (by decide) n_324 k_324 rfl rfl (t_X13_oftenOf  h21) ?_
      refine J_imul dX13_rank_81 ?_
      refine J_aload_n 0 dX13_rank_82 rfl ?_
      refine J_iload 7 dX13_rank_83 rfl ?_
      refine J_iload_n 1 dX13_rank_85 rfl ?_
      refine J_iconst (v := 0) dX13_rank_86 (by decide) ?_
      obtain ⟨r22, σ23, h24, h⟩ := bd_inv h
      refine M_callVI (d' := 3) (k := 324) (As := [.int l7, .int l1, .int 0]) (st := [.int (l5 * r19)]) cv_X13_459 dX13_rank_87 rfl (by decide) rfl (Nat.le_of_ble_eq_true rfl) (Nat.le_of_ble_eq_true rfl) (by decide) n_324 k_324 rfl rfl (t_X13_oftenOf  h24) ?_
      refine J_iload 4 dX13_rank_90 rfl ?_
      refine J_imul dX13_rank_92 ?_
      refine J_isub dX13_rank_93 ?_
      refine J_istore (i := 8) (ls' := [(8, .int ((l5 * r19) - (r22 * l4))), (0, .ref 324), (1, .int l1), (2, .int l2), (3, .int l3), (4, .int l4), (5, .int l5), (6, .int l6), (7, .int l7)]) dX13_rank_94 (by decide) rfl ?_
      refine J_iload 8 dX13_rank_96 rfl ?_
      refine J_iload_n 4 dX13_rank_98 rfl ?_
      refine J_icmp_eq (tgt := 132) dX13_rank_99 (by decide) (fun c25 => ?_) (fun c25 => ?_)
      · have h := (if_pos c25).symm.trans h
        refine J_pick [1, 2, 3, 4, 5, 6, 7, 8] rfl ?_
        exact t_X13_rank_132 hrec26 ih _ _ _ _ _ _ _ _ _  h
      · have h := (if_neg c25).symm.trans h
        refine J_aload_n 1 dX13_rank_102 rfl ?_
        refine J_iload 8 dX13_rank_103 rfl ?_
        refine J_iload_n 2 dX13_rank_105 rfl ?_
        refine J_iconst (v := 4) dX13_rank_106 (by decide) ?_
        obtain ⟨r26, σ27, h28, h⟩ := bd_inv h
        refine M_callVI (d' := 3) (k := 324) (As := [.int l7, .int l1, .int 4]) (st := []) cv_X13_459 dX13_rank_107 rfl (by decide) rfl (Nat.le_of_ble_eq_true rfl) (Nat.le_of_ble_eq_true rfl) (by decide) n_324 k_324 rfl rfl (t_X13_oftenOf  h28) ?_
        refine J_if_le (tgt := 132) dX13_rank_110 (by decide) (fun c29 => ?_) (fun c29 => ?_)
        · have h := (if_pos c29).symm.trans h
          refine J_pick [1, 2, 3, 4, 5, 6, 7, 8] rfl ?_
          exact t_X13_rank_132 hrec26 ih _ _ _ _ _ _ _ _ _  h
        · have h := (if_neg c29).symm.trans h
          refine J_iload 0 dX13_rank_113 rfl ?_
          refine J_if_lt (tgt := 129) dX13_rank_115 (by decide) (fun c30 => ?_) (fun c30 => ?_)
          · have h := (if_pos c30).symm.trans h
            refine J_pick [1, 2, 3, 4, 5, 6, 7, 8] rfl ?_
            exact t_X13_rank_129 hrec26 ih _ _ _ _ _ _ _ _ _  h
          · have h := (if_neg c30).symm.trans h
            refine J_iload 0 dX13_rank_118 rfl ?_
            refine J_if_ne (tgt := 132) dX13_rank_120 (by decide) (fun c31 => ?_) (fun c31 => ?_)
            · have h := (if_neg c31).symm.trans h
              refine J_pick [1, 2, 3, 4, 5, 6, 7, 8] rfl ?_
              exact t_X13_rank_132 hrec26 ih _ _ _ _ _ _ _ _ _  h
            · have h := (if_pos c31).symm.trans h
              refine J_iload 8 dX13_rank_123 rfl ?_
              refine J_iload_n 4 dX13_rank_125 rfl ?_
              refine J_icmp_ge (tgt := 132) dX13_rank_126 (by decide) (fun c32 => ?_) (fun c32 => ?_)
              · have h := (if_pos c32).symm.trans h
                refine J_pick [1, 2, 3, 4, 5, 6, 7, 8] rfl ?_
                exact t_X13_rank_132 hrec26 ih _ _ _ _ _ _ _ _ _  h
              · have h := (if_neg c32).symm.trans h
                refine J_pick [1, 2, 3, 4, 5, 6, 7, 8] rfl ?_
                exact t_X13_rank_129 hrec26 ih _ _ _ _ _ _ _ _ _  h
set_option maxRecDepth 20000 in
set_option maxHeartbeats 4000000 in
theorem t_X13_rank_26  : ∀ (n : Nat) (l1 : Int32) (l2 : Int32) (l3 : Int32) (σ : jM) (r : Int32 × jM), f_X13_rank_26  n l1 l2 l3 σ = some r → J mi_X13_rank 4 0 0 (jqI r) 26 [(0, .ref 324), (1, .int l1), (2, .int l2), (3, .int l3)] [] (ms σ) := by
  intro n
  induction n with
  | zero =>
    intro l1 l2 l3 σ r  h
    have h : (none : Option (Int32 × jM)) = some r := h
    cases h
  | succ n ih =>
    intro l1 l2 l3 σ r  h
    have h : s_X13_rank_26  (f_X13_rank_26  n) l1 l2 l3 σ = some r := h
    unfold s_X13_rank_26 at h
    refine J_iload_n 3 dX13_rank_26 rfl ?_
    refine J_bipush (v := 40) dX13_rank_27 (by decide) ?_
    refine J_icmp_ge (tgt := 152) dX13_rank_29 (by decide) (fun c41 => ?_) (fun c41 => ?_)
    · have h := (if_pos c41).symm.trans h
      refine J_iconst (v := (-1)) dX13_rank_152 (by decide) ?_
      exact J_ret (v := some (.int (-1))) rfl ⟨dX13_rank_153, Or.inl rfl⟩ (jqI_mk h)
    · have h := (if_neg c41).symm.trans h
      refine J_aload_n 0 dX13_rank_32 rfl ?_
      refine J_iload_n 3 dX13_rank_33 rfl ?_
      refine J_iload_n 1 dX13_rank_34 rfl ?_
      refine J_iconst (v := 4) dX13_rank_35 (by decide) ?_
      obtain ⟨r42, σ43, h44, h⟩ := bd_inv h
      refine M_callVI (d' := 3) (k := 324) (As := [.int l3, .int l1, .int 4]) (st := []) cv_X13_459 dX13_rank_36 rfl (by decide) rfl (Nat.le_of_ble_eq_true rfl) (Nat.le_of_ble_eq_true rfl) (by decide) n_324 k_324 rfl rfl (t_X13_oftenOf  h44) ?_
      refine J_istore (i := 4) (ls' := [(4, .int r42), (0, .ref 324), (1, .int l1), (2, .int l2), (3, .int l3)]) dX13_rank_39 (by decide) rfl ?_
      refine J_iload 0 dX13_rank_41 rfl ?_
      refine J_if_ne (tgt := 49) dX13_rank_43 (by decide) (fun c45 => ?_) (fun c45 => ?_)
      · have h := (if_neg c45).symm.trans h
        refine J_aload_n 1 dX13_rank_49 rfl ?_
        refine J_iload_n 4 dX13_rank_50 rfl ?_
        refine J_iload_n 2 dX13_rank_51 rfl ?_
        refine J_iconst (v := 0) dX13_rank_52 (by decide) ?_
        obtain ⟨r46, σ47, h48, h⟩ := bd_inv h
        refine M_callVI (d' := 3) (k := 324) (As := [.int l3, .int l1, .int 0]) (st := []) cv_X13_459 dX13_rank_53 rfl (by decide) rfl (Nat.le_of_ble_eq_true rfl) (Nat.le_of_ble_eq_true rfl) (by decide) n_324 k_324 rfl rfl (t_X13_oftenOf  h48) ?_
        refine J_istore (i := 5) (ls' := [(5, .int r46), (4, .int r42), (0, .ref 324), (1, .int l1), (2, .int l2), (3, .int l3)]) dX13_rank_56 (by decide) rfl ?_
        refine J_iconst (v := 0) dX13_rank_58 (by decide) ?_
        refine J_istore (i := 6) (ls' := [(6, .int 0), (5, .int r46), (4, .int r42), (0, .ref 324), (1, .int l1), (2, .int l2), (3, .int l3)]) dX13_rank_59 (by decide) rfl ?_
        refine J_iconst (v := 0) dX13_rank_61 (by decide) ?_
        refine J_istore (i := 7) (ls' := [(7, .int 0), (6, .int 0), (5, .int r46), (4, .int r42), (0, .ref 324), (1, .int l1), (2, .int l2), (3, .int l3)]) dX13_rank_62 (by decide) rfl ?_
        refine J_pick [4, 5, 6, 7, 3, 2, 1, 0] rfl ?_
        exact t_X13_rank_64 ih _ _ _ _ _ _ _ _ _ _  h
      · have h := (if_pos c45).symm.trans h
        refine J_goto (tgt := 146) dX13_rank_46 (by decide) ?_
        refine J_pick [1, 2, 3, 4] rfl ?_
        exact t_X13_rank_146 ih _ _ _ _ _  h
set_option maxRecDepth 20000 in
set_option maxHeartbeats 4000000 in
theorem t_X13_rank {a1 : Int32} {a2 : Int32} {σ : jM} {r : Int32 × jM}  (h : f_X13_rank a1 a2 σ = some r) : J mi_X13_rank 4 0 0 (jqI r) 0 [(0, .ref 324), (1, .int a1), (2, .int a2)] [] (ms σ) := by
  unfold f_X13_rank at h
  refine J_aload_n 0 dX13_rank_0 rfl ?_
  refine J_iconst (v := 0) dX13_rank_1 (by decide) ?_
  refine M_putI pf_X13_1_12 dX13_rank_2 k_324 n_324 ⟨rfl, rfl⟩ ?_
  refine J_aload_n 0 dX13_rank_5 rfl ?_
  refine J_iload_n 1 dX13_rank_6 rfl ?_
  obtain ⟨r49, σ50, h51, h⟩ := bd_inv h
  refine M_callVI (d' := 1) (k := 324) (As := [.int a1]) (st := []) cv_X13_298 dX13_rank_7 rfl (by decide) rfl (Nat.le_of_ble_eq_true rfl) (Nat.le_of_ble_eq_true rfl) (by decide) n_324 k_324 rfl rfl (t_X13_isKnown  h51) ?_
  refine J_if_eq (tgt := 17) dX13_rank_10 (by decide) (fun c52 => ?_) (fun c52 => ?_)
  · have h := (if_pos c52).symm.trans h
    refine J_pick [] rfl ?_
    exact t_X13_rank_17   _ _  h
  · have h := (if_neg c52).symm.trans h
    refine J_iload_n 2 dX13_rank_13 rfl ?_
    refine J_if_ge (tgt := 19) dX13_rank_14 (by decide) (fun c53 => ?_) (fun c53 => ?_)
    · have h := (if_pos c53).symm.trans h
      refine J_aload_n 0 dX13_rank_19 rfl ?_
      refine J_iload_n 1 dX13_rank_20 rfl ?_
      obtain ⟨_, σ55, h56, h⟩ := bd_inv h
      refine M_callVV (d' := 2) (k := 324) (As := [.int a1]) (st := []) cv_X13_301 dX13_rank_21 rfl (by decide) rfl (Nat.le_of_ble_eq_true rfl) (Nat.le_of_ble_eq_true rfl) (by decide) n_324 k_324 rfl rfl (t_X13_findStands  h56) ?_
      refine J_iconst (v := 0) dX13_rank_24 (by decide) ?_
      refine J_istore_n (i := 3) (ls' := [(3, .int 0), (0, .ref 324), (1, .int a1), (2, .int a2)]) dX13_rank_25 rfl (by decide) rfl ?_
      refine J_pick [1, 2, 3, 0] rfl ?_
      exact t_X13_rank_26  _ _ _ _ _ _  h
    · have h := (if_neg c53).symm.trans h
      refine J_pick [] rfl ?_
      exact t_X13_rank_17   _ _  h
theorem dX13_count_0 : decode cX13_count 0 = .ok (.aload_n 0, 1) := by decide +kernel
theorem dX13_count_1 : decode cX13_count 1 = .ok (.iconst 0, 1) := by decide +kernel
theorem dX13_count_2 : decode cX13_count 2 = .ok (.putfield 1, 3) := by decide +kernel
theorem dX13_count_5 : decode cX13_count 5 = .ok (.iconst 0, 1) := by decide +kernel
theorem dX13_count_6 : decode cX13_count 6 = .ok (.istore_n 2, 1) := by decide +kernel
theorem dX13_count_7 : decode cX13_count 7 = .ok (.iload_n 1, 1) := by decide +kernel
theorem dX13_count_8 : decode cX13_count 8 = .ok (.tableswitch 172 0 9 #[56, 61, 66, 71, 76, 81, 86, 91, 96, 129], 56) := by decide +kernel
theorem dX13_count_64 : decode cX13_count 64 = .ok (.aload_n 0, 1) := by decide +kernel
theorem dX13_count_65 : decode cX13_count 65 = .ok (.getfield 173, 3) := by decide +kernel
theorem dX13_count_68 : decode cX13_count 68 = .ok (.ireturn, 1) := by decide +kernel
theorem dX13_count_69 : decode cX13_count 69 = .ok (.aload_n 0, 1) := by decide +kernel
theorem dX13_count_70 : decode cX13_count 70 = .ok (.getfield 243, 3) := by decide +kernel
theorem dX13_count_73 : decode cX13_count 73 = .ok (.ireturn, 1) := by decide +kernel
theorem dX13_count_74 : decode cX13_count 74 = .ok (.aload_n 0, 1) := by decide +kernel
theorem dX13_count_75 : decode cX13_count 75 = .ok (.getfield 282, 3) := by decide +kernel
theorem dX13_count_78 : decode cX13_count 78 = .ok (.ireturn, 1) := by decide +kernel
theorem dX13_count_79 : decode cX13_count 79 = .ok (.aload_n 0, 1) := by decide +kernel
theorem dX13_count_80 : decode cX13_count 80 = .ok (.getfield 304, 3) := by decide +kernel
theorem dX13_count_83 : decode cX13_count 83 = .ok (.ireturn, 1) := by decide +kernel
theorem dX13_count_84 : decode cX13_count 84 = .ok (.aload_n 0, 1) := by decide +kernel
theorem dX13_count_85 : decode cX13_count 85 = .ok (.getfield 383, 3) := by decide +kernel
theorem dX13_count_88 : decode cX13_count 88 = .ok (.ireturn, 1) := by decide +kernel
theorem dX13_count_89 : decode cX13_count 89 = .ok (.aload_n 0, 1) := by decide +kernel
theorem dX13_count_90 : decode cX13_count 90 = .ok (.getfield 291, 3) := by decide +kernel
theorem dX13_count_93 : decode cX13_count 93 = .ok (.ireturn, 1) := by decide +kernel
theorem dX13_count_94 : decode cX13_count 94 = .ok (.aload_n 0, 1) := by decide +kernel
theorem dX13_count_95 : decode cX13_count 95 = .ok (.getfield 180, 3) := by decide +kernel
theorem dX13_count_98 : decode cX13_count 98 = .ok (.ireturn, 1) := by decide +kernel
theorem dX13_count_99 : decode cX13_count 99 = .ok (.aload_n 0, 1) := by decide +kernel
theorem dX13_count_100 : decode cX13_count 100 = .ok (.getfield 447, 3) := by decide +kernel
theorem dX13_count_103 : decode cX13_count 103 = .ok (.ireturn, 1) := by decide +kernel
theorem dX13_count_104 : decode cX13_count 104 = .ok (.iconst 0, 1) := by decide +kernel
theorem dX13_count_105 : decode cX13_count 105 = .ok (.istore_n 3, 1) := by decide +kernel
theorem dX13_count_106 : decode cX13_count 106 = .ok (.iload_n 3, 1) := by decide +kernel
theorem dX13_count_107 : decode cX13_count 107 = .ok (.aload_n 0, 1) := by decide +kernel
theorem dX13_count_108 : decode cX13_count 108 = .ok (.getfield 243, 3) := by decide +kernel
theorem dX13_count_111 : decode cX13_count 111 = .ok (.if_icmp .ge 24, 3) := by decide +kernel
theorem dX13_count_114 : decode cX13_count 114 = .ok (.aload_n 0, 1) := by decide +kernel
theorem dX13_count_115 : decode cX13_count 115 = .ok (.iload_n 3, 1) := by decide +kernel
theorem dX13_count_116 : decode cX13_count 116 = .ok (.aload_n 0, 1) := by decide +kernel
theorem dX13_count_117 : decode cX13_count 117 = .ok (.getfield 173, 3) := by decide +kernel
theorem dX13_count_120 : decode cX13_count 120 = .ok (.invokevirtual 314, 3) := by decide +kernel
theorem dX13_count_123 : decode cX13_count 123 = .ok (.ifCond .eq 6, 3) := by decide +kernel
theorem dX13_count_126 : decode cX13_count 126 = .ok (.iinc 2 1, 3) := by decide +kernel
theorem dX13_count_129 : decode cX13_count 129 = .ok (.iinc 3 1, 3) := by decide +kernel
theorem dX13_count_132 : decode cX13_count 132 = .ok (.goto (-26), 3) := by decide +kernel
theorem dX13_count_135 : decode cX13_count 135 = .ok (.iload_n 2, 1) := by decide +kernel
theorem dX13_count_136 : decode cX13_count 136 = .ok (.ireturn, 1) := by decide +kernel
theorem dX13_count_137 : decode cX13_count 137 = .ok (.iconst 0, 1) := by decide +kernel
theorem dX13_count_138 : decode cX13_count 138 = .ok (.istore_n 3, 1) := by decide +kernel
theorem dX13_count_139 : decode cX13_count 139 = .ok (.iload_n 3, 1) := by decide +kernel
theorem dX13_count_140 : decode cX13_count 140 = .ok (.aload_n 0, 1) := by decide +kernel
theorem dX13_count_141 : decode cX13_count 141 = .ok (.getfield 383, 3) := by decide +kernel
theorem dX13_count_144 : decode cX13_count 144 = .ok (.if_icmp .ge 34, 3) := by decide +kernel
theorem dX13_count_147 : decode cX13_count 147 = .ok (.aload_n 0, 1) := by decide +kernel
theorem dX13_count_148 : decode cX13_count 148 = .ok (.getfield 130, 3) := by decide +kernel
theorem dX13_count_151 : decode cX13_count 151 = .ok (.iload_n 3, 1) := by decide +kernel
theorem dX13_count_152 : decode cX13_count 152 = .ok (.iaload, 1) := by decide +kernel
theorem dX13_count_153 : decode cX13_count 153 = .ok (.aload_n 0, 1) := by decide +kernel
theorem dX13_count_154 : decode cX13_count 154 = .ok (.getfield 133, 3) := by decide +kernel
theorem dX13_count_157 : decode cX13_count 157 = .ok (.iload_n 3, 1) := by decide +kernel
theorem dX13_count_158 : decode cX13_count 158 = .ok (.iaload, 1) := by decide +kernel
theorem dX13_count_159 : decode cX13_count 159 = .ok (.aload_n 0, 1) := by decide +kernel
theorem dX13_count_160 : decode cX13_count 160 = .ok (.getfield 173, 3) := by decide +kernel
theorem dX13_count_163 : decode cX13_count 163 = .ok (.invokestatic 177, 3) := by decide +kernel
theorem dX13_count_166 : decode cX13_count 166 = .ok (.ifCond .eq 6, 3) := by decide +kernel
theorem dX13_count_169 : decode cX13_count 169 = .ok (.iinc 2 1, 3) := by decide +kernel
theorem dX13_count_172 : decode cX13_count 172 = .ok (.iinc 3 1, 3) := by decide +kernel
theorem dX13_count_175 : decode cX13_count 175 = .ok (.goto (-36), 3) := by decide +kernel
theorem dX13_count_178 : decode cX13_count 178 = .ok (.iload_n 2, 1) := by decide +kernel
theorem dX13_count_179 : decode cX13_count 179 = .ok (.ireturn, 1) := by decide +kernel
theorem dX13_count_180 : decode cX13_count 180 = .ok (.iconst (-1), 1) := by decide +kernel
theorem dX13_count_181 : decode cX13_count 181 = .ok (.ireturn, 1) := by decide +kernel
noncomputable def f_X13_count_129 (rec106 : Int32 → Int32 → jM → Option (Int32 × jM)) (l2 : Int32) (l3 : Int32) (σ : jM) : Option (Int32 × jM) :=
  rec106 l2 (l3 + 1) σ
noncomputable def s_X13_count_106  (rec106 : Int32 → Int32 → jM → Option (Int32 × jM)) (l2 : Int32) (l3 : Int32) (σ : jM) : Option (Int32 × jM) :=
  (if (rI σ 324 2) ≤ l3 then some (l2, σ) else bd (f_X13_tabletCounts l3 (rI σ 324 1) σ) (fun r4 σ5 => (if r4 = 0 then f_X13_count_129 rec106 l2 l3 σ5 else f_X13_count_129 rec106 (l2 + 1) l3 σ5)))
noncomputable def f_X13_count_106  (n : Nat) : Int32 → Int32 → jM → Option (Int32 × jM) := Nat.rec (motive := fun _ => Int32 → Int32 → jM → Option (Int32 × jM)) (fun _ _ _ => none) (fun _ q => s_X13_count_106  q) n
noncomputable def f_X13_count_172 (rec139 : Int32 → Int32 → jM → Option (Int32 × jM)) (l2 : Int32) (l3 : Int32) (σ : jM) : Option (Int32 × jM) :=
  rec139 l2 (l3 + 1) σ
noncomputable def s_X13_count_139  (rec139 : Int32 → Int32 → jM → Option (Int32 × jM)) (l2 : Int32) (l3 : Int32) (σ : jM) : Option (Int32 × jM) :=
  (if (rI σ 324 55) ≤ l3 then some (l2, σ) else gd (inb l3 6) (gd (inb l3 6) (bd (f_X13_counts (rI σ 362 (Int32.toNatClampNeg l3)) (rI σ 363 (Int32.toNatClampNeg l3)) (rI σ 324 1) σ) (fun r16 σ17 => (if r16 = 0 then f_X13_count_172 rec139 l2 l3 σ17 else f_X13_count_172 rec139 (l2 + 1) l3 σ17)))))
noncomputable def f_X13_count_139  (n : Nat) : Int32 → Int32 → jM → Option (Int32 × jM) := Nat.rec (motive := fun _ => Int32 → Int32 → jM → Option (Int32 × jM)) (fun _ _ _ => none) (fun _ q => s_X13_count_139  q) n
noncomputable def f_X13_count (a1 : Int32) (σ : jM) : Option (Int32 × jM) :=
  (if a1 = 0 then some ((rI (wI σ 324 0 0) 324 1), wI σ 324 0 0) else (if a1 = 1 then some ((rI (wI σ 324 0 0) 324 2), wI σ 324 0 0) else (if a1 = 2 then some ((rI (wI σ 324 0 0) 324 8), wI σ 324 0 0) else (if a1 = 3 then some ((rI (wI σ 324 0 0) 324 32), wI σ 324 0 0) else (if a1 = 4 then some ((rI (wI σ 324 0 0) 324 55), wI σ 324 0 0) else (if a1 = 5 then some ((rI (wI σ 324 0 0) 324 25), wI σ 324 0 0) else (if a1 = 6 then some ((rI (wI σ 324 0 0) 324 16), wI σ 324 0 0) else (if a1 = 7 then some ((rI (wI σ 324 0 0) 324 75), wI σ 324 0 0) else (if a1 = 8 then f_X13_count_106  Fu 0 0 (wI σ 324 0 0) else (if a1 = 9 then f_X13_count_139  Fu 0 0 (wI σ 324 0 0) else some ((-1), wI σ 324 0 0)))))))))))
set_option maxRecDepth 20000 in
set_option maxHeartbeats 4000000 in
theorem t_X13_count_129 {rec106 : Int32 → Int32 → jM → Option (Int32 × jM)} (hrec106 : ∀ (l2 : Int32) (l3 : Int32) (σ : jM) (r : Int32 × jM), rec106 l2 l3 σ = some r → J mi_X13_count 3 0 0 (jqI r) 106 [(0, .ref 324), (2, .int l2), (3, .int l3)] [] (ms σ)) (l2 : Int32) (l3 : Int32) (σ : jM) (r : Int32 × jM)  (h : f_X13_count_129 rec106 l2 l3 σ = some r) : J mi_X13_count 3 0 0 (jqI r) 129 [(0, .ref 324), (2, .int l2), (3, .int l3)] [] (ms σ) := by
  unfold f_X13_count_129 at h
  refine J_iinc (v := (l3 + 1)) (ls' := [(3, .int (l3 + 1)), (0, .ref 324), (2, .int l2)]) 2 dX13_count_129 rfl rfl (by decide) rfl ?_
  refine J_goto (tgt := 106) dX13_count_132 (by decide) ?_
  refine J_pick [1, 2, 0] rfl ?_
  exact hrec106 _ _ _ _  h
set_option maxRecDepth 20000 in
set_option maxHeartbeats 4000000 in
theorem t_X13_count_106  : ∀ (n : Nat) (l2 : Int32) (l3 : Int32) (σ : jM) (r : Int32 × jM), f_X13_count_106  n l2 l3 σ = some r → J mi_X13_count 3 0 0 (jqI r) 106 [(0, .ref 324), (2, .int l2), (3, .int l3)] [] (ms σ) := by
  intro n
  induction n with
  | zero =>
    intro l2 l3 σ r  h
    have h : (none : Option (Int32 × jM)) = some r := h
    cases h
  | succ n ih =>
    intro l2 l3 σ r  h
    have h : s_X13_count_106  (f_X13_count_106  n) l2 l3 σ = some r := h
    unfold s_X13_count_106 at h
    refine J_iload_n 2 dX13_count_106 rfl ?_
    refine J_aload_n 0 dX13_count_107 rfl ?_
    refine M_getI gf_X13_243_12 dX13_count_108 k_324 n_324 ?_
    refine J_icmp_ge (tgt := 135) dX13_count_111 (by decide) (fun c8 => ?_) (fun c8 => ?_)
    · have h := (if_pos c8).symm.trans h
      refine J_iload_n 1 dX13_count_135 rfl ?_
      exact J_ret (v := some (.int l2)) rfl ⟨dX13_count_136, Or.inl rfl⟩ (jqI_mk h)
    · have h := (if_neg c8).symm.trans h
      refine J_aload_n 0 dX13_count_114 rfl ?_
      refine J_iload_n 2 dX13_count_115 rfl ?_
      refine J_aload_n 0 dX13_count_116 rfl ?_
      refine M_getI gf_X13_173_12 dX13_count_117 k_324 n_324 ?_
      obtain ⟨r9, σ10, h11, h⟩ := bd_inv h
      refine M_callVI (d' := 2) (k := 324) (As := [.int l3, .int (rI σ 324 1)]) (st := []) cv_X13_314 dX13_count_120 rfl (by decide) rfl (Nat.le_of_ble_eq_true rfl) (Nat.le_of_ble_eq_true rfl) (by decide) n_324 k_324 rfl rfl (t_X13_tabletCounts  h11) ?_
      refine J_if_eq (tgt := 129) dX13_count_123 (by decide) (fun c12 => ?_) (fun c12 => ?_)
      · have h := (if_pos c12).symm.trans h
        exact t_X13_count_129 ih _ _ _ _  h
      · have h := (if_neg c12).symm.trans h
        refine J_iinc (v := (l2 + 1)) (ls' := [(2, .int (l2 + 1)), (0, .ref 324), (3, .int l3)]) 1 dX13_count_126 rfl rfl (by decide) rfl ?_
        refine J_pick [1, 0, 2] rfl ?_
        exact t_X13_count_129 ih _ _ _ _  h
set_option maxRecDepth 20000 in
set_option maxHeartbeats 4000000 in
theorem t_X13_count_172 {rec139 : Int32 → Int32 → jM → Option (Int32 × jM)} (hrec139 : ∀ (l2 : Int32) (l3 : Int32) (σ : jM) (r : Int32 × jM), rec139 l2 l3 σ = some r → J mi_X13_count 3 0 0 (jqI r) 139 [(0, .ref 324), (2, .int l2), (3, .int l3)] [] (ms σ)) (l2 : Int32) (l3 : Int32) (σ : jM) (r : Int32 × jM)  (h : f_X13_count_172 rec139 l2 l3 σ = some r) : J mi_X13_count 3 0 0 (jqI r) 172 [(0, .ref 324), (2, .int l2), (3, .int l3)] [] (ms σ) := by
  unfold f_X13_count_172 at h
  refine J_iinc (v := (l3 + 1)) (ls' := [(3, .int (l3 + 1)), (0, .ref 324), (2, .int l2)]) 2 dX13_count_172 rfl rfl (by decide) rfl ?_
  refine J_goto (tgt := 139) dX13_count_175 (by decide) ?_
  refine J_pick [1, 2, 0] rfl ?_
  exact hrec139 _ _ _ _  h
set_option maxRecDepth 20000 in
set_option maxHeartbeats 4000000 in
theorem t_X13_count_139  : ∀ (n : Nat) (l2 : Int32) (l3 : Int32) (σ : jM) (r : Int32 × jM), f_X13_count_139  n l2 l3 σ = some r → J mi_X13_count 3 0 0 (jqI r) 139 [(0, .ref 324), (2, .int l2), (3, .int l3)] [] (ms σ) := by
  intro n
  induction n with
  | zero =>
    intro l2 l3 σ r  h
    have h : (none : Option (Int32 × jM)) = some r := h
    cases h
  | succ n ih =>
    intro l2 l3 σ r  h
    have h : s_X13_count_139  (f_X13_count_139  n) l2 l3 σ = some r := h
    unfold s_X13_count_139 at h
    refine J_iload_n 2 dX13_count_139 rfl ?_
    refine J_aload_n 0 dX13_count_140 rfl ?_
    refine M_getI gf_X13_383_12 dX13_count_141 k_324 n_324 ?_
    refine J_icmp_ge (tgt := 178) dX13_count_144 (by decide) (fun c20 => ?_) (fun c20 => ?_)
    · have h := (if_pos c20).symm.trans h
      refine J_iload_n 1 dX13_count_178 rfl ?_
      exact J_ret (v := some (.int l2)) rfl ⟨dX13_count_179, Or.inl rfl⟩ (jqI_mk h)
    · have h := (if_neg c20).symm.trans h
      refine J_aload_n 0 dX13_count_147 rfl ?_
      refine M_getR gf_X13_130_12 dX13_count_148 (g_324_59 _) k_324 n_324 ?_
      refine J_iload_n 2 dX13_count_151 rfl ?_
      obtain ⟨g21, h⟩ := gd_inv h
      refine M_iald dX13_count_152 a_362 n_362 g21 ?_
      refine J_aload_n 0 dX13_count_153 rfl ?_
      refine M_getR gf_X13_133_12 dX13_count_154 (g_324_60 _) k_324 n_324 ?_
      refine J_iload_n 2 dX13_count_157 rfl ?_
      obtain ⟨g22, h⟩ := gd_inv h
      refine M_iald dX13_count_158 a_363 n_363 g22 ?_
      refine J_aload_n 0 dX13_count_159 rfl ?_
      refine M_getI gf_X13_173_12 dX13_count_160 k_324 n_324 ?_
      obtain ⟨r23, σ24, h25, h⟩ := bd_inv h
      refine M_callSI (d' := 1) (As := [.int (rI σ 362 (Int32.toNatClampNeg l3)), .int (rI σ 363 (Int32.toNatClampNeg l3)), .int (rI σ 324 1)]) (st := []) cs_X13_177 dX13_count_163 rfl (Nat.le_of_ble_eq_true rfl) (Nat.le_of_ble_eq_true rfl) (by decide) rfl rfl (t_X13_counts  h25) ?_
      refine J_if_eq (tgt := 172) dX13_count_166 (by decide) (fun c26 => ?_) (fun c26 => ?_)
      · have h := (if_pos c26).symm.trans h
        exact t_X13_count_172 ih _ _ _ _  h
      · have h := (if_neg c26).symm.trans h
        refine J_iinc (v := (l2 + 1)) (ls' := [(2, .int (l2 + 1)), (0, .ref 324), (3, .int l3)]) 1 dX13_count_169 rfl rfl (by decide) rfl ?_
        refine J_pick [1, 0, 2] rfl ?_
        exact t_X13_count_172 ih _ _ _ _  h
set_option maxRecDepth 20000 in
set_option maxHeartbeats 4000000 in
theorem t_X13_count {a1 : Int32} {σ : jM} {r : Int32 × jM}  (h : f_X13_count a1 σ = some r) : J mi_X13_count 3 0 0 (jqI r) 0 [(0, .ref 324), (1, .int a1)] [] (ms σ) := by
  unfold f_X13_count at h
  refine J_aload_n 0 dX13_count_0 rfl ?_
  refine J_iconst (v := 0) dX13_count_1 (by decide) ?_
  refine M_putI pf_X13_1_12 dX13_count_2 k_324 n_324 ⟨rfl, rfl⟩ ?_
  refine J_iconst (v := 0) dX13_count_5 (by decide) ?_
  refine J_istore_n (i := 2) (ls' := [(2, .int 0), (0, .ref 324), (1, .int a1)]) dX13_count_6 rfl (by decide) rfl ?_
  refine J_iload_n 2 dX13_count_7 rfl ?_
  by_cases c28 : a1 = 0
  · have h := (if_pos c28).symm.trans h
    refine J_tableIn (off := 56) (tgt := 64) dX13_count_8 (by rw [c28]; decide) (by rw [c28]; decide) (by rw [c28]; decide) (by decide) ?_
    refine J_aload_n 1 dX13_count_64 rfl ?_
    refine M_getI gf_X13_173_12 dX13_count_65 k_324 n_324 ?_
    exact J_ret (v := some (.int (rI (wI σ 324 0 0) 324 1))) rfl ⟨dX13_count_68, Or.inl rfl⟩ (jqI_mk h)
  · have h := (if_neg c28).symm.trans h
    by_cases c29 : a1 = 1
    · have h := (if_pos c29).symm.trans h
      refine J_tableIn (off := 61) (tgt := 69) dX13_count_8 (by rw [c29]; decide) (by rw [c29]; decide) (by rw [c29]; decide) (by decide) ?_
      refine J_aload_n 1 dX13_count_69 rfl ?_
      refine M_getI gf_X13_243_12 dX13_count_70 k_324 n_324 ?_
      exact J_ret (v := some (.int (rI (wI σ 324 0 0) 324 2))) rfl ⟨dX13_count_73, Or.inl rfl⟩ (jqI_mk h)
    · have h := (if_neg c29).symm.trans h
      by_cases c30 : a1 = 2
      · have h := (if_pos c30).symm.trans h
        refine J_tableIn (off := 66) (tgt := 74) dX13_count_8 (by rw [c30]; decide) (by rw [c30]; decide) (by rw [c30]; decide) (by decide) ?_
        refine J_aload_n 1 dX13_count_74 rfl ?_
        refine M_getI gf_X13_282_12 dX13_count_75 k_324 n_324 ?_
        exact J_ret (v := some (.int (rI (wI σ 324 0 0) 324 8))) rfl ⟨dX13_count_78, Or.inl rfl⟩ (jqI_mk h)
      · have h := (if_neg c30).symm.trans h
        by_cases c31 : a1 = 3
        · have h := (if_pos c31).symm.trans h
          refine J_tableIn (off := 71) (tgt := 79) dX13_count_8 (by rw [c31]; decide) (by rw [c31]; decide) (by rw [c31]; decide) (by decide) ?_
          refine J_aload_n 1 dX13_count_79 rfl ?_
          refine M_getI gf_X13_304_12 dX13_count_80 k_324 n_324 ?_
          exact J_ret (v := some (.int (rI (wI σ 324 0 0) 324 32))) rfl ⟨dX13_count_83, Or.inl rfl⟩ (jqI_mk h)
        · have h := (if_neg c31).symm.trans h
          by_cases c32 : a1 = 4
          · have h := (if_pos c32).symm.trans h
            refine J_tableIn (off := 76) (tgt := 84) dX13_count_8 (by rw [c32]; decide) (by rw [c32]; decide) (by rw [c32]; decide) (by decide) ?_
            refine J_aload_n 1 dX13_count_84 rfl ?_
            refine M_getI gf_X13_383_12 dX13_count_85 k_324 n_324 ?_
            exact J_ret (v := some (.int (rI (wI σ 324 0 0) 324 55))) rfl ⟨dX13_count_88, Or.inl rfl⟩ (jqI_mk h)
          · have h := (if_neg c32).symm.trans h
            by_cases c33 : a1 = 5
            · have h := (if_pos c33).symm.trans h
              refine J_tableIn (off := 81) (tgt := 89) dX13_count_8 (by rw [c33]; decide) (by rw [c33]; decide) (by rw [c33]; decide) (by decide) ?_
              refine J_aload_n 1 dX13_count_89 rfl ?_
              refine M_getI gf_X13_291_12 dX13_count_90 k_324 n_324 ?_
              exact J_ret (v := some (.int (rI (wI σ 324 0 0) 324 25))) rfl ⟨dX13_count_93, Or.inl rfl⟩ (jqI_mk h)
            · have h := (if_neg c33).symm.trans h
              by_cases c34 : a1 = 6
              · have h := (if_pos c34).symm.trans h
                refine J_tableIn (off := 86) (tgt := 94) dX13_count_8 (by rw [c34]; decide) (by rw [c34]; decide) (by rw [c34]; decide) (by decide) ?_
                refine J_aload_n 1 dX13_count_94 rfl ?_
                refine M_getI gf_X13_180_12 dX13_count_95 k_324 n_324 ?_
                exact J_ret (v := some (.int (rI (wI σ 324 0 0) 324 16))) rfl ⟨dX13_count_98, Or.inl rfl⟩ (jqI_mk h)
              · have h := (if_neg c34).symm.trans h
                by_cases c35 : a1 = 7
                · have h := (if_pos c35).symm.trans h
                  refine J_tableIn (off := 91) (tgt := 99) dX13_count_8 (by rw [c35]; decide) (by rw [c35]; decide) (by rw [c35]; decide) (by decide) ?_
                  refine J_aload_n 1 dX13_count_99 rfl ?_
                  refine M_getI gf_X13_447_12 dX13_count_100 k_324 n_324 ?_
                  exact J_ret (v := some (.int (rI (wI σ 324 0 0) 324 75))) rfl ⟨dX13_count_103, Or.inl rfl⟩ (jqI_mk h)
                · have h := (if_neg c35).symm.trans h
                  by_cases c36 : a1 = 8
                  · have h := (if_pos c36).symm.trans h
                    refine J_tableIn (off := 96) (tgt := 104) dX13_count_8 (by rw [c36]; decide) (by rw [c36]; decide) (by rw [c36]; decide) (by decide) ?_
                    refine J_iconst (v := 0) dX13_count_104 (by decide) ?_
                    refine J_istore_n (i := 3) (ls' := [(3, .int 0), (2, .int 0), (0, .ref 324), (1, .int a1)]) dX13_count_105 rfl (by decide) rfl ?_
                    refine J_pick [2, 1, 0] rfl ?_
                    exact t_X13_count_106  _ _ _ _ _  h
                  · have h := (if_neg c36).symm.trans h
                    by_cases c37 : a1 = 9
                    · have h := (if_pos c37).symm.trans h
                      refine J_tableIn (off := 129) (tgt := 137) dX13_count_8 (by rw [c37]; decide) (by rw [c37]; decide) (by rw [c37]; decide) (by decide) ?_
                      refine J_iconst (v := 0) dX13_count_137 (by decide) ?_
                      refine J_istore_n (i := 3) (ls' := [(3, .int 0), (2, .int 0), (0, .ref 324), (1, .int a1)]) dX13_count_138 rfl (by decide) rfl ?_
                      refine J_pick [2, 1, 0] rfl ?_
                      exact t_X13_count_139  _ _ _ _ _  h
                    · have h := (if_neg c37).symm.trans h
                      refine J_tableOut (tgt := 180) dX13_count_8 (sw_out 0 9 (by decide) (fun v hv1 hv2 => ?_)) (by decide) ?_
                      · rcases (by omega : v = 0 ∨ v = 1 ∨ v = 2 ∨ v = 3 ∨ v = 4 ∨ v = 5 ∨ v = 6 ∨ v = 7 ∨ v = 8 ∨ v = 9) with rfl | rfl | rfl | rfl | rfl | rfl | rfl | rfl | rfl | rfl
                        · exact c28
                        · exact c29
                        · exact c30
                        · exact c31
                        · exact c32
                        · exact c33
                        · exact c34
                        · exact c35
                        · exact c36
                        · exact c37
                      · refine J_iconst (v := (-1)) dX13_count_180 (by decide) ?_
                        exact J_ret (v := some (.int (-1))) rfl ⟨dX13_count_181, Or.inl rfl⟩ (jqI_mk h)
theorem dJ7_fill_53178_0 : decode cJ7_fill_53178 0 = .ok (.iconst 0, 1) := by decide +kernel
theorem dJ7_fill_53178_1 : decode cJ7_fill_53178 1 = .ok (.istore_n 2, 1) := by decide +kernel
theorem dJ7_fill_53178_2 : decode cJ7_fill_53178 2 = .ok (.aload_n 0, 1) := by decide +kernel
theorem dJ7_fill_53178_3 : decode cJ7_fill_53178 3 = .ok (.arraylength, 1) := by decide +kernel
theorem dJ7_fill_53178_4 : decode cJ7_fill_53178 4 = .ok (.istore_n 3, 1) := by decide +kernel
theorem dJ7_fill_53178_5 : decode cJ7_fill_53178 5 = .ok (.iload_n 2, 1) := by decide +kernel
theorem dJ7_fill_53178_6 : decode cJ7_fill_53178 6 = .ok (.iload_n 3, 1) := by decide +kernel
theorem dJ7_fill_53178_7 : decode cJ7_fill_53178 7 = .ok (.if_icmp .ge 13, 3) := by decide +kernel
theorem dJ7_fill_53178_10 : decode cJ7_fill_53178 10 = .ok (.aload_n 0, 1) := by decide +kernel
theorem dJ7_fill_53178_11 : decode cJ7_fill_53178 11 = .ok (.iload_n 2, 1) := by decide +kernel
theorem dJ7_fill_53178_12 : decode cJ7_fill_53178 12 = .ok (.iload_n 1, 1) := by decide +kernel
theorem dJ7_fill_53178_13 : decode cJ7_fill_53178 13 = .ok (.iastore, 1) := by decide +kernel
theorem dJ7_fill_53178_14 : decode cJ7_fill_53178 14 = .ok (.iinc 2 1, 3) := by decide +kernel
theorem dJ7_fill_53178_17 : decode cJ7_fill_53178 17 = .ok (.goto (-12), 3) := by decide +kernel
theorem dJ7_fill_53178_20 : decode cJ7_fill_53178 20 = .ok (.return_, 1) := by decide +kernel
noncomputable def s_J7_fill_53178_5  (rec5 : Nat → Int32 → Int32 → Int32 → jM → Option (Unit × jM)) (l0 : Nat) (l1 : Int32) (l2 : Int32) (l3 : Int32) (σ : jM) : Option (Unit × jM) :=
  (if l3 ≤ l2 then some ((), σ) else gd (inb l2 (shf l0).2) (rec5 l0 l1 (l2 + 1) l3 (wI σ l0 (Int32.toNatClampNeg l2) l1)))
noncomputable def f_J7_fill_53178_5  (n : Nat) : Nat → Int32 → Int32 → Int32 → jM → Option (Unit × jM) := Nat.rec (motive := fun _ => Nat → Int32 → Int32 → Int32 → jM → Option (Unit × jM)) (fun _ _ _ _ _ => none) (fun _ q => s_J7_fill_53178_5  q) n
noncomputable def f_J7_fill_53178 (a0 : Nat) (a1 : Int32) (σ : jM) : Option (Unit × jM) :=
  f_J7_fill_53178_5  Fu a0 a1 0 (Int32.ofNat ((shf a0).2)) σ
set_option maxRecDepth 20000 in
set_option maxHeartbeats 4000000 in
theorem t_J7_fill_53178_5  : ∀ (n : Nat) (l0 : Nat) (l1 : Int32) (l2 : Int32) (l3 : Int32) (σ : jM) (r : Unit × jM), (shf l0).1 = 14 ∧ l0 < 376 → f_J7_fill_53178_5  n l0 l1 l2 l3 σ = some r → J mi_J7_fill_53178 1 0 0 (jqV r) 5 [(0, .ref l0), (1, .int l1), (2, .int l2), (3, .int l3)] [] (ms σ) := by
  intro n
  induction n with
  | zero =>
    intro l0 l1 l2 l3 σ r hl0 h
    have h : (none : Option (Unit × jM)) = some r := h
    cases h
  | succ n ih =>
    intro l0 l1 l2 l3 σ r hl0 h
    have h : s_J7_fill_53178_5  (f_J7_fill_53178_5  n) l0 l1 l2 l3 σ = some r := h
    unfold s_J7_fill_53178_5 at h
    refine J_iload_n 2 dJ7_fill_53178_5 rfl ?_
    refine J_iload_n 3 dJ7_fill_53178_6 rfl ?_
    refine J_icmp_ge (tgt := 20) dJ7_fill_53178_7 (by decide) (fun c5 => ?_) (fun c5 => ?_)
    · have h := (if_pos c5).symm.trans h
      exact J_ret (v := none) rfl ⟨dJ7_fill_53178_20, rfl⟩ (jqV_mk h)
    · have h := (if_neg c5).symm.trans h
      refine J_aload_n 0 dJ7_fill_53178_10 rfl ?_
      refine J_iload_n 2 dJ7_fill_53178_11 rfl ?_
      refine J_iload_n 1 dJ7_fill_53178_12 rfl ?_
      obtain ⟨g6, h⟩ := gd_inv h
      refine M_iast dJ7_fill_53178_13 (shf_fst hl0.1) hl0.2 g6 ?_
      refine J_iinc (v := (l2 + 1)) (ls' := [(2, .int (l2 + 1)), (0, .ref l0), (1, .int l1), (3, .int l3)]) 2 dJ7_fill_53178_14 rfl rfl (by decide) rfl ?_
      refine J_goto (tgt := 5) dJ7_fill_53178_17 (by decide) ?_
      refine J_pick [1, 2, 0, 3] rfl ?_
      exact ih _ _ _ _ _ _ ⟨congrArg Prod.fst (shf_fst hl0.1), hl0.2⟩ h
set_option maxRecDepth 20000 in
set_option maxHeartbeats 4000000 in
theorem t_J7_fill_53178 {a0 : Nat} {a1 : Int32} {σ : jM} {r : Unit × jM} (ha0 : (shf a0).1 = 14 ∧ a0 < 376) (h : f_J7_fill_53178 a0 a1 σ = some r) : J mi_J7_fill_53178 1 0 0 (jqV r) 0 [(0, .ref a0), (1, .int a1)] [] (ms σ) := by
  unfold f_J7_fill_53178 at h
  refine J_iconst (v := 0) dJ7_fill_53178_0 (by decide) ?_
  refine J_istore_n (i := 2) (ls' := [(2, .int 0), (0, .ref a0), (1, .int a1)]) dJ7_fill_53178_1 rfl (by decide) rfl ?_
  refine J_aload_n 1 dJ7_fill_53178_2 rfl ?_
  refine M_alen dJ7_fill_53178_3 (shf_fst ha0.1) (by decide) ha0.2 ?_
  refine J_istore_n (i := 3) (ls' := [(3, .int (Int32.ofNat ((shf a0).2))), (2, .int 0), (0, .ref a0), (1, .int a1)]) dJ7_fill_53178_4 rfl (by decide) rfl ?_
  refine J_pick [2, 3, 1, 0] rfl ?_
  exact t_J7_fill_53178_5  _ _ _ _ _ _ _ ⟨congrArg Prod.fst (shf_fst ha0.1), ha0.2⟩ h
theorem dJ7_fill_d0a16_0 : decode cJ7_fill_d0a16 0 = .ok (.iconst 0, 1) := by decide +kernel
theorem dJ7_fill_d0a16_1 : decode cJ7_fill_d0a16 1 = .ok (.istore_n 3, 1) := by decide +kernel
theorem dJ7_fill_d0a16_2 : decode cJ7_fill_d0a16 2 = .ok (.aload_n 0, 1) := by decide +kernel
theorem dJ7_fill_d0a16_3 : decode cJ7_fill_d0a16 3 = .ok (.arraylength, 1) := by decide +kernel
theorem dJ7_fill_d0a16_4 : decode cJ7_fill_d0a16 4 = .ok (.istore 4, 2) := by decide +kernel
theorem dJ7_fill_d0a16_6 : decode cJ7_fill_d0a16 6 = .ok (.iload_n 3, 1) := by decide +kernel
theorem dJ7_fill_d0a16_7 : decode cJ7_fill_d0a16 7 = .ok (.iload 4, 2) := by decide +kernel
theorem dJ7_fill_d0a16_9 : decode cJ7_fill_d0a16 9 = .ok (.if_icmp .ge 13, 3) := by decide +kernel
theorem dJ7_fill_d0a16_12 : decode cJ7_fill_d0a16 12 = .ok (.aload_n 0, 1) := by decide +kernel
theorem dJ7_fill_d0a16_13 : decode cJ7_fill_d0a16 13 = .ok (.iload_n 3, 1) := by decide +kernel
theorem dJ7_fill_d0a16_14 : decode cJ7_fill_d0a16 14 = .ok (.lload_n 1, 1) := by decide +kernel
theorem dJ7_fill_d0a16_15 : decode cJ7_fill_d0a16 15 = .ok (.lastore, 1) := by decide +kernel
theorem dJ7_fill_d0a16_16 : decode cJ7_fill_d0a16 16 = .ok (.iinc 3 1, 3) := by decide +kernel
theorem dJ7_fill_d0a16_19 : decode cJ7_fill_d0a16 19 = .ok (.goto (-13), 3) := by decide +kernel
theorem dJ7_fill_d0a16_22 : decode cJ7_fill_d0a16 22 = .ok (.return_, 1) := by decide +kernel
noncomputable def s_J7_fill_d0a16_6  (rec6 : Nat → Int64 → Int32 → Int32 → jM → Option (Unit × jM)) (l0 : Nat) (l1 : Int64) (l3 : Int32) (l4 : Int32) (σ : jM) : Option (Unit × jM) :=
  (if l4 ≤ l3 then some ((), σ) else gd (inb l3 (shf l0).2) (rec6 l0 l1 (l3 + 1) l4 (wL σ l0 (Int32.toNatClampNeg l3) l1)))
noncomputable def f_J7_fill_d0a16_6  (n : Nat) : Nat → Int64 → Int32 → Int32 → jM → Option (Unit × jM) := Nat.rec (motive := fun _ => Nat → Int64 → Int32 → Int32 → jM → Option (Unit × jM)) (fun _ _ _ _ _ => none) (fun _ q => s_J7_fill_d0a16_6  q) n
noncomputable def f_J7_fill_d0a16 (a0 : Nat) (a1 : Int64) (σ : jM) : Option (Unit × jM) :=
  f_J7_fill_d0a16_6  Fu a0 a1 0 (Int32.ofNat ((shf a0).2)) σ
set_option maxRecDepth 20000 in
set_option maxHeartbeats 4000000 in
theorem t_J7_fill_d0a16_6  : ∀ (n : Nat) (l0 : Nat) (l1 : Int64) (l3 : Int32) (l4 : Int32) (σ : jM) (r : Unit × jM), (shf l0).1 = 15 ∧ l0 < 376 → f_J7_fill_d0a16_6  n l0 l1 l3 l4 σ = some r → J mi_J7_fill_d0a16 1 0 0 (jqV r) 6 [(0, .ref l0), (1, .long l1), (3, .int l3), (4, .int l4)] [] (ms σ) := by
  intro n
  induction n with
  | zero =>
    intro l0 l1 l3 l4 σ r hl0 h
    have h : (none : Option (Unit × jM)) = some r := h
    cases h
  | succ n ih =>
    intro l0 l1 l3 l4 σ r hl0 h
    have h : s_J7_fill_d0a16_6  (f_J7_fill_d0a16_6  n) l0 l1 l3 l4 σ = some r := h
    unfold s_J7_fill_d0a16_6 at h
    refine J_iload_n 2 dJ7_fill_d0a16_6 rfl ?_
    refine J_iload 3 dJ7_fill_d0a16_7 rfl ?_
    refine J_icmp_ge (tgt := 22) dJ7_fill_d0a16_9 (by decide) (fun c5 => ?_) (fun c5 => ?_)
    · have h := (if_pos c5).symm.trans h
      exact J_ret (v := none) rfl ⟨dJ7_fill_d0a16_22, rfl⟩ (jqV_mk h)
    · have h := (if_neg c5).symm.trans h
      refine J_aload_n 0 dJ7_fill_d0a16_12 rfl ?_
      refine J_iload_n 2 dJ7_fill_d0a16_13 rfl ?_
      refine J_lload_n 1 dJ7_fill_d0a16_14 rfl ?_
      obtain ⟨g6, h⟩ := gd_inv h
      refine M_last dJ7_fill_d0a16_15 (shf_fst hl0.1) hl0.2 g6 ?_
      refine J_iinc (v := (l3 + 1)) (ls' := [(3, .int (l3 + 1)), (0, .ref l0), (1, .long l1), (4, .int l4)]) 2 dJ7_fill_d0a16_16 rfl rfl (by decide) rfl ?_
      refine J_goto (tgt := 6) dJ7_fill_d0a16_19 (by decide) ?_
      refine J_pick [1, 2, 0, 3] rfl ?_
      exact ih _ _ _ _ _ _ ⟨congrArg Prod.fst (shf_fst hl0.1), hl0.2⟩ h
set_option maxRecDepth 20000 in
set_option maxHeartbeats 4000000 in
theorem t_J7_fill_d0a16 {a0 : Nat} {a1 : Int64} {σ : jM} {r : Unit × jM} (ha0 : (shf a0).1 = 15 ∧ a0 < 376) (h : f_J7_fill_d0a16 a0 a1 σ = some r) : J mi_J7_fill_d0a16 1 0 0 (jqV r) 0 [(0, .ref a0), (1, .long a1)] [] (ms σ) := by
  unfold f_J7_fill_d0a16 at h
  refine J_iconst (v := 0) dJ7_fill_d0a16_0 (by decide) ?_
  refine J_istore_n (i := 3) (ls' := [(3, .int 0), (0, .ref a0), (1, .long a1)]) dJ7_fill_d0a16_1 rfl (by decide) rfl ?_
  refine J_aload_n 1 dJ7_fill_d0a16_2 rfl ?_
  refine M_alen dJ7_fill_d0a16_3 (shf_fst ha0.1) (by decide) ha0.2 ?_
  refine J_istore (i := 4) (ls' := [(4, .int (Int32.ofNat ((shf a0).2))), (3, .int 0), (0, .ref a0), (1, .long a1)]) dJ7_fill_d0a16_4 (by decide) rfl ?_
  refine J_pick [2, 3, 1, 0] rfl ?_
  exact t_J7_fill_d0a16_6  _ _ _ _ _ _ _ ⟨congrArg Prod.fst (shf_fst ha0.1), ha0.2⟩ h
theorem dJ6_bitCount_0f7a4_0 : decode cJ6_bitCount_0f7a4 0 = .ok (.iload_n 0, 1) := by decide +kernel
theorem dJ6_bitCount_0f7a4_1 : decode cJ6_bitCount_0f7a4 1 = .ok (.iload_n 0, 1) := by decide +kernel
theorem dJ6_bitCount_0f7a4_2 : decode cJ6_bitCount_0f7a4 2 = .ok (.iconst 1, 1) := by decide +kernel
theorem dJ6_bitCount_0f7a4_3 : decode cJ6_bitCount_0f7a4 3 = .ok (.iushr, 1) := by decide +kernel
theorem dJ6_bitCount_0f7a4_4 : decode cJ6_bitCount_0f7a4 4 = .ok (.ldc_w 265, 3) := by decide +kernel
theorem dJ6_bitCount_0f7a4_7 : decode cJ6_bitCount_0f7a4 7 = .ok (.iand, 1) := by decide +kernel
theorem dJ6_bitCount_0f7a4_8 : decode cJ6_bitCount_0f7a4 8 = .ok (.isub, 1) := by decide +kernel
theorem dJ6_bitCount_0f7a4_9 : decode cJ6_bitCount_0f7a4 9 = .ok (.istore_n 0, 1) := by decide +kernel
theorem dJ6_bitCount_0f7a4_10 : decode cJ6_bitCount_0f7a4 10 = .ok (.iload_n 0, 1) := by decide +kernel
theorem dJ6_bitCount_0f7a4_11 : decode cJ6_bitCount_0f7a4 11 = .ok (.ldc_w 266, 3) := by decide +kernel
theorem dJ6_bitCount_0f7a4_14 : decode cJ6_bitCount_0f7a4 14 = .ok (.iand, 1) := by decide +kernel
theorem dJ6_bitCount_0f7a4_15 : decode cJ6_bitCount_0f7a4 15 = .ok (.iload_n 0, 1) := by decide +kernel
theorem dJ6_bitCount_0f7a4_16 : decode cJ6_bitCount_0f7a4 16 = .ok (.iconst 2, 1) := by decide +kernel
theorem dJ6_bitCount_0f7a4_17 : decode cJ6_bitCount_0f7a4 17 = .ok (.iushr, 1) := by decide +kernel
theorem dJ6_bitCount_0f7a4_18 : decode cJ6_bitCount_0f7a4 18 = .ok (.ldc_w 266, 3) := by decide +kernel
theorem dJ6_bitCount_0f7a4_21 : decode cJ6_bitCount_0f7a4 21 = .ok (.iand, 1) := by decide +kernel
theorem dJ6_bitCount_0f7a4_22 : decode cJ6_bitCount_0f7a4 22 = .ok (.iadd, 1) := by decide +kernel
theorem dJ6_bitCount_0f7a4_23 : decode cJ6_bitCount_0f7a4 23 = .ok (.istore_n 0, 1) := by decide +kernel
theorem dJ6_bitCount_0f7a4_24 : decode cJ6_bitCount_0f7a4 24 = .ok (.iload_n 0, 1) := by decide +kernel
theorem dJ6_bitCount_0f7a4_25 : decode cJ6_bitCount_0f7a4 25 = .ok (.iload_n 0, 1) := by decide +kernel
theorem dJ6_bitCount_0f7a4_26 : decode cJ6_bitCount_0f7a4 26 = .ok (.iconst 4, 1) := by decide +kernel
theorem dJ6_bitCount_0f7a4_27 : decode cJ6_bitCount_0f7a4 27 = .ok (.iushr, 1) := by decide +kernel
theorem dJ6_bitCount_0f7a4_28 : decode cJ6_bitCount_0f7a4 28 = .ok (.iadd, 1) := by decide +kernel
theorem dJ6_bitCount_0f7a4_29 : decode cJ6_bitCount_0f7a4 29 = .ok (.ldc_w 267, 3) := by decide +kernel
theorem dJ6_bitCount_0f7a4_32 : decode cJ6_bitCount_0f7a4 32 = .ok (.iand, 1) := by decide +kernel
theorem dJ6_bitCount_0f7a4_33 : decode cJ6_bitCount_0f7a4 33 = .ok (.istore_n 0, 1) := by decide +kernel
theorem dJ6_bitCount_0f7a4_34 : decode cJ6_bitCount_0f7a4 34 = .ok (.iload_n 0, 1) := by decide +kernel
theorem dJ6_bitCount_0f7a4_35 : decode cJ6_bitCount_0f7a4 35 = .ok (.iload_n 0, 1) := by decide +kernel
theorem dJ6_bitCount_0f7a4_36 : decode cJ6_bitCount_0f7a4 36 = .ok (.bipush 8, 2) := by decide +kernel
theorem dJ6_bitCount_0f7a4_38 : decode cJ6_bitCount_0f7a4 38 = .ok (.iushr, 1) := by decide +kernel
theorem dJ6_bitCount_0f7a4_39 : decode cJ6_bitCount_0f7a4 39 = .ok (.iadd, 1) := by decide +kernel
theorem dJ6_bitCount_0f7a4_40 : decode cJ6_bitCount_0f7a4 40 = .ok (.istore_n 0, 1) := by decide +kernel
theorem dJ6_bitCount_0f7a4_41 : decode cJ6_bitCount_0f7a4 41 = .ok (.iload_n 0, 1) := by decide +kernel
theorem dJ6_bitCount_0f7a4_42 : decode cJ6_bitCount_0f7a4 42 = .ok (.iload_n 0, 1) := by decide +kernel
theorem dJ6_bitCount_0f7a4_43 : decode cJ6_bitCount_0f7a4 43 = .ok (.bipush 16, 2) := by decide +kernel
theorem dJ6_bitCount_0f7a4_45 : decode cJ6_bitCount_0f7a4 45 = .ok (.iushr, 1) := by decide +kernel
theorem dJ6_bitCount_0f7a4_46 : decode cJ6_bitCount_0f7a4 46 = .ok (.iadd, 1) := by decide +kernel
theorem dJ6_bitCount_0f7a4_47 : decode cJ6_bitCount_0f7a4 47 = .ok (.istore_n 0, 1) := by decide +kernel
theorem dJ6_bitCount_0f7a4_48 : decode cJ6_bitCount_0f7a4 48 = .ok (.iload_n 0, 1) := by decide +kernel
theorem dJ6_bitCount_0f7a4_49 : decode cJ6_bitCount_0f7a4 49 = .ok (.bipush 63, 2) := by decide +kernel
theorem dJ6_bitCount_0f7a4_51 : decode cJ6_bitCount_0f7a4 51 = .ok (.iand, 1) := by decide +kernel
theorem dJ6_bitCount_0f7a4_52 : decode cJ6_bitCount_0f7a4 52 = .ok (.ireturn, 1) := by decide +kernel
noncomputable def f_J6_bitCount_0f7a4_48  (l0 : Int32) (σ : jM) : Option (Int32 × jM) :=
  some ((l0 &&& 63), σ)
noncomputable def f_J6_bitCount_0f7a4_41  (l0 : Int32) (σ : jM) : Option (Int32 × jM) :=
  f_J6_bitCount_0f7a4_48  (l0 + (jushr l0 16)) σ
noncomputable def f_J6_bitCount_0f7a4_34  (l0 : Int32) (σ : jM) : Option (Int32 × jM) :=
  f_J6_bitCount_0f7a4_41  (l0 + (jushr l0 8)) σ
noncomputable def f_J6_bitCount_0f7a4_24  (l0 : Int32) (σ : jM) : Option (Int32 × jM) :=
  f_J6_bitCount_0f7a4_34  ((l0 + (jushr l0 4)) &&& 252645135) σ
noncomputable def f_J6_bitCount_0f7a4_10  (l0 : Int32) (σ : jM) : Option (Int32 × jM) :=
  f_J6_bitCount_0f7a4_24  ((l0 &&& 858993459) + ((jushr l0 2) &&& 858993459)) σ
noncomputable def f_J6_bitCount_0f7a4 (a0 : Int32) (σ : jM) : Option (Int32 × jM) :=
  f_J6_bitCount_0f7a4_10  (a0 - ((jushr a0 1) &&& 1431655765)) σ
set_option maxRecDepth 20000 in
set_option maxHeartbeats 4000000 in
theorem t_J6_bitCount_0f7a4_48  (l0 : Int32) (σ : jM) (r : Int32 × jM)  (h : f_J6_bitCount_0f7a4_48  l0 σ = some r) : J mi_J6_bitCount_0f7a4 1 0 0 (jqI r) 48 [(0, .int l0)] [] (ms σ) := by
  unfold f_J6_bitCount_0f7a4_48 at h
  refine J_iload_n 0 dJ6_bitCount_0f7a4_48 rfl ?_
  refine J_bipush (v := 63) dJ6_bitCount_0f7a4_49 (by decide) ?_
  refine J_iand dJ6_bitCount_0f7a4_51 ?_
  exact J_ret (v := some (.int (l0 &&& 63))) rfl ⟨dJ6_bitCount_0f7a4_52, Or.inl rfl⟩ (jqI_mk h)
set_option maxRecDepth 20000 in
set_option maxHeartbeats 4000000 in
theorem t_J6_bitCount_0f7a4_41  (l0 : Int32) (σ : jM) (r : Int32 × jM)  (h : f_J6_bitCount_0f7a4_41  l0 σ = some r) : J mi_J6_bitCount_0f7a4 1 0 0 (jqI r) 41 [(0, .int l0)] [] (ms σ) := by
  unfold f_J6_bitCount_0f7a4_41 at h
  refine J_iload_n 0 dJ6_bitCount_0f7a4_41 rfl ?_
  refine J_iload_n 0 dJ6_bitCount_0f7a4_42 rfl ?_
  refine J_bipush (v := 16) dJ6_bitCount_0f7a4_43 (by decide) ?_
  refine J_iushr dJ6_bitCount_0f7a4_45 ?_
  refine J_iadd dJ6_bitCount_0f7a4_46 ?_
  refine J_istore_n (i := 0) (ls' := [(0, .int (l0 + (jushr l0 16)))]) dJ6_bitCount_0f7a4_47 rfl (by decide) rfl ?_
  exact t_J6_bitCount_0f7a4_48  _ _ _  h
set_option maxRecDepth 20000 in
set_option maxHeartbeats 4000000 in
theorem t_J6_bitCount_0f7a4_34  (l0 : Int32) (σ : jM) (r : Int32 × jM)  (h : f_J6_bitCount_0f7a4_34  l0 σ = some r) : J mi_J6_bitCount_0f7a4 1 0 0 (jqI r) 34 [(0, .int l0)] [] (ms σ) := by
  unfold f_J6_bitCount_0f7a4_34 at h
  refine J_iload_n 0 dJ6_bitCount_0f7a4_34 rfl ?_
  refine J_iload_n 0 dJ6_bitCount_0f7a4_35 rfl ?_
  refine J_bipush (v := 8) dJ6_bitCount_0f7a4_36 (by decide) ?_
  refine J_iushr dJ6_bitCount_0f7a4_38 ?_
  refine J_iadd dJ6_bitCount_0f7a4_39 ?_
  refine J_istore_n (i := 0) (ls' := [(0, .int (l0 + (jushr l0 8)))]) dJ6_bitCount_0f7a4_40 rfl (by decide) rfl ?_
  exact t_J6_bitCount_0f7a4_41  _ _ _  h
set_option maxRecDepth 20000 in
set_option maxHeartbeats 4000000 in
theorem t_J6_bitCount_0f7a4_24  (l0 : Int32) (σ : jM) (r : Int32 × jM)  (h : f_J6_bitCount_0f7a4_24  l0 σ = some r) : J mi_J6_bitCount_0f7a4 1 0 0 (jqI r) 24 [(0, .int l0)] [] (ms σ) := by
  unfold f_J6_bitCount_0f7a4_24 at h
  refine J_iload_n 0 dJ6_bitCount_0f7a4_24 rfl ?_
  refine J_iload_n 0 dJ6_bitCount_0f7a4_25 rfl ?_
  refine J_iconst (v := 4) dJ6_bitCount_0f7a4_26 (by decide) ?_
  refine J_iushr dJ6_bitCount_0f7a4_27 ?_
  refine J_iadd dJ6_bitCount_0f7a4_28 ?_
  refine J_ldcw dJ6_bitCount_0f7a4_29 ct_J6_267 ?_
  refine J_iand dJ6_bitCount_0f7a4_32 ?_
  refine J_istore_n (i := 0) (ls' := [(0, .int ((l0 + (jushr l0 4)) &&& 252645135))]) dJ6_bitCount_0f7a4_33 rfl (by decide) rfl ?_
  exact t_J6_bitCount_0f7a4_34  _ _ _  h
set_option maxRecDepth 20000 in
set_option maxHeartbeats 4000000 in
theorem t_J6_bitCount_0f7a4_10  (l0 : Int32) (σ : jM) (r : Int32 × jM)  (h : f_J6_bitCount_0f7a4_10  l0 σ = some r) : J mi_J6_bitCount_0f7a4 1 0 0 (jqI r) 10 [(0, .int l0)] [] (ms σ) := by
  unfold f_J6_bitCount_0f7a4_10 at h
  refine J_iload_n 0 dJ6_bitCount_0f7a4_10 rfl ?_
  refine J_ldcw dJ6_bitCount_0f7a4_11 ct_J6_266 ?_
  refine J_iand dJ6_bitCount_0f7a4_14 ?_
  refine J_iload_n 0 dJ6_bitCount_0f7a4_15 rfl ?_
  refine J_iconst (v := 2) dJ6_bitCount_0f7a4_16 (by decide) ?_
  refine J_iushr dJ6_bitCount_0f7a4_17 ?_
  refine J_ldcw dJ6_bitCount_0f7a4_18 ct_J6_266 ?_
  refine J_iand dJ6_bitCount_0f7a4_21 ?_
  refine J_iadd dJ6_bitCount_0f7a4_22 ?_
  refine J_istore_n (i := 0) (ls' := [(0, .int ((l0 &&& 858993459) + ((jushr l0 2) &&& 858993459)))]) dJ6_bitCount_0f7a4_23 rfl (by decide) rfl ?_
  exact t_J6_bitCount_0f7a4_24  _ _ _  h
set_option maxRecDepth 20000 in
set_option maxHeartbeats 4000000 in
theorem t_J6_bitCount_0f7a4 {a0 : Int32} {σ : jM} {r : Int32 × jM}  (h : f_J6_bitCount_0f7a4 a0 σ = some r) : J mi_J6_bitCount_0f7a4 1 0 0 (jqI r) 0 [(0, .int a0)] [] (ms σ) := by
  unfold f_J6_bitCount_0f7a4 at h
  refine J_iload_n 0 dJ6_bitCount_0f7a4_0 rfl ?_
  refine J_iload_n 0 dJ6_bitCount_0f7a4_1 rfl ?_
  refine J_iconst (v := 1) dJ6_bitCount_0f7a4_2 (by decide) ?_
  refine J_iushr dJ6_bitCount_0f7a4_3 ?_
  refine J_ldcw dJ6_bitCount_0f7a4_4 ct_J6_265 ?_
  refine J_iand dJ6_bitCount_0f7a4_7 ?_
  refine J_isub dJ6_bitCount_0f7a4_8 ?_
  refine J_istore_n (i := 0) (ls' := [(0, .int (a0 - ((jushr a0 1) &&& 1431655765)))]) dJ6_bitCount_0f7a4_9 rfl (by decide) rfl ?_
  exact t_J6_bitCount_0f7a4_10  _ _ _  h
